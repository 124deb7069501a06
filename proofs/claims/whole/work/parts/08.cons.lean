/-! CONSTRUCTORS: the cells come one behind the other from the world's first address on; C lists them. -/
def mkw (V : Ev) (C : List va_E) : va_W := C.mapIdx (fun k e => (V.2.2.1 + k, e))
theorem mkw_at (V : Ev) (C : List va_E) {k : Nat} {e : va_E} (h : C[k]? = some e) : (mkw V C)[k]? = some (V.2.2.1 + k, e) := by
  unfold mkw; rw [List.getElem?_mapIdx, h]; rfl
theorem mkw_D (V : Ev) (C : List va_E) : va_D (AA V) (mkw V C) := by
  have hq : ∀ (i : Nat) (q : Nat × va_E), (mkw V C)[i]? = some q → q.1 = V.2.2.1 + i := by
    intro i q h
    unfold mkw at h
    rw [List.getElem?_mapIdx] at h
    cases hs : C[i]? with
    | none => rw [hs] at h; cases h
    | some s => rw [hs] at h; cases h; rfl
  refine ⟨fun i j p q h1 h2 h3 => ?_, fun k q h => ?_⟩
  · have e1 := hq i p h1
    have e2 := hq j q h2
    omega
  · show V.2.2.1 ≤ q.1
    rw [hq k q h]; omega
theorem mkw_set (V : Ev) (C : List va_E) (k : Nat) (e : va_E) : (mkw V C).set k (V.2.2.1 + k, e) = mkw V (C.set k e) := by
  apply List.ext_getElem?
  intro i
  unfold mkw
  rw [List.getElem?_mapIdx]
  by_cases h : i = k
  · subst h
    by_cases hl : i < C.length
    · rw [List.getElem?_set_self (by rw [List.length_mapIdx]; exact hl), List.getElem?_set_self hl]; rfl
    · rw [List.getElem?_eq_none (by rw [List.length_set, List.length_mapIdx]; omega), List.getElem?_eq_none (by rw [List.length_set]; omega)]; rfl
  · rw [List.getElem?_set_ne (Ne.symm h), List.getElem?_set_ne (Ne.symm h), List.getElem?_mapIdx]
theorem mkw_push (V : Ev) (C : List va_E) (e : va_E) : mkw V (C ++ [e]) = mkw V C ++ [(V.2.2.1 + C.length, e)] := by
  unfold mkw
  rw [List.mapIdx_append]
  rfl
def rmc (d mc ms : Nat) : Room := { frames := d, cells := mc, slots := ms, locals := 100 * d }
def Qk (V : Ev) (C : List va_E) : Array Value → State → Outcome → State → Prop := fun _ st oc t => (oc = .returned none ∧ va_P V.1 vwCl (mkw V C) t.heap) ∧ va_F (AA V) st t
def Pk (V : Ev) (av : List Value) (C : List va_E) : Array Value → State → Prop := fun v U => v = av.toArray ∧ U.heap.size = V.2.2.1 + C.length ∧ va_P V.1 vwCl (mkw V C) U.heap ∧ Wk V U
def Rc (V : Ev) (d : Nat) (M : Mi) (av : List Value) (C C' : List va_E) (mc ms : Nat) : Prop := ∀ l : Launch, Met l M.1 (ww M) (rmc d mc ms) (Pk V av C) (Qk V C') mc ms (AA V)
def Gc (V : Ev) (Γ : Cn) (M : Mi) (Z : Zt) (pc : Nat) (lv : List (Nat × Value)) (st : List Value) (C : List va_E) : Prop :=
  ∀ (H : Heap) (locs : List Loc) (ls : Array Slot), va_P V.1 vwCl (mkw V C) H → va_S (AA V) Γ.2.2.2.1.heap H locs → lv_has ls M.2.2.1 lv →
    W Γ.1 Γ.2.1 Γ.2.2.1 Z.1 Γ.2.2.2.1 Γ.2.2.2.2.1 Γ.2.2.2.2.2.1 Γ.2.2.2.2.2.2.1 Γ.2.2.2.2.2.2.2.1 Γ.2.2.2.2.2.2.2.2 H locs Z.2.1 Z.2.2.1 Z.2.2.2 (F0 Γ.2.2.2.2.1 pc ls st)
/-- the context of a constructor: its name, and how many cells stood as it began -/
def Ci (V : Ev) (Γ : Cn) (M : Mi) (n0 : Nat) : Prop := Cx V Γ M ∧ Γ.2.2.2.2.2.2.2.1.name = "<init>" ∧ Γ.2.2.2.1.heap.size = V.2.2.1 + n0
theorem Rc.of {V : Ev} {d mc ms : Nat} {M : Mi} {av : List Value} {C C' : List va_E} (hy : plainName M.1.cls = true) (hi : M.1.name = "<init>") (hn : (lg_sl av).length ≤ M.2.2.1) (body : ∀ Γ : Cn, Ci V Γ M C.length → Gc V Γ M (rmc d mc ms, 0, 0, MQ Γ.2.2.2.2.2.2.1 (Qk V C') Γ.2.2.2.2.2.1 Γ.2.2.2.1 mc ms (AA V)) 0 (lv_args 0 av) [] C) : Rc V d M av C C' mc ms := by
  intro l
  refine Met.ofW (cc := M.2.1) (maxL := M.2.2.1) (ret := M.2.2.2) hy rfl ?_
  intro p e s m args below meth c s₁ B hml hv
  obtain ⟨rfl, hsz, hP, hW⟩ := hv
  have hts := atoms_spec (ws := ww M) B.pre
  have hown : s.vm.findClass M.1.cls = some m.cls := findClass_of_methodNamed B.named
  have hnm : meth.name = "<init>" := ((name_of_methodNamed B.named B.method).1).trans hi
  have key := body (p, l, e, s, m, av.toArray, below, meth, c) ⟨⟨B.exec, B.bytes, hml, hown, fun w hw => hts w (List.mem_cons_of_mem _ hw), B.returns, B.notSynchronized, hW⟩, hnm, hsz⟩
  rw [lg_entry_eq]
  exact key s.heap [] _ hP va_S.rf (lv_entry av hn)
theorem W.size {p : Program} {l : Launch} {e : Env} {R : Room} {s : State} {m : MethodId} {args : Array Value} {below : List Frame} {meth : Method} {c : Code} {H : Heap} {locs : List Loc} {cells slots : Nat} {Q : State → Prop} {g : JFrame} (h : H.size ≤ s.heap.size + cells → W p l e R s m args below meth c H locs cells slots Q g) : W p l e R s m args below meth c H locs cells slots Q g :=
  fun T hT X => h (by rw [← hT]; exact X.heapSize) T hT X
theorem mkw_size {V : Ev} {C : List va_E} {s : State} {H : Heap} {locs : List Loc} {k9 n0 : Nat} (h0 : s.heap.size = V.2.2.1 + n0) (hk : n0 + k9 = C.length) (hP : va_P V.1 vwCl (mkw V C) H) (hS : va_S (AA V) s.heap H locs) (hu : H.size ≤ s.heap.size + k9) : H.size = V.2.2.1 + C.length := by
  have h1 := hS.1
  by_cases hz : k9 = 0
  · omega
  · have hl : C.length - 1 < C.length := by omega
    have he := mkw_at V C (List.getElem?_eq_getElem hl)
    have := (hP _ _ he).lt
    dsimp only at this
    omega
/-- a class' own fields are linked plainly: the nest's links name other classes -/
theorem nest_final {own host : String} {index ci i : Nat} {Cn9 : String} {T : u_T} {N : Nat} (h1 : (T i).1 = own) (h2 : vwCl[ci]? = some (Cn9, T, N)) (h3 : i < N) (h4 : (T i).2.2.2 = true) : Cond.fieldLinkNest own index (T i).1 (T i).2.1 (T i).2.2.1 host ∉ lw_nest := by
  intro h
  rw [h1] at h
  have h := (List.mem_filter.mp h).1
  have key : ∀ w ∈ tables_1, (match w with | .fieldLinkNest a _ b _ _ _ => decide (a ≠ b) | _ => true) = true := by decide +kernel
  have := key _ h
  simp at this
section GC
variable {V : Ev} {Γ : Cn} {M : Mi} {R : Room} {k9 n9 : Nat} {Q : State → Prop} {pc : Nat} {lv : List (Nat × Value)} {st : List Value} {C : List va_E}
theorem c_aload_n {k : Fin 4} {x : Nat} (X : Cx V Γ M) (q : Nat) (hq : lv[q]? = some ((k : Nat), .ref x)) (hd : decode M.2.1 pc = .ok (.aload_n k, 1)) (kk : Gc V Γ M (R, k9, n9, Q) (pc + 1) lv (.ref x :: st) C) : Gc V Γ M (R, k9, n9, Q) pc lv st C := by
  intro H locs ls hP hS hl
  obtain ⟨hx, hb, hml, hown, hts, hrr, hlk, hWk⟩ := X
  exact lv_aload_n hx hb hd rfl (lv_at hl q hq) (kk H locs ls hP hS hl)
theorem c_iload_n {k : Fin 4} {x : Int32} (X : Cx V Γ M) (q : Nat) (hq : lv[q]? = some ((k : Nat), .int x)) (hd : decode M.2.1 pc = .ok (.iload_n k, 1)) (kk : Gc V Γ M (R, k9, n9, Q) (pc + 1) lv (.int x :: st) C) : Gc V Γ M (R, k9, n9, Q) pc lv st C := by
  intro H locs ls hP hS hl
  obtain ⟨hx, hb, hml, hown, hts, hrr, hlk, hWk⟩ := X
  exact lv_iload_n hx hb hd rfl (lv_at hl q hq) (kk H locs ls hP hS hl)
theorem c_iconst {n : Int} {v : Int32} (X : Cx V Γ M) (hv : Int32.ofInt n = v) (hd : decode M.2.1 pc = .ok (.iconst n, 1)) (kk : Gc V Γ M (R, k9, n9, Q) (pc + 1) lv (.int v :: st) C) : Gc V Γ M (R, k9, n9, Q) pc lv st C := by
  intro H locs ls hP hS hl
  obtain ⟨hx, hb, hml, hown, hts, hrr, hlk, hWk⟩ := X
  exact lv_iconst hx hb hd hv (kk H locs ls hP hS hl)
theorem c_bipush {n : Int} {v : Int32} (X : Cx V Γ M) (hv : (Int8.ofInt n).toInt32 = v) (hd : decode M.2.1 pc = .ok (.bipush n, 2)) (kk : Gc V Γ M (R, k9, n9, Q) (pc + 2) lv (.int v :: st) C) : Gc V Γ M (R, k9, n9, Q) pc lv st C := by
  intro H locs ls hP hS hl
  obtain ⟨hx, hb, hml, hown, hts, hrr, hlk, hWk⟩ := X
  exact lv_bipush hx hb hd hv (kk H locs ls hP hS hl)
theorem c_sipush {n : Int} {v : Int32} (X : Cx V Γ M) (hv : (Int16.ofInt n).toInt32 = v) (hd : decode M.2.1 pc = .ok (.sipush n, 3)) (kk : Gc V Γ M (R, k9, n9, Q) (pc + 3) lv (.int v :: st) C) : Gc V Γ M (R, k9, n9, Q) pc lv st C := by
  intro H locs ls hP hS hl
  obtain ⟨hx, hb, hml, hown, hts, hrr, hlk, hWk⟩ := X
  exact lv_sipush hx hb hd hv (kk H locs ls hP hS hl)
theorem c_lconst {n : Fin 2} {v : Int64} (X : Cx V Γ M) (hv : Int64.ofNat (n : Nat) = v) (hd : decode M.2.1 pc = .ok (.lconst n, 1)) (kk : Gc V Γ M (R, k9, n9, Q) (pc + 1) lv (.long v :: st) C) : Gc V Γ M (R, k9, n9, Q) pc lv st C := by
  intro H locs ls hP hS hl
  obtain ⟨hx, hb, hml, hown, hts, hrr, hlk, hWk⟩ := X
  exact lv_lconst hx hb hd hv (kk H locs ls hP hS hl)
theorem c_dup {a : Value} (X : Cx V Γ M) (hc : a.category = 1) (hd : decode M.2.1 pc = .ok (.dup, 1)) (kk : Gc V Γ M (R, k9, n9, Q) (pc + 1) lv (a :: a :: st) C) : Gc V Γ M (R, k9, n9, Q) pc lv (a :: st) C := by
  intro H locs ls hP hS hl
  obtain ⟨hx, hb, hml, hown, hts, hrr, hlk, hWk⟩ := X
  exact lv_dup hx hb hd hc (kk H locs ls hP hS hl)
theorem c_istore_n {k : Fin 4} {i : Nat} {x : Int32} (X : Cx V Γ M) (lv' : List (Nat × Value)) (hi : (k : Nat) = i) (hn : i < M.2.2.1) (hl' : (i, Value.int x) :: lv.filter (fun q => !(q.1 == i) && !(q.1 + 1 == i && q.2.category == 2)) = lv') (hd : decode M.2.1 pc = .ok (.istore_n k, 1)) (kk : Gc V Γ M (R, k9, n9, Q) (pc + 1) lv' st C) : Gc V Γ M (R, k9, n9, Q) pc lv (.int x :: st) C := by
  intro H locs ls hP hS hl
  obtain ⟨hx, hb, hml, hown, hts, hrr, hlk, hWk⟩ := X
  exact lv_istore_n hx hb hd hi hl hn hl' (fun ls2 hl2 => kk H locs ls2 hP hS hl2)
theorem c_astore_n {k : Fin 4} {i : Nat} {x : Nat} (X : Cx V Γ M) (lv' : List (Nat × Value)) (hi : (k : Nat) = i) (hn : i < M.2.2.1) (hl' : (i, Value.ref x) :: lv.filter (fun q => !(q.1 == i) && !(q.1 + 1 == i && q.2.category == 2)) = lv') (hd : decode M.2.1 pc = .ok (.astore_n k, 1)) (kk : Gc V Γ M (R, k9, n9, Q) (pc + 1) lv' st C) : Gc V Γ M (R, k9, n9, Q) pc lv (.ref x :: st) C := by
  intro H locs ls hP hS hl
  obtain ⟨hx, hb, hml, hown, hts, hrr, hlk, hWk⟩ := X
  exact lv_astore_n hx hb hd hi hl hn hl' (fun ls2 hl2 => kk H locs ls2 hP hS hl2)
theorem c_iinc {i : Nat} {n : Int} {x v : Int32} (X : Cx V Γ M) (lv' : List (Nat × Value)) (q : Nat) (hq : lv[q]? = some (i, .int x)) (hv : x + Int32.ofInt n = v) (hn : i < M.2.2.1) (hl' : (i, Value.int v) :: lv.filter (fun q => !(q.1 == i) && !(q.1 + 1 == i && q.2.category == 2)) = lv') (hd : decode M.2.1 pc = .ok (.iinc i n, 3)) (kk : Gc V Γ M (R, k9, n9, Q) (pc + 3) lv' st C) : Gc V Γ M (R, k9, n9, Q) pc lv st C := by
  intro H locs ls hP hS hl
  obtain ⟨hx, hb, hml, hown, hts, hrr, hlk, hWk⟩ := X
  exact lv_iinc hx hb hd hl hq hv hn hl' (fun ls2 hl2 => kk H locs ls2 hP hS hl2)
theorem c_goto {off : Int} {tgt : Nat} (X : Cx V Γ M) (hd : decode M.2.1 pc = .ok (.goto off, 3)) (ht : (pc : Int) + off = (tgt : Int)) (kk : Gc V Γ M (R, k9, n9, Q) tgt lv st C) : Gc V Γ M (R, k9, n9, Q) pc lv st C := by
  intro H locs ls hP hS hl
  obtain ⟨hx, hb, hml, hown, hts, hrr, hlk, hWk⟩ := X
  exact lv_goto hx hb hd ht (kk H locs ls hP hS hl)
theorem c_icmp_ge {x y : Int32} {off : Int} {tgt : Nat} (X : Cx V Γ M) (hd : decode M.2.1 pc = .ok (.if_icmp .ge off, 3)) (ht : (pc : Int) + off = (tgt : Int)) (kt : y ≤ x → Gc V Γ M (R, k9, n9, Q) tgt lv st C) (kf : ¬ y ≤ x → Gc V Γ M (R, k9, n9, Q) (pc + 3) lv st C) : Gc V Γ M (R, k9, n9, Q) pc lv (.int y :: .int x :: st) C := by
  intro H locs ls hP hS hl
  obtain ⟨hx, hb, hml, hown, hts, hrr, hlk, hWk⟩ := X
  exact lv_icmp_ge hx hb hd ht (fun h => kt h H locs ls hP hS hl) (fun h => kf h H locs ls hP hS hl)
theorem c_objInit {a idx : Nat} (X : Cx V Γ M) (h1 : Cond.methodLink M.1.cls idx Lib.objectInit ∈ lw_good) (h2 : Cond.instanceMethod Lib.objectInit ∈ lw_good) (h3 : Cond.code Lib.objectInit ⟨#[0xb1]⟩ 1 none ∈ lw_good) (hfr : 1 ≤ R.frames) (hlo : (st.map fun v => v.category).sum + 12 ≤ R.locals) (hd : decode M.2.1 pc = .ok (.invokespecial idx, 3)) (kk : Gc V Γ M (R, k9, n9, Q) (pc + 3) lv st C) : Gc V Γ M (R, k9, n9, Q) pc lv (.ref a :: st) C := by
  intro H locs ls hP hS hl
  obtain ⟨hx, hb, hml, hown, hts, hrr, hlk, hWk⟩ := X
  exact W.objInit hx hb hown (hts _ h1) (hts _ h2) (hts _ h3) rfl (by rw [hml]; exact hl.1) rfl hd hfr (by show 2 * 0 + _ + 12 ≤ _; omega) (kk H locs ls hP hS hl)
/-- a cell more -/
theorem c_more {H H1 : Heap} {e : va_E} (hz : H.size = V.2.2.1 + C.length) (hP : va_P V.1 vwCl (mkw V C) H) (o1 : ∀ q, q < H.size → H1[q]? = H[q]?) (he : va_at V.1 vwCl (V.2.2.1 + C.length, e) H1) : va_P V.1 vwCl (mkw V (C ++ [e])) H1 := by
  rw [mkw_push]
  refine (hP.kept (fun k x hx => o1 x.1 ((hP k x hx).lt))).app (fun k x hx => ?_)
  have hk : k < 1 := (List.getElem?_eq_some_iff.mp hx).1
  rw [show k = 0 by omega] at hx
  cases hx
  exact he
theorem c_moreS {H H1 : Heap} {locs : List Loc} {H0 : Heap} (hS : va_S (AA V) H0 H locs) (z1 : H1.size = H.size + 1) (o1 : ∀ q, q < H.size → H1[q]? = H[q]?) : va_S (AA V) H0 H1 locs :=
  ⟨Nat.le_trans hS.1 (by omega), fun x h1 h2 => (o1 x (Nat.lt_of_lt_of_le h1 hS.1)).trans (hS.2.1 x h1 h2), hS.2.2⟩
theorem c_newa {atype : ArrayType} {ty : FieldType} {n : Int32} {N ak : Nat} {a0 : (Nat → Int32) ⊕ (Nat → Int64) ⊕ (Nat → UInt32) ⊕ (Nat → UInt64) ⊕ (Nat → Option Nat)} (X : Cx V Γ M) {n0 : Nat} (h0 : Γ.2.2.2.1.heap.size = V.2.2.1 + n0) (hk9 : n0 + k9 = C.length) (hw : Cond.arrayClass (newarray.typeOf atype) ∈ lw_good) (hty : newarray.typeOf atype = ty) (hp : ∀ C, ty ≠ .object C) (ht : (tys V)[ak]? = some (V.2.1 ak, ty)) (ha : ∀ cA : ClassId, vp_cell cA (N, a0) = arrV cA N (fun _ => defaultValue ty)) (hn : ¬ n < 0) (hN : n.toNatClampNeg = N) (hby : N * componentBytes ty ≤ 536870912) (hc : k9 + 1 ≤ R.cells) (hs : n9 + N ≤ R.slots) (hd : decode M.2.1 pc = .ok (.newarray atype, 2))
    (kk : Gc V Γ M (R, k9 + 1, n9 + N, Q) (pc + 2) lv (.ref (V.2.2.1 + C.length) :: st) (C ++ [.inl (V.2.1 ak, N, a0)])) : Gc V Γ M (R, k9, n9, Q) pc lv (.int n :: st) C := by
  intro H locs ls hP hS hl
  refine W.size (fun hu => ?_)
  have hz := mkw_size h0 hk9 hP hS hu
  obtain ⟨hx, hb, hml, hown, hts, hrr, hlk, hWk⟩ := X
  subst hty
  refine W.newa hx hb (hts _ hw) rfl hd rfl hn (by rw [hN]; exact hby) hc (by rw [hN]; exact hs) fun cA kA comp h1 h2 h3 => ?_
  have hcA : cA = V.2.1 ak := by
    have h5 := (hWk.1.2 ak _ ht).2
    unfold va_RA at h5
    split at h5
    · rename_i C9 e9; exact absurd e9 (hp C9)
    · exact Option.some.inj (h1.symm.trans h5)
  subst hcA
  rw [hN]
  have o1 : ∀ q, q < H.size → (H.push ({ cls := V.2.1 ak, slots := Array.replicate N (defaultValue (newarray.typeOf atype)), vm := .none } : Cell))[q]? = H[q]? := fun q hq => by rw [Array.getElem?_push, if_neg (Nat.ne_of_lt hq)]
  have e1 : va_at V.1 vwCl (V.2.2.1 + C.length, .inl (V.2.1 ak, N, a0)) (H.push ({ cls := V.2.1 ak, slots := Array.replicate N (defaultValue (newarray.typeOf atype)), vm := .none } : Cell)) := by
    show _ = some (vp_cell (V.2.1 ak) (N, a0))
    rw [ha, ← hz, Array.getElem?_push_size, ← arrV_new]
  have r := kk _ locs ls (c_more hz hP o1 e1) (c_moreS hS (by rw [Array.size_push]) o1) hl
  rw [← hz] at r
  exact r
theorem c_anew {Cn9 : String} {index : Nat} {n : Int32} {N ak : Nat} (X : Cx V Γ M) {n0 : Nat} (h0 : Γ.2.2.2.1.heap.size = V.2.2.1 + n0) (hk9 : n0 + k9 = C.length) (hw : Cond.classLink M.1.cls index Cn9 ∈ lw_good) (hov : (Cond.arrayOver (.object Cn9)).before Γ.2.2.2.2.2.1 Γ.2.2.2.1 = true) (ht : (tys V)[ak]? = some (V.2.1 ak, .object Cn9)) (hn : ¬ n < 0) (hN : n.toNatClampNeg = N) (hby : N * 4 ≤ 536870912) (hc : k9 + 1 ≤ R.cells) (hs : n9 + N ≤ R.slots) (hd : decode M.2.1 pc = .ok (.anewarray index, 3))
    (kk : Gc V Γ M (R, k9 + 1, n9 + N, Q) (pc + 3) lv (.ref (V.2.2.1 + C.length) :: st) (C ++ [.inl (V.2.1 ak, N, .inr (.inr (.inr (.inr (fun _ => none)))))])) : Gc V Γ M (R, k9, n9, Q) pc lv (.int n :: st) C := by
  intro H locs ls hP hS hl
  refine W.size (fun hu => ?_)
  have hz := mkw_size h0 hk9 hP hS hu
  obtain ⟨hx, hb, hml, hown, hts, hrr, hlk, hWk⟩ := X
  refine W.anew hx hb hown (hts _ hw) hov rfl hd rfl hn (by rw [hN]; exact hby) hc (by rw [hN]; exact hs) fun cA kA comp f1 f2 f3 f4 => ?_
  have hcA : cA = V.2.1 ak := by
    obtain ⟨kA9, comp9, -, -, -, h5⟩ := (hWk.1.2 ak _ ht).2
    exact Option.some.inj (f1.symm.trans h5)
  subst hcA
  rw [hN]
  have o1 : ∀ q, q < H.size → (H.push ({ cls := V.2.1 ak, slots := Array.replicate N .null, vm := .none } : Cell))[q]? = H[q]? := fun q hq => by rw [Array.getElem?_push, if_neg (Nat.ne_of_lt hq)]
  have e1 : va_at V.1 vwCl (V.2.2.1 + C.length, .inl (V.2.1 ak, N, .inr (.inr (.inr (.inr (fun _ => none)))))) (H.push ({ cls := V.2.1 ak, slots := Array.replicate N .null, vm := .none } : Cell)) := by
    show _ = some (vp_cell (V.2.1 ak) (N, .inr (.inr (.inr (.inr (fun _ => none))))))
    rw [vp_cell_q, ← hz, Array.getElem?_push_size, ← arrV_new]
    rfl
  have r := kk _ locs ls (c_more hz hP o1 e1) (c_moreS hS (by rw [Array.size_push]) o1) hl
  rw [← hz] at r
  exact r
def Kl (own : String) (index ci N : Nat) (ty : Nat → FieldType) : Prop := ∃ (Cn9 : String) (T : u_T), vwCl[ci]? = some (Cn9, T, N) ∧ (∀ w ∈ u_ws Cn9 T N, w ∈ lw_good) ∧ (∀ k, k < N → parseFieldDescriptor (T k).2.2.1 = some (ty k)) ∧ Cond.classLink own index Cn9 ∈ lw_good ∧ Cond.instantiable Cn9 N ∈ lw_good ∧ Cond.initialized Cn9 ∈ lw_good
theorem c_new {index ci N : Nat} {ty : Nat → FieldType} {fs : List Value} (X : Cx V Γ M) {n0 : Nat} (h0 : Γ.2.2.2.1.heap.size = V.2.2.1 + n0) (hk9 : n0 + k9 = C.length) (hk : Kl M.1.cls index ci N ty) (hfs : ∀ j, j < N → defaultValue (ty j) = vp_V fs j) (hc : k9 + 1 ≤ R.cells) (hs : n9 + N ≤ R.slots) (hd : decode M.2.1 pc = .ok (.new index, 3))
    (kk : Gc V Γ M (R, k9 + 1, n9 + N, Q) (pc + 3) lv (.ref (V.2.2.1 + C.length) :: st) (C ++ [.inr (ci, fs)])) : Gc V Γ M (R, k9, n9, Q) pc lv st C := by
  intro H locs ls hP hS hl
  refine W.size (fun hu => ?_)
  have hz := mkw_size h0 hk9 hP hS hu
  obtain ⟨hx, hb, hml, hown, hts, hrr, hlk, hWk⟩ := X
  obtain ⟨Cn9, T, h1, h2, h3, h4, h5, h6⟩ := hk
  have hKn := hWk.1.1 ci _ h1
  refine W.newcK hx hb hown (hts _ h4) (hts _ h5) (hts _ h6) rfl hd hc hs hKn.2.1 rfl fun H1 kC hkC e1 z1 o1 => ?_
  have e2 : va_at V.1 vwCl (V.2.2.1 + C.length, .inr (ci, fs)) H1 := by
    refine ⟨_, h1, ?_⟩
    rw [← hz]
    exact (u_born ty hts h2 hKn hkC e1 h3).to hfs
  have r := kk H1 locs ls (c_more hz hP o1 e2) (c_moreS hS z1 o1) hl
  rw [← hz] at r
  exact r
theorem c_put {index ci i k n0 : Nat} {fs : List Value} {ty : FieldType} {fin : Bool} {v : Value} (C' : List va_E) (X : Ci V Γ M n0) (hF : Fl M.1.cls index ci i ty fin) (hdec : ∀ Cn9 T N, vwCl[ci]? = some (Cn9, T, N) → (T i).1 = M.1.cls) (he : C[k]? = some (.inr (ci, fs))) (hn : narrow ty v = v) (hfit : fits ty v = true) (hl9 : i < fs.length) (hC : C.set k (.inr (ci, fs.set i v)) = C') (hd : decode M.2.1 pc = .ok (.putfield index, 3))
    (kk : Gc V Γ M (R, k9, n9, Q) (pc + 3) lv st C') : Gc V Γ M (R, k9, n9, Q) pc lv (v :: .ref (V.2.2.1 + k) :: st) C := by
  intro H locs ls hP hS hl
  obtain ⟨⟨hx, hb, hml, hown, hts, hrr, hlk, hWk⟩, hnm, -⟩ := X
  obtain ⟨Cn9, T, N, ty0, h1, h2, h3, h4, h5, h6, h7, h8⟩ := hF
  have hd2 : parseFieldDescriptor (T i).2.2.1 = some ty := by rw [← h6]; exact h4 i h2
  have hdc := hdec _ _ _ h1
  have key : ∀ (H1 : Heap) (locs1 : List Loc), va_P V.1 vwCl ((mkw V C).set k (V.2.2.1 + k, .inr (ci, fs.set i v))) H1 → va_D (AA V) ((mkw V C).set k (V.2.2.1 + k, .inr (ci, fs.set i v))) → va_S (AA V) Γ.2.2.2.1.heap H1 locs1 → W Γ.1 Γ.2.1 Γ.2.2.1 R Γ.2.2.2.1 Γ.2.2.2.2.1 Γ.2.2.2.2.2.1 Γ.2.2.2.2.2.2.1 Γ.2.2.2.2.2.2.2.1 Γ.2.2.2.2.2.2.2.2 H1 locs1 k9 n9 Q (F0 Γ.2.2.2.2.1 (pc + 3) ls st) := by
    intro H1 locs1 hP1 _ hS1
    rw [mkw_set, hC] at hP1
    exact kk H1 locs1 ls hP1 hS1 hl
  rcases h8 with h8 | ⟨host, h8⟩
  · cases fin with
    | true => exact va_putF hx hb hts h3 ty0 h4 h5 hown hWk.1 hP (mkw_D V C) hS k (mkw_at V C he) h1 i h2 (hts _ h8) (fun x h => h) h7 hnm hdc hd2 hn hfit hl9 hd key
    | false => exact va_put hx hb hts h3 ty0 h4 h5 hown hWk.1 hP (mkw_D V C) hS k (mkw_at V C he) h1 i h2 (hts _ h8) (fun x h => h) h7 hd2 hn hfit hl9 hd key
  · cases fin with
    | true => exact absurd h8 (nest_final hdc h1 h2 h7)
    | false => exact va_putN hx hb hts h3 ty0 h4 h5 hown hWk.1 hP (mkw_D V C) hS k (mkw_at V C he) h1 i h2 (va_Nw.use rfl (hWk.2.1 _ h8)) (fun x h => h) h7 hd2 hn hfit hl9 hd key
theorem c_iast {k n : Nat} {j x : Int32} {f : Nat → Int32} (C' : List va_E) (X : Cx V Γ M) (he : C[k]? = some (.inl (V.2.1 0, n, .inl f))) (hi : ix j n = true) (hC : C.set k (.inl (V.2.1 0, n, .inl (upd f (tn j) x))) = C') (hd : decode M.2.1 pc = .ok (.iastore, 1)) (kk : Gc V Γ M (R, k9, n9, Q) (pc + 1) lv st C') : Gc V Γ M (R, k9, n9, Q) pc lv (.int x :: .int j :: .ref (V.2.2.1 + k) :: st) C := by
  intro H locs ls hP hS hl
  obtain ⟨hx, hb, hml, hown, hts, hrr, hlk, hWk⟩ := X
  refine va_iast hx hb hWk.1 hP (mkw_D V C) hS k 0 (mkw_at V C he) rfl (ix_in hi) hd (fun H1 locs1 hP1 _ hS1 => ?_)
  rw [mkw_set, hC] at hP1
  exact kk H1 locs1 ls hP1 hS1 hl
theorem c_aast {k n v ci ak : Nat} {j : Int32} {f : Nat → Option Nat} {vs : List Value} {r : vw_C} (C' : List va_E) (X : Cx V Γ M) (he : C[k]? = some (.inl (V.2.1 ak, n, .inr (.inr (.inr (.inr f)))))) (hv : C[v]? = some (.inr (ci, vs))) (hr : vwCl[ci]? = some r) (ht : (tys V)[ak]? = some (V.2.1 ak, .object r.1)) (hi : ix j n = true) (hC : C.set k (.inl (V.2.1 ak, n, .inr (.inr (.inr (.inr (va_up f (tn j) (some (V.2.2.1 + v)))))))) = C') (hd : decode M.2.1 pc = .ok (.aastore, 1)) (kk : Gc V Γ M (R, k9, n9, Q) (pc + 1) lv st C') : Gc V Γ M (R, k9, n9, Q) pc lv (.ref (V.2.2.1 + v) :: .int j :: .ref (V.2.2.1 + k) :: st) C := by
  intro H locs ls hP hS hl
  obtain ⟨hx, hb, hml, hown, hts, hrr, hlk, hWk⟩ := X
  refine va_astq hx hb hWk.1 hP (mkw_D V C) hS k ak v ci (mkw_at V C he) ht (mkw_at V C hv) hr (ix_in hi) hd (fun H1 locs1 hP1 _ hS1 => ?_)
  rw [mkw_set, hC] at hP1
  exact kk H1 locs1 ls hP1 hS1 hl
theorem c_get {index ci i k : Nat} {fs : List Value} {ty : FieldType} {fin : Bool} {v : Value} (X : Cx V Γ M) (hF : Fl M.1.cls index ci i ty fin) (he : C[k]? = some (.inr (ci, fs))) (hv : fs[i]? = some v) (hd : decode M.2.1 pc = .ok (.getfield index, 3)) (kk : Gc V Γ M (R, k9, n9, Q) (pc + 3) lv (v :: st) C) : Gc V Γ M (R, k9, n9, Q) pc lv (.ref (V.2.2.1 + k) :: st) C := by
  intro H locs ls hP hS hl
  obtain ⟨hx, hb, hml, hown, hts, hrr, hlk, hWk⟩ := X
  obtain ⟨Cn9, T, N, ty0, h1, h2, h3, h4, h5, h6, h7, h8⟩ := hF
  rcases h8 with h8 | ⟨host, h8⟩
  · exact va_get hx hb hts h3 hown hWk.1 hP k (mkw_at V C he) h1 i h2 (hts _ h8) (fun x h => h) hv hd (kk H locs ls hP hS hl)
  · exact va_getN hx hb hts h3 hown hWk.1 hP k (mkw_at V C he) h1 i h2 (va_Nw.use rfl (hWk.2.1 _ h8)) (fun x h => h) hv hd (kk H locs ls hP hS hl)
theorem c_vret {C' : List va_E} (X : Cx V Γ M) (hr : M.2.2.2 = none) (hC : C = C') (hd : decode M.2.1 pc = .ok (.return_, 1)) : Gc V Γ M (R, k9, n9, MQ Γ.2.2.2.2.2.2.1 (Qk V C') Γ.2.2.2.2.2.1 Γ.2.2.2.1 k9 n9 (AA V)) pc lv [] C := by
  intro H locs ls hP hS hl
  obtain ⟨hx, hb, hml, hown, hts, hrr, hlk, hWk⟩ := X
  subst hC
  exact W.vret hx hb (hrr.trans hr) (fun t ht hW => ⟨⟨rfl, by rw [ht]; exact hP⟩, hS.F ht⟩) hS.2.2 hd hlk
theorem Pk_blind (V : Ev) (av : List Value) (C : List va_E) : FrameBlind (Pk V av C) := by
  intro a U g mk h
  obtain ⟨h1, h9, h2, h3, h4, h5⟩ := h
  exact ⟨h1, h9, h2, va_K.moved (u := U) (U := U.calling g mk a) (Vm.Alike.refl U.vm) h3, Nws.same (u := U) (U := U.calling g mk a) rfl h4, Sts.same (u := U) (U := U.calling g mk a) rfl h5⟩
theorem c_call {d' index k mc ms n0 : Nat} {M' : Mi} {C' : List va_E} (X : Cx V Γ M) (h0 : Γ.2.2.2.1.heap.size = V.2.2.1 + n0) (hk9 : n0 + k9 = C.length) (hL : Lk M.1.cls index M') (hO : Ok2 M' 0) (hI : Cond.instanceMethod M'.1 ∈ lw_good) (hni : M'.1.name = "<init>") (hrn : M'.2.2.2 = none) (hM : Rc V d' M' [.ref (V.2.2.1 + k)] C C' mc ms) (hR : d' + 1 ≤ R.frames ∧ 8 + (M'.2.2.1 + 11) + 100 * d' ≤ R.locals) (hzz : k9 + mc ≤ R.cells ∧ n9 + ms ≤ R.slots) (hW : (st.map fun v => v.category).sum ≤ 8) (hd : decode M.2.1 pc = .ok (.invokespecial index, 3))
    (kk : Gc V Γ M (R, k9 + mc, n9 + ms, Q) (pc + 3) lv st C') : Gc V Γ M (R, k9, n9, Q) pc lv (.ref (V.2.2.1 + k) :: st) C := by
  intro H locs ls hP hS hl
  refine W.size (fun hu => ?_)
  have hz := mkw_size h0 hk9 hP hS hu
  obtain ⟨hx, hb, hml, hown, hts, hrr, hlk, hWk⟩ := X
  obtain ⟨o1, o2, o3, o4, o5⟩ := hO
  obtain ⟨y, bts, mL, rt⟩ := M'
  dsimp only at hni hrn o1 o2 o3 o4 o5 hI hR hL hM
  subst hrn
  have hpar : ∀ sig, parseMethodDescriptor y.desc = some sig → 0 = sig.parameters.length := fun sig h => by rw [h] at o5; exact (Option.some.inj o5).symm
  have hpre : PreS Γ.2.2.2.1 H (Pk V [.ref (V.2.2.1 + k)] C) [.ref (V.2.2.1 + k)] := ⟨Pk_blind V _ C, fun U hU hW => ⟨rfl, by rw [hU]; exact hz, by rw [hU]; exact hP, Wk.call hW (fun q h1 h2 => by rw [hU]; exact hS.2.1 q h1 h2) hWk⟩⟩
  have hmon : 2 * (F0 Γ.2.2.2.2.1 pc ls (.ref (V.2.2.1 + k) :: st)).monitorRoom + (st.map fun v => v.category).sum ≤ 8 := by show 2 * 0 + _ ≤ 8; omega
  have hrun : va_Run Γ.1 Γ.2.1 Γ.2.2.1 R Γ.2.2.2.1 Γ.2.2.2.2.1 Γ.2.2.2.2.2.1 Γ.2.2.2.2.2.2.1 Γ.2.2.2.2.2.2.2.1 Γ.2.2.2.2.2.2.2.2 H locs k9 n9 mc ms (F0 Γ.2.2.2.2.1 pc ls (.ref (V.2.2.1 + k) :: st)) st (Qk V C' #[.ref (V.2.2.1 + k)]) (AA V) := by
    have hpay := ww_pay (M' := (y, bts, mL, none)) hts o1
    rcases hL with hL | ⟨host, hL⟩
    · exact va_runI (As := []) ⟨hx, hb, hml, hown, hts⟩ (hM Γ.2.1) ⟨⟨rfl, rfl, hR.1, hR.2, hpay, List.mem_cons_self, hts _ o1, hts _ o2, ⟨o3, o4⟩, hpar, hts _ hL⟩, hni, hts _ hI⟩ hpre rfl rfl hl.1 rfl hmon hd hzz
    · exact va_runIN (As := []) ⟨hx, hb, hml, hown, hts⟩ (hM Γ.2.1) ⟨⟨⟨rfl, rfl, hR.1, hR.2, hpay, List.mem_cons_self⟩, hts _ o1, hts _ o2, ⟨o3, o4⟩, hpar, va_Nw.use rfl (hWk.2.1 _ hL)⟩, hni, hts _ hI⟩ hpre rfl rfl hl.1 rfl hmon hd hzz
  intro T hT X9
  obtain ⟨v1, st₀, t, T', L, g0, X', hLL, e1, e2, ⟨⟨hv, hb9⟩, hz9, hk99⟩, stp⟩ := hrun T hT X9
  cases hv
  rw [g0] at hz9 hk99
  obtain ⟨t2, a1, b1⟩ := kk T'.heap (locs ++ L) ls (by rw [e1]; exact hb9) ⟨Nat.le_trans hS.1 (by rw [e1]; exact hz9), fun q h1 h2 => by rw [e1, hk99 q (Nat.lt_of_lt_of_le h1 hS.1) h2]; exact hS.2.1 q h1 h2, fun q hq => by
      rcases List.mem_append.mp hq with h | h
      · exact hS.2.2 q h
      · exact hLL q h⟩ hl T' rfl X'
  exact ⟨t2, stp t2 a1, b1⟩
theorem arrV_cong {c : ClassId} {N : Nat} {f g : Nat → Value} (h : ∀ j, j < N → f j = g j) : arrV c N f = arrV c N g := by
  unfold arrV
  have : (Array.ofFn (n := N) fun j => f j.val) = Array.ofFn (n := N) fun j => g j.val := by
    congr 1
    funext j
    exact h j.val j.isLt
  rw [this]
theorem c_swap {k n : Nat} {cA : ClassId} {f g : Nat → Option Nat} (C' : List va_E) (he : C[k]? = some (.inl (cA, n, .inr (.inr (.inr (.inr f)))))) (hfg : ∀ j, j < n → f j = g j) (hC : C.set k (.inl (cA, n, .inr (.inr (.inr (.inr g))))) = C') {Z : Zt} (kk : Gc V Γ M Z pc lv st C') : Gc V Γ M Z pc lv st C := by
  intro H locs ls hP hS hl
  refine kk H locs ls ?_ hS hl
  rw [← hC, ← mkw_set]
  intro i q hq
  by_cases e : i = k
  · subst e
    have hk := (List.getElem?_eq_some_iff.mp (mkw_at V C he)).1
    rw [List.getElem?_set_self hk] at hq
    cases hq
    have h1 := hP i _ (mkw_at V C he)
    show _ = some (vp_cell cA (n, .inr (.inr (.inr (.inr g)))))
    have h1 : H[V.2.2.1 + i]? = some (vp_cell cA (n, .inr (.inr (.inr (.inr f))))) := h1
    rw [h1, vp_cell_q, vp_cell_q, arrV_cong (fun j hj => by rw [hfg j hj])]
  · rw [List.getElem?_set_ne (Ne.symm e)] at hq
    exact hP i q hq
theorem c_mnew {index n' k' : Nat} {n k : Int32} (X : Cx V Γ M) {n0 : Nat} (h0 : Γ.2.2.2.1.heap.size = V.2.2.1 + n0) (hk9 : n0 + k9 = C.length) (hw : Cond.classLink M.1.cls index "[[J" ∈ lw_good) (hov : (Cond.arrayOver (.array .long)).before Γ.2.2.2.2.2.1 Γ.2.2.2.1 = true) (hac : Cond.arrayClass .long ∈ lw_good) (hn : ¬ n < 0) (hk : ¬ k < 0) (hN : n.toNatClampNeg = n') (hM : k.toNatClampNeg = k') (hb1 : n' * 4 ≤ 536870912) (hb2 : k' * 8 ≤ 536870912) (hc : k9 + (1 + n') ≤ R.cells) (hs : n9 + (n' + n' * k') ≤ R.slots) (hd : decode M.2.1 pc = .ok (.multianewarray index 2, 4))
    (kk : Gc V Γ M (R, k9 + 1 + n', n9 + n' + n' * k', Q) (pc + 4) lv (.ref (V.2.2.1 + C.length) :: st) (C ++ (.inl (V.2.1 7, n', .inr (.inr (.inr (.inr (fun j => some (V.2.2.1 + (C.length + 1 + j))))))) :: List.replicate n' (.inl (V.2.1 1, k', .inr (.inl (fun _ => 0))))))) : Gc V Γ M (R, k9, n9, Q) pc lv (.int k :: .int n :: st) C := by
  intro H locs ls hP hS hl
  refine W.size (fun hu => ?_)
  have hz := mkw_size h0 hk9 hP hS hu
  obtain ⟨hx, hb, hml, hown, hts, hrr, hlk, hWk⟩ := X
  subst hN
  subst hM
  intro T hT Xs
  obtain ⟨vm₁, cA, comp, -, fA, fC, hO, -, X', step⟩ := Xs.multianewarray2F hx hown (hts _ hw) hov (hts _ hac) (g := F0 _ pc ls (.int k :: .int n :: st)) rfl (by rw [hb]; exact hd) rfl hn hk hb1 hb2 (by omega) rfl rfl hc hs
  have hcA : cA = V.2.1 7 := Option.some.inj (fA.symm.trans (hWk.1.2 7 _ rfl).2)
  have hco : comp = V.2.1 1 := Option.some.inj (fC.symm.trans (hWk.1.2 1 _ rfl).2)
  subst hcA
  subst hco
  generalize hF : Jvm.Free.Multi.fill (T.setVm vm₁) (V.2.1 7) (V.2.1 1) n.toNatClampNeg k.toNatClampNeg (defaultValue .long) n.toNatClampNeg = F at X' step
  have hTh : (T.setVm vm₁).heap = H := hT
  obtain ⟨f1, f2, -, -⟩ := Jvm.Free.Multi.fill_facts (T.setVm vm₁) (V.2.1 7) (V.2.1 1) n.toNatClampNeg k.toNatClampNeg (defaultValue .long) n.toNatClampNeg
  rw [hF, hTh] at f1 f2
  have hold : ∀ x : Nat, x < H.size → F.heap[x]? = H[x]? := fun x hx => by
    have := Jvm.Free.Multi.fill_old (T.setVm vm₁) (V.2.1 7) (V.2.1 1) n.toNatClampNeg k.toNatClampNeg (defaultValue .long) (a := x) (by rw [hTh]; exact hx) n.toNatClampNeg
    rw [hF, hTh] at this
    exact this
  have hrow : ∀ j : Nat, j < n.toNatClampNeg → F.heap[H.size + 1 + j]? = some (vp_cell (V.2.1 1) (k.toNatClampNeg, .inr (.inl (fun _ => 0)))) := fun j hj => by
    have := Jvm.Free.Multi.fill_inner (T.setVm vm₁) (V.2.1 7) (V.2.1 1) n.toNatClampNeg k.toNatClampNeg (defaultValue .long) n.toNatClampNeg j hj
    rw [hF, hTh] at this
    rw [this, vp_cell_l, ← arrV_new]
    rfl
  have hout : Jvm.Free.Multi.outerC (V.2.1 7) n.toNatClampNeg H.size n.toNatClampNeg = vp_cell (V.2.1 7) (n.toNatClampNeg, .inr (.inr (.inr (.inr (fun j => some (V.2.2.1 + (C.length + 1 + j))))))) := by
    rw [vp_cell_q, vr_outer]
    refine arrV_cong (fun j hj => ?_)
    rw [if_pos hj, hz]
    show Value.ref _ = Value.ref _
    congr 1
    omega
  rw [hout] at f2
  have hPF : va_P V.1 vwCl (mkw V (C ++ (.inl (V.2.1 7, n.toNatClampNeg, .inr (.inr (.inr (.inr (fun j => some (V.2.2.1 + (C.length + 1 + j))))))) :: List.replicate n.toNatClampNeg (.inl (V.2.1 1, k.toNatClampNeg, .inr (.inl (fun _ => 0))))))) F.heap := by
    intro i q hq
    unfold mkw at hq
    rw [List.getElem?_mapIdx] at hq
    by_cases h1 : i < C.length
    · rw [List.getElem?_append_left h1, List.getElem?_eq_getElem h1] at hq
      cases hq
      have hold' := hP i _ (mkw_at V C (List.getElem?_eq_getElem h1))
      exact hold'.kept (hold _ hold'.lt)
    · rw [List.getElem?_append_right (by omega)] at hq
      by_cases h2 : i = C.length
      · subst h2
        rw [Nat.sub_self] at hq
        cases hq
        show F.heap[V.2.2.1 + C.length]? = _
        rw [← hz]
        exact f2
      · obtain ⟨j, hj⟩ : ∃ j, i = C.length + 1 + j := ⟨i - C.length - 1, by omega⟩
        subst hj
        rw [show C.length + 1 + j - C.length = j + 1 by omega, List.getElem?_cons_succ] at hq
        by_cases h3 : j < n.toNatClampNeg
        · rw [List.getElem?_replicate, if_pos h3] at hq
          cases hq
          show F.heap[V.2.2.1 + (C.length + 1 + j)]? = _
          rw [show V.2.2.1 + (C.length + 1 + j) = H.size + 1 + j by omega]
          exact hrow j h3
        · rw [List.getElem?_replicate, if_neg h3] at hq
          cases hq
  have hSF : va_S (AA V) Γ.2.2.2.1.heap F.heap locs := ⟨Nat.le_trans hS.1 (by omega), fun x h1 h2 => (hold x (Nat.lt_of_lt_of_le h1 hS.1)).trans (hS.2.1 x h1 h2), hS.2.2⟩
  obtain ⟨t2, a1, b1⟩ := kk F.heap locs ls hPF hSF hl F rfl X'
  refine ⟨t2, step t2 ?_, b1⟩
  have e9 : T.heap.size = V.2.2.1 + C.length := by rw [hT, hz]
  rw [e9]
  exact a1
/-- the world is whole: go on over its numbers -/
theorem c_go {σ : St} {Z : Zt} (h : mkw V C = wd V σ) (kk : Go V Γ M Z pc lv st σ) : Gc V Γ M Z pc lv st C := by
  intro H locs ls hP hS hl
  rw [h] at hP
  exact kk H locs ls hP hS hl
end GC
theorem dX0_init_0 : decode cX0_init 0 = .ok (.aload_n 0, 1) := by decide +kernel
theorem dX0_init_1 : decode cX0_init 1 = .ok (.invokespecial 3, 3) := by decide +kernel
theorem dX0_init_4 : decode cX0_init 4 = .ok (.aload_n 0, 1) := by decide +kernel
theorem dX0_init_5 : decode cX0_init 5 = .ok (.bipush 6, 2) := by decide +kernel
theorem dX0_init_7 : decode cX0_init 7 = .ok (.newarray .int, 2) := by decide +kernel
theorem dX0_init_9 : decode cX0_init 9 = .ok (.putfield 9, 3) := by decide +kernel
theorem dX0_init_12 : decode cX0_init 12 = .ok (.aload_n 0, 1) := by decide +kernel
theorem dX0_init_13 : decode cX0_init 13 = .ok (.bipush 6, 2) := by decide +kernel
theorem dX0_init_15 : decode cX0_init 15 = .ok (.newarray .int, 2) := by decide +kernel
theorem dX0_init_17 : decode cX0_init 17 = .ok (.putfield 15, 3) := by decide +kernel
theorem dX0_init_20 : decode cX0_init 20 = .ok (.aload_n 0, 1) := by decide +kernel
theorem dX0_init_21 : decode cX0_init 21 = .ok (.bipush 7, 2) := by decide +kernel
theorem dX0_init_23 : decode cX0_init 23 = .ok (.bipush 79, 2) := by decide +kernel
theorem dX0_init_25 : decode cX0_init 25 = .ok (.multianewarray 18 2, 4) := by decide +kernel
theorem dX0_init_29 : decode cX0_init 29 = .ok (.putfield 20, 3) := by decide +kernel
theorem dX0_init_32 : decode cX0_init 32 = .ok (.aload_n 0, 1) := by decide +kernel
theorem dX0_init_33 : decode cX0_init 33 = .ok (.iconst 0, 1) := by decide +kernel
theorem dX0_init_34 : decode cX0_init 34 = .ok (.putfield 23, 3) := by decide +kernel
theorem dX0_init_37 : decode cX0_init 37 = .ok (.aload_n 0, 1) := by decide +kernel
theorem dX0_init_38 : decode cX0_init 38 = .ok (.iconst 0, 1) := by decide +kernel
theorem dX0_init_39 : decode cX0_init 39 = .ok (.putfield 27, 3) := by decide +kernel
theorem dX0_init_42 : decode cX0_init 42 = .ok (.aload_n 0, 1) := by decide +kernel
theorem dX0_init_43 : decode cX0_init 43 = .ok (.iconst 1, 1) := by decide +kernel
theorem dX0_init_44 : decode cX0_init 44 = .ok (.putfield 30, 3) := by decide +kernel
theorem dX0_init_47 : decode cX0_init 47 = .ok (.return_, 1) := by decide +kernel
theorem dX1_init_0 : decode cX1_init 0 = .ok (.aload_n 0, 1) := by decide +kernel
theorem dX1_init_1 : decode cX1_init 1 = .ok (.invokespecial 3, 3) := by decide +kernel
theorem dX1_init_4 : decode cX1_init 4 = .ok (.aload_n 0, 1) := by decide +kernel
theorem dX1_init_5 : decode cX1_init 5 = .ok (.bipush 12, 2) := by decide +kernel
theorem dX1_init_7 : decode cX1_init 7 = .ok (.newarray .int, 2) := by decide +kernel
theorem dX1_init_9 : decode cX1_init 9 = .ok (.putfield 9, 3) := by decide +kernel
theorem dX1_init_12 : decode cX1_init 12 = .ok (.aload_n 0, 1) := by decide +kernel
theorem dX1_init_13 : decode cX1_init 13 = .ok (.bipush 12, 2) := by decide +kernel
theorem dX1_init_15 : decode cX1_init 15 = .ok (.newarray .int, 2) := by decide +kernel
theorem dX1_init_17 : decode cX1_init 17 = .ok (.putfield 15, 3) := by decide +kernel
theorem dX1_init_20 : decode cX1_init 20 = .ok (.aload_n 0, 1) := by decide +kernel
theorem dX1_init_21 : decode cX1_init 21 = .ok (.bipush 12, 2) := by decide +kernel
theorem dX1_init_23 : decode cX1_init 23 = .ok (.newarray .long, 2) := by decide +kernel
theorem dX1_init_25 : decode cX1_init 25 = .ok (.putfield 18, 3) := by decide +kernel
theorem dX1_init_28 : decode cX1_init 28 = .ok (.aload_n 0, 1) := by decide +kernel
theorem dX1_init_29 : decode cX1_init 29 = .ok (.iconst 0, 1) := by decide +kernel
theorem dX1_init_30 : decode cX1_init 30 = .ok (.putfield 22, 3) := by decide +kernel
theorem dX1_init_33 : decode cX1_init 33 = .ok (.aload_n 0, 1) := by decide +kernel
theorem dX1_init_34 : decode cX1_init 34 = .ok (.iconst 0, 1) := by decide +kernel
theorem dX1_init_35 : decode cX1_init 35 = .ok (.putfield 26, 3) := by decide +kernel
theorem dX1_init_38 : decode cX1_init 38 = .ok (.aload_n 0, 1) := by decide +kernel
theorem dX1_init_39 : decode cX1_init 39 = .ok (.iconst 4, 1) := by decide +kernel
theorem dX1_init_40 : decode cX1_init 40 = .ok (.putfield 29, 3) := by decide +kernel
theorem dX1_init_43 : decode cX1_init 43 = .ok (.return_, 1) := by decide +kernel
theorem dX2_init_0 : decode cX2_init 0 = .ok (.aload_n 0, 1) := by decide +kernel
theorem dX2_init_1 : decode cX2_init 1 = .ok (.invokespecial 3, 3) := by decide +kernel
theorem dX2_init_4 : decode cX2_init 4 = .ok (.aload_n 0, 1) := by decide +kernel
theorem dX2_init_5 : decode cX2_init 5 = .ok (.bipush 60, 2) := by decide +kernel
theorem dX2_init_7 : decode cX2_init 7 = .ok (.newarray .int, 2) := by decide +kernel
theorem dX2_init_9 : decode cX2_init 9 = .ok (.putfield 9, 3) := by decide +kernel
theorem dX2_init_12 : decode cX2_init 12 = .ok (.aload_n 0, 1) := by decide +kernel
theorem dX2_init_13 : decode cX2_init 13 = .ok (.bipush 60, 2) := by decide +kernel
theorem dX2_init_15 : decode cX2_init 15 = .ok (.newarray .int, 2) := by decide +kernel
theorem dX2_init_17 : decode cX2_init 17 = .ok (.putfield 13, 3) := by decide +kernel
theorem dX2_init_20 : decode cX2_init 20 = .ok (.aload_n 0, 1) := by decide +kernel
theorem dX2_init_21 : decode cX2_init 21 = .ok (.bipush 60, 2) := by decide +kernel
theorem dX2_init_23 : decode cX2_init 23 = .ok (.newarray .int, 2) := by decide +kernel
theorem dX2_init_25 : decode cX2_init 25 = .ok (.putfield 16, 3) := by decide +kernel
theorem dX2_init_28 : decode cX2_init 28 = .ok (.aload_n 0, 1) := by decide +kernel
theorem dX2_init_29 : decode cX2_init 29 = .ok (.bipush 60, 2) := by decide +kernel
theorem dX2_init_31 : decode cX2_init 31 = .ok (.newarray .int, 2) := by decide +kernel
theorem dX2_init_33 : decode cX2_init 33 = .ok (.putfield 19, 3) := by decide +kernel
theorem dX2_init_36 : decode cX2_init 36 = .ok (.aload_n 0, 1) := by decide +kernel
theorem dX2_init_37 : decode cX2_init 37 = .ok (.bipush 60, 2) := by decide +kernel
theorem dX2_init_39 : decode cX2_init 39 = .ok (.newarray .int, 2) := by decide +kernel
theorem dX2_init_41 : decode cX2_init 41 = .ok (.putfield 22, 3) := by decide +kernel
theorem dX2_init_44 : decode cX2_init 44 = .ok (.aload_n 0, 1) := by decide +kernel
theorem dX2_init_45 : decode cX2_init 45 = .ok (.bipush 60, 2) := by decide +kernel
theorem dX2_init_47 : decode cX2_init 47 = .ok (.newarray .int, 2) := by decide +kernel
theorem dX2_init_49 : decode cX2_init 49 = .ok (.putfield 25, 3) := by decide +kernel
theorem dX2_init_52 : decode cX2_init 52 = .ok (.aload_n 0, 1) := by decide +kernel
theorem dX2_init_53 : decode cX2_init 53 = .ok (.iconst 0, 1) := by decide +kernel
theorem dX2_init_54 : decode cX2_init 54 = .ok (.putfield 28, 3) := by decide +kernel
theorem dX2_init_57 : decode cX2_init 57 = .ok (.aload_n 0, 1) := by decide +kernel
theorem dX2_init_58 : decode cX2_init 58 = .ok (.iconst 0, 1) := by decide +kernel
theorem dX2_init_59 : decode cX2_init 59 = .ok (.putfield 32, 3) := by decide +kernel
theorem dX2_init_62 : decode cX2_init 62 = .ok (.aload_n 0, 1) := by decide +kernel
theorem dX2_init_63 : decode cX2_init 63 = .ok (.iconst 0, 1) := by decide +kernel
theorem dX2_init_64 : decode cX2_init 64 = .ok (.putfield 35, 3) := by decide +kernel
theorem dX2_init_67 : decode cX2_init 67 = .ok (.return_, 1) := by decide +kernel
theorem dX5_init_0 : decode cX5_init 0 = .ok (.aload_n 0, 1) := by decide +kernel
theorem dX5_init_1 : decode cX5_init 1 = .ok (.invokespecial 3, 3) := by decide +kernel
theorem dX5_init_4 : decode cX5_init 4 = .ok (.aload_n 0, 1) := by decide +kernel
theorem dX5_init_5 : decode cX5_init 5 = .ok (.bipush 60, 2) := by decide +kernel
theorem dX5_init_7 : decode cX5_init 7 = .ok (.newarray .int, 2) := by decide +kernel
theorem dX5_init_9 : decode cX5_init 9 = .ok (.putfield 11, 3) := by decide +kernel
theorem dX5_init_12 : decode cX5_init 12 = .ok (.aload_n 0, 1) := by decide +kernel
theorem dX5_init_13 : decode cX5_init 13 = .ok (.iconst 0, 1) := by decide +kernel
theorem dX5_init_14 : decode cX5_init 14 = .ok (.putfield 17, 3) := by decide +kernel
theorem dX5_init_17 : decode cX5_init 17 = .ok (.aload_n 0, 1) := by decide +kernel
theorem dX5_init_18 : decode cX5_init 18 = .ok (.iconst 0, 1) := by decide +kernel
theorem dX5_init_19 : decode cX5_init 19 = .ok (.putfield 21, 3) := by decide +kernel
theorem dX5_init_22 : decode cX5_init 22 = .ok (.aload_n 0, 1) := by decide +kernel
theorem dX5_init_23 : decode cX5_init 23 = .ok (.iconst 0, 1) := by decide +kernel
theorem dX5_init_24 : decode cX5_init 24 = .ok (.putfield 25, 3) := by decide +kernel
theorem dX5_init_27 : decode cX5_init 27 = .ok (.aload_n 0, 1) := by decide +kernel
theorem dX5_init_28 : decode cX5_init 28 = .ok (.iconst 0, 1) := by decide +kernel
theorem dX5_init_29 : decode cX5_init 29 = .ok (.putfield 28, 3) := by decide +kernel
theorem dX5_init_32 : decode cX5_init 32 = .ok (.aload_n 0, 1) := by decide +kernel
theorem dX5_init_33 : decode cX5_init 33 = .ok (.iconst 0, 1) := by decide +kernel
theorem dX5_init_34 : decode cX5_init 34 = .ok (.putfield 31, 3) := by decide +kernel
theorem dX5_init_37 : decode cX5_init 37 = .ok (.aload_n 0, 1) := by decide +kernel
theorem dX5_init_38 : decode cX5_init 38 = .ok (.iconst 0, 1) := by decide +kernel
theorem dX5_init_39 : decode cX5_init 39 = .ok (.putfield 34, 3) := by decide +kernel
theorem dX5_init_42 : decode cX5_init 42 = .ok (.aload_n 0, 1) := by decide +kernel
theorem dX5_init_43 : decode cX5_init 43 = .ok (.iconst 0, 1) := by decide +kernel
theorem dX5_init_44 : decode cX5_init 44 = .ok (.putfield 37, 3) := by decide +kernel
theorem dX5_init_47 : decode cX5_init 47 = .ok (.aload_n 0, 1) := by decide +kernel
theorem dX5_init_48 : decode cX5_init 48 = .ok (.iconst 0, 1) := by decide +kernel
theorem dX5_init_49 : decode cX5_init 49 = .ok (.putfield 40, 3) := by decide +kernel
theorem dX5_init_52 : decode cX5_init 52 = .ok (.return_, 1) := by decide +kernel
theorem dX6_init_0 : decode cX6_init 0 = .ok (.aload_n 0, 1) := by decide +kernel
theorem dX6_init_1 : decode cX6_init 1 = .ok (.invokespecial 3, 3) := by decide +kernel
theorem dX6_init_4 : decode cX6_init 4 = .ok (.aload_n 0, 1) := by decide +kernel
theorem dX6_init_5 : decode cX6_init 5 = .ok (.sipush 900, 3) := by decide +kernel
theorem dX6_init_8 : decode cX6_init 8 = .ok (.newarray .byte, 2) := by decide +kernel
theorem dX6_init_10 : decode cX6_init 10 = .ok (.putfield 9, 3) := by decide +kernel
theorem dX6_init_13 : decode cX6_init 13 = .ok (.aload_n 0, 1) := by decide +kernel
theorem dX6_init_14 : decode cX6_init 14 = .ok (.iconst 0, 1) := by decide +kernel
theorem dX6_init_15 : decode cX6_init 15 = .ok (.putfield 15, 3) := by decide +kernel
theorem dX6_init_18 : decode cX6_init 18 = .ok (.aload_n 0, 1) := by decide +kernel
theorem dX6_init_19 : decode cX6_init 19 = .ok (.iconst 0, 1) := by decide +kernel
theorem dX6_init_20 : decode cX6_init 20 = .ok (.putfield 19, 3) := by decide +kernel
theorem dX6_init_23 : decode cX6_init 23 = .ok (.aload_n 0, 1) := by decide +kernel
theorem dX6_init_24 : decode cX6_init 24 = .ok (.sipush 901, 3) := by decide +kernel
theorem dX6_init_27 : decode cX6_init 27 = .ok (.newarray .int, 2) := by decide +kernel
theorem dX6_init_29 : decode cX6_init 29 = .ok (.putfield 22, 3) := by decide +kernel
theorem dX6_init_32 : decode cX6_init 32 = .ok (.aload_n 0, 1) := by decide +kernel
theorem dX6_init_33 : decode cX6_init 33 = .ok (.sipush 901, 3) := by decide +kernel
theorem dX6_init_36 : decode cX6_init 36 = .ok (.newarray .int, 2) := by decide +kernel
theorem dX6_init_38 : decode cX6_init 38 = .ok (.putfield 26, 3) := by decide +kernel
theorem dX6_init_41 : decode cX6_init 41 = .ok (.aload_n 0, 1) := by decide +kernel
theorem dX6_init_42 : decode cX6_init 42 = .ok (.sipush 901, 3) := by decide +kernel
theorem dX6_init_45 : decode cX6_init 45 = .ok (.newarray .long, 2) := by decide +kernel
theorem dX6_init_47 : decode cX6_init 47 = .ok (.putfield 29, 3) := by decide +kernel
theorem dX6_init_50 : decode cX6_init 50 = .ok (.aload_n 0, 1) := by decide +kernel
theorem dX6_init_51 : decode cX6_init 51 = .ok (.iconst 0, 1) := by decide +kernel
theorem dX6_init_52 : decode cX6_init 52 = .ok (.putfield 33, 3) := by decide +kernel
theorem dX6_init_55 : decode cX6_init 55 = .ok (.aload_n 0, 1) := by decide +kernel
theorem dX6_init_56 : decode cX6_init 56 = .ok (.iconst 0, 1) := by decide +kernel
theorem dX6_init_57 : decode cX6_init 57 = .ok (.putfield 36, 3) := by decide +kernel
theorem dX6_init_60 : decode cX6_init 60 = .ok (.aload_n 0, 1) := by decide +kernel
theorem dX6_init_61 : decode cX6_init 61 = .ok (.lconst 0, 1) := by decide +kernel
theorem dX6_init_62 : decode cX6_init 62 = .ok (.putfield 39, 3) := by decide +kernel
theorem dX6_init_65 : decode cX6_init 65 = .ok (.aload_n 0, 1) := by decide +kernel
theorem dX6_init_66 : decode cX6_init 66 = .ok (.iconst (-1), 1) := by decide +kernel
theorem dX6_init_67 : decode cX6_init 67 = .ok (.putfield 43, 3) := by decide +kernel
theorem dX6_init_70 : decode cX6_init 70 = .ok (.aload_n 0, 1) := by decide +kernel
theorem dX6_init_71 : decode cX6_init 71 = .ok (.iconst (-1), 1) := by decide +kernel
theorem dX6_init_72 : decode cX6_init 72 = .ok (.putfield 46, 3) := by decide +kernel
theorem dX6_init_75 : decode cX6_init 75 = .ok (.return_, 1) := by decide +kernel
theorem dX7_init_0 : decode cX7_init 0 = .ok (.aload_n 0, 1) := by decide +kernel
theorem dX7_init_1 : decode cX7_init 1 = .ok (.invokespecial 3, 3) := by decide +kernel
theorem dX7_init_4 : decode cX7_init 4 = .ok (.aload_n 0, 1) := by decide +kernel
theorem dX7_init_5 : decode cX7_init 5 = .ok (.bipush 79, 2) := by decide +kernel
theorem dX7_init_7 : decode cX7_init 7 = .ok (.newarray .long, 2) := by decide +kernel
theorem dX7_init_9 : decode cX7_init 9 = .ok (.putfield 9, 3) := by decide +kernel
theorem dX7_init_12 : decode cX7_init 12 = .ok (.aload_n 0, 1) := by decide +kernel
theorem dX7_init_13 : decode cX7_init 13 = .ok (.bipush 79, 2) := by decide +kernel
theorem dX7_init_15 : decode cX7_init 15 = .ok (.newarray .long, 2) := by decide +kernel
theorem dX7_init_17 : decode cX7_init 17 = .ok (.putfield 15, 3) := by decide +kernel
theorem dX7_init_20 : decode cX7_init 20 = .ok (.aload_n 0, 1) := by decide +kernel
theorem dX7_init_21 : decode cX7_init 21 = .ok (.bipush 64, 2) := by decide +kernel
theorem dX7_init_23 : decode cX7_init 23 = .ok (.newarray .long, 2) := by decide +kernel
theorem dX7_init_25 : decode cX7_init 25 = .ok (.putfield 18, 3) := by decide +kernel
theorem dX7_init_28 : decode cX7_init 28 = .ok (.aload_n 0, 1) := by decide +kernel
theorem dX7_init_29 : decode cX7_init 29 = .ok (.iconst 1, 1) := by decide +kernel
theorem dX7_init_30 : decode cX7_init 30 = .ok (.putfield 21, 3) := by decide +kernel
theorem dX7_init_33 : decode cX7_init 33 = .ok (.aload_n 0, 1) := by decide +kernel
theorem dX7_init_34 : decode cX7_init 34 = .ok (.iconst 1, 1) := by decide +kernel
theorem dX7_init_35 : decode cX7_init 35 = .ok (.putfield 25, 3) := by decide +kernel
theorem dX7_init_38 : decode cX7_init 38 = .ok (.return_, 1) := by decide +kernel
theorem dX9_init_0 : decode cX9_init 0 = .ok (.aload_n 0, 1) := by decide +kernel
theorem dX9_init_1 : decode cX9_init 1 = .ok (.invokespecial 3, 3) := by decide +kernel
theorem dX9_init_4 : decode cX9_init 4 = .ok (.aload_n 0, 1) := by decide +kernel
theorem dX9_init_5 : decode cX9_init 5 = .ok (.bipush 60, 2) := by decide +kernel
theorem dX9_init_7 : decode cX9_init 7 = .ok (.newarray .long, 2) := by decide +kernel
theorem dX9_init_9 : decode cX9_init 9 = .ok (.putfield 9, 3) := by decide +kernel
theorem dX9_init_12 : decode cX9_init 12 = .ok (.aload_n 0, 1) := by decide +kernel
theorem dX9_init_13 : decode cX9_init 13 = .ok (.iconst 0, 1) := by decide +kernel
theorem dX9_init_14 : decode cX9_init 14 = .ok (.putfield 15, 3) := by decide +kernel
theorem dX9_init_17 : decode cX9_init 17 = .ok (.aload_n 0, 1) := by decide +kernel
theorem dX9_init_18 : decode cX9_init 18 = .ok (.iconst (-1), 1) := by decide +kernel
theorem dX9_init_19 : decode cX9_init 19 = .ok (.putfield 19, 3) := by decide +kernel
theorem dX9_init_22 : decode cX9_init 22 = .ok (.return_, 1) := by decide +kernel
theorem dX10_init_0 : decode cX10_init 0 = .ok (.aload_n 0, 1) := by decide +kernel
theorem dX10_init_1 : decode cX10_init 1 = .ok (.invokespecial 1, 3) := by decide +kernel
theorem dX10_init_4 : decode cX10_init 4 = .ok (.aload_n 0, 1) := by decide +kernel
theorem dX10_init_5 : decode cX10_init 5 = .ok (.iconst 0, 1) := by decide +kernel
theorem dX10_init_6 : decode cX10_init 6 = .ok (.putfield 7, 3) := by decide +kernel
theorem dX10_init_9 : decode cX10_init 9 = .ok (.aload_n 0, 1) := by decide +kernel
theorem dX10_init_10 : decode cX10_init 10 = .ok (.iconst 0, 1) := by decide +kernel
theorem dX10_init_11 : decode cX10_init 11 = .ok (.putfield 13, 3) := by decide +kernel
theorem dX10_init_14 : decode cX10_init 14 = .ok (.aload_n 0, 1) := by decide +kernel
theorem dX10_init_15 : decode cX10_init 15 = .ok (.iconst 0, 1) := by decide +kernel
theorem dX10_init_16 : decode cX10_init 16 = .ok (.putfield 16, 3) := by decide +kernel
theorem dX10_init_19 : decode cX10_init 19 = .ok (.aload_n 0, 1) := by decide +kernel
theorem dX10_init_20 : decode cX10_init 20 = .ok (.iconst 0, 1) := by decide +kernel
theorem dX10_init_21 : decode cX10_init 21 = .ok (.putfield 19, 3) := by decide +kernel
theorem dX10_init_24 : decode cX10_init 24 = .ok (.return_, 1) := by decide +kernel
theorem dX11_init_0 : decode cX11_init 0 = .ok (.aload_n 0, 1) := by decide +kernel
theorem dX11_init_1 : decode cX11_init 1 = .ok (.invokespecial 3, 3) := by decide +kernel
theorem dX11_init_4 : decode cX11_init 4 = .ok (.aload_n 0, 1) := by decide +kernel
theorem dX11_init_5 : decode cX11_init 5 = .ok (.iconst 0, 1) := by decide +kernel
theorem dX11_init_6 : decode cX11_init 6 = .ok (.putfield 9, 3) := by decide +kernel
theorem dX11_init_9 : decode cX11_init 9 = .ok (.aload_n 0, 1) := by decide +kernel
theorem dX11_init_10 : decode cX11_init 10 = .ok (.lconst 0, 1) := by decide +kernel
theorem dX11_init_11 : decode cX11_init 11 = .ok (.putfield 13, 3) := by decide +kernel
theorem dX11_init_14 : decode cX11_init 14 = .ok (.aload_n 0, 1) := by decide +kernel
theorem dX11_init_15 : decode cX11_init 15 = .ok (.lconst 1, 1) := by decide +kernel
theorem dX11_init_16 : decode cX11_init 16 = .ok (.putfield 17, 3) := by decide +kernel
theorem dX11_init_19 : decode cX11_init 19 = .ok (.aload_n 0, 1) := by decide +kernel
theorem dX11_init_20 : decode cX11_init 20 = .ok (.iconst 4, 1) := by decide +kernel
theorem dX11_init_21 : decode cX11_init 21 = .ok (.anewarray 20, 3) := by decide +kernel
theorem dX11_init_24 : decode cX11_init 24 = .ok (.putfield 22, 3) := by decide +kernel
theorem dX11_init_27 : decode cX11_init 27 = .ok (.aload_n 0, 1) := by decide +kernel
theorem dX11_init_28 : decode cX11_init 28 = .ok (.new 26, 3) := by decide +kernel
theorem dX11_init_31 : decode cX11_init 31 = .ok (.dup, 1) := by decide +kernel
theorem dX11_init_32 : decode cX11_init 32 = .ok (.invokespecial 28, 3) := by decide +kernel
theorem dX11_init_35 : decode cX11_init 35 = .ok (.putfield 29, 3) := by decide +kernel
theorem dX11_init_38 : decode cX11_init 38 = .ok (.aload_n 0, 1) := by decide +kernel
theorem dX11_init_39 : decode cX11_init 39 = .ok (.new 33, 3) := by decide +kernel
theorem dX11_init_42 : decode cX11_init 42 = .ok (.dup, 1) := by decide +kernel
theorem dX11_init_43 : decode cX11_init 43 = .ok (.invokespecial 35, 3) := by decide +kernel
theorem dX11_init_46 : decode cX11_init 46 = .ok (.putfield 36, 3) := by decide +kernel
theorem dX11_init_49 : decode cX11_init 49 = .ok (.aload_n 0, 1) := by decide +kernel
theorem dX11_init_50 : decode cX11_init 50 = .ok (.new 33, 3) := by decide +kernel
theorem dX11_init_53 : decode cX11_init 53 = .ok (.dup, 1) := by decide +kernel
theorem dX11_init_54 : decode cX11_init 54 = .ok (.invokespecial 35, 3) := by decide +kernel
theorem dX11_init_57 : decode cX11_init 57 = .ok (.putfield 40, 3) := by decide +kernel
theorem dX11_init_60 : decode cX11_init 60 = .ok (.aload_n 0, 1) := by decide +kernel
theorem dX11_init_61 : decode cX11_init 61 = .ok (.new 43, 3) := by decide +kernel
theorem dX11_init_64 : decode cX11_init 64 = .ok (.dup, 1) := by decide +kernel
theorem dX11_init_65 : decode cX11_init 65 = .ok (.invokespecial 45, 3) := by decide +kernel
theorem dX11_init_68 : decode cX11_init 68 = .ok (.putfield 46, 3) := by decide +kernel
theorem dX11_init_71 : decode cX11_init 71 = .ok (.aload_n 0, 1) := by decide +kernel
theorem dX11_init_72 : decode cX11_init 72 = .ok (.new 43, 3) := by decide +kernel
theorem dX11_init_75 : decode cX11_init 75 = .ok (.dup, 1) := by decide +kernel
theorem dX11_init_76 : decode cX11_init 76 = .ok (.invokespecial 45, 3) := by decide +kernel
theorem dX11_init_79 : decode cX11_init 79 = .ok (.putfield 50, 3) := by decide +kernel
theorem dX11_init_82 : decode cX11_init 82 = .ok (.aload_n 0, 1) := by decide +kernel
theorem dX11_init_83 : decode cX11_init 83 = .ok (.iconst 3, 1) := by decide +kernel
theorem dX11_init_84 : decode cX11_init 84 = .ok (.anewarray 33, 3) := by decide +kernel
theorem dX11_init_87 : decode cX11_init 87 = .ok (.putfield 53, 3) := by decide +kernel
theorem dX11_init_90 : decode cX11_init 90 = .ok (.aload_n 0, 1) := by decide +kernel
theorem dX11_init_91 : decode cX11_init 91 = .ok (.iconst 3, 1) := by decide +kernel
theorem dX11_init_92 : decode cX11_init 92 = .ok (.anewarray 43, 3) := by decide +kernel
theorem dX11_init_95 : decode cX11_init 95 = .ok (.putfield 57, 3) := by decide +kernel
theorem dX11_init_98 : decode cX11_init 98 = .ok (.aload_n 0, 1) := by decide +kernel
theorem dX11_init_99 : decode cX11_init 99 = .ok (.iconst 0, 1) := by decide +kernel
theorem dX11_init_100 : decode cX11_init 100 = .ok (.putfield 61, 3) := by decide +kernel
theorem dX11_init_103 : decode cX11_init 103 = .ok (.aload_n 0, 1) := by decide +kernel
theorem dX11_init_104 : decode cX11_init 104 = .ok (.new 64, 3) := by decide +kernel
theorem dX11_init_107 : decode cX11_init 107 = .ok (.dup, 1) := by decide +kernel
theorem dX11_init_108 : decode cX11_init 108 = .ok (.invokespecial 66, 3) := by decide +kernel
theorem dX11_init_111 : decode cX11_init 111 = .ok (.putfield 67, 3) := by decide +kernel
theorem dX11_init_114 : decode cX11_init 114 = .ok (.aload_n 0, 1) := by decide +kernel
theorem dX11_init_115 : decode cX11_init 115 = .ok (.new 71, 3) := by decide +kernel
theorem dX11_init_118 : decode cX11_init 118 = .ok (.dup, 1) := by decide +kernel
theorem dX11_init_119 : decode cX11_init 119 = .ok (.invokespecial 73, 3) := by decide +kernel
theorem dX11_init_122 : decode cX11_init 122 = .ok (.putfield 74, 3) := by decide +kernel
theorem dX11_init_125 : decode cX11_init 125 = .ok (.aload_n 0, 1) := by decide +kernel
theorem dX11_init_126 : decode cX11_init 126 = .ok (.new 78, 3) := by decide +kernel
theorem dX11_init_129 : decode cX11_init 129 = .ok (.dup, 1) := by decide +kernel
theorem dX11_init_130 : decode cX11_init 130 = .ok (.invokespecial 80, 3) := by decide +kernel
theorem dX11_init_133 : decode cX11_init 133 = .ok (.putfield 81, 3) := by decide +kernel
theorem dX11_init_136 : decode cX11_init 136 = .ok (.aload_n 0, 1) := by decide +kernel
theorem dX11_init_137 : decode cX11_init 137 = .ok (.new 85, 3) := by decide +kernel
theorem dX11_init_140 : decode cX11_init 140 = .ok (.dup, 1) := by decide +kernel
theorem dX11_init_141 : decode cX11_init 141 = .ok (.invokespecial 87, 3) := by decide +kernel
theorem dX11_init_144 : decode cX11_init 144 = .ok (.putfield 88, 3) := by decide +kernel
theorem dX11_init_147 : decode cX11_init 147 = .ok (.aload_n 0, 1) := by decide +kernel
theorem dX11_init_148 : decode cX11_init 148 = .ok (.new 85, 3) := by decide +kernel
theorem dX11_init_151 : decode cX11_init 151 = .ok (.dup, 1) := by decide +kernel
theorem dX11_init_152 : decode cX11_init 152 = .ok (.invokespecial 87, 3) := by decide +kernel
theorem dX11_init_155 : decode cX11_init 155 = .ok (.putfield 92, 3) := by decide +kernel
theorem dX11_init_158 : decode cX11_init 158 = .ok (.iconst 0, 1) := by decide +kernel
theorem dX11_init_159 : decode cX11_init 159 = .ok (.istore_n 1, 1) := by decide +kernel
theorem dX11_init_160 : decode cX11_init 160 = .ok (.iload_n 1, 1) := by decide +kernel
theorem dX11_init_161 : decode cX11_init 161 = .ok (.iconst 4, 1) := by decide +kernel
theorem dX11_init_162 : decode cX11_init 162 = .ok (.if_icmp .ge 22, 3) := by decide +kernel
theorem dX11_init_165 : decode cX11_init 165 = .ok (.aload_n 0, 1) := by decide +kernel
theorem dX11_init_166 : decode cX11_init 166 = .ok (.getfield 22, 3) := by decide +kernel
theorem dX11_init_169 : decode cX11_init 169 = .ok (.iload_n 1, 1) := by decide +kernel
theorem dX11_init_170 : decode cX11_init 170 = .ok (.new 20, 3) := by decide +kernel
theorem dX11_init_173 : decode cX11_init 173 = .ok (.dup, 1) := by decide +kernel
theorem dX11_init_174 : decode cX11_init 174 = .ok (.invokespecial 95, 3) := by decide +kernel
theorem dX11_init_177 : decode cX11_init 177 = .ok (.aastore, 1) := by decide +kernel
theorem dX11_init_178 : decode cX11_init 178 = .ok (.iinc 1 1, 3) := by decide +kernel
theorem dX11_init_181 : decode cX11_init 181 = .ok (.goto (-21), 3) := by decide +kernel
theorem dX11_init_184 : decode cX11_init 184 = .ok (.iconst 0, 1) := by decide +kernel
theorem dX11_init_185 : decode cX11_init 185 = .ok (.istore_n 1, 1) := by decide +kernel
theorem dX11_init_186 : decode cX11_init 186 = .ok (.iload_n 1, 1) := by decide +kernel
theorem dX11_init_187 : decode cX11_init 187 = .ok (.iconst 3, 1) := by decide +kernel
theorem dX11_init_188 : decode cX11_init 188 = .ok (.if_icmp .ge 35, 3) := by decide +kernel
theorem dX11_init_191 : decode cX11_init 191 = .ok (.aload_n 0, 1) := by decide +kernel
theorem dX11_init_192 : decode cX11_init 192 = .ok (.getfield 53, 3) := by decide +kernel
theorem dX11_init_195 : decode cX11_init 195 = .ok (.iload_n 1, 1) := by decide +kernel
theorem dX11_init_196 : decode cX11_init 196 = .ok (.new 33, 3) := by decide +kernel
theorem dX11_init_199 : decode cX11_init 199 = .ok (.dup, 1) := by decide +kernel
theorem dX11_init_200 : decode cX11_init 200 = .ok (.invokespecial 35, 3) := by decide +kernel
theorem dX11_init_203 : decode cX11_init 203 = .ok (.aastore, 1) := by decide +kernel
theorem dX11_init_204 : decode cX11_init 204 = .ok (.aload_n 0, 1) := by decide +kernel
theorem dX11_init_205 : decode cX11_init 205 = .ok (.getfield 57, 3) := by decide +kernel
theorem dX11_init_208 : decode cX11_init 208 = .ok (.iload_n 1, 1) := by decide +kernel
theorem dX11_init_209 : decode cX11_init 209 = .ok (.new 43, 3) := by decide +kernel
theorem dX11_init_212 : decode cX11_init 212 = .ok (.dup, 1) := by decide +kernel
theorem dX11_init_213 : decode cX11_init 213 = .ok (.invokespecial 45, 3) := by decide +kernel
theorem dX11_init_216 : decode cX11_init 216 = .ok (.aastore, 1) := by decide +kernel
theorem dX11_init_217 : decode cX11_init 217 = .ok (.iinc 1 1, 3) := by decide +kernel
theorem dX11_init_220 : decode cX11_init 220 = .ok (.goto (-34), 3) := by decide +kernel
theorem dX11_init_223 : decode cX11_init 223 = .ok (.return_, 1) := by decide +kernel
theorem dX12_init_0 : decode cX12_init 0 = .ok (.aload_n 0, 1) := by decide +kernel
theorem dX12_init_1 : decode cX12_init 1 = .ok (.invokespecial 1, 3) := by decide +kernel
theorem dX12_init_4 : decode cX12_init 4 = .ok (.aload_n 0, 1) := by decide +kernel
theorem dX12_init_5 : decode cX12_init 5 = .ok (.sipush 2060, 3) := by decide +kernel
theorem dX12_init_8 : decode cX12_init 8 = .ok (.newarray .int, 2) := by decide +kernel
theorem dX12_init_10 : decode cX12_init 10 = .ok (.putfield 7, 3) := by decide +kernel
theorem dX12_init_13 : decode cX12_init 13 = .ok (.aload_n 0, 1) := by decide +kernel
theorem dX12_init_14 : decode cX12_init 14 = .ok (.bipush 60, 2) := by decide +kernel
theorem dX12_init_16 : decode cX12_init 16 = .ok (.newarray .long, 2) := by decide +kernel
theorem dX12_init_18 : decode cX12_init 18 = .ok (.putfield 13, 3) := by decide +kernel
theorem dX12_init_21 : decode cX12_init 21 = .ok (.aload_n 0, 1) := by decide +kernel
theorem dX12_init_22 : decode cX12_init 22 = .ok (.lconst 1, 1) := by decide +kernel
theorem dX12_init_23 : decode cX12_init 23 = .ok (.putfield 17, 3) := by decide +kernel
theorem dX12_init_26 : decode cX12_init 26 = .ok (.aload_n 0, 1) := by decide +kernel
theorem dX12_init_27 : decode cX12_init 27 = .ok (.iconst 4, 1) := by decide +kernel
theorem dX12_init_28 : decode cX12_init 28 = .ok (.newarray .int, 2) := by decide +kernel
theorem dX12_init_30 : decode cX12_init 30 = .ok (.putfield 21, 3) := by decide +kernel
theorem dX12_init_33 : decode cX12_init 33 = .ok (.aload_n 0, 1) := by decide +kernel
theorem dX12_init_34 : decode cX12_init 34 = .ok (.iconst 4, 1) := by decide +kernel
theorem dX12_init_35 : decode cX12_init 35 = .ok (.newarray .int, 2) := by decide +kernel
theorem dX12_init_37 : decode cX12_init 37 = .ok (.dup, 1) := by decide +kernel
theorem dX12_init_38 : decode cX12_init 38 = .ok (.iconst 0, 1) := by decide +kernel
theorem dX12_init_39 : decode cX12_init 39 = .ok (.iconst (-1), 1) := by decide +kernel
theorem dX12_init_40 : decode cX12_init 40 = .ok (.iastore, 1) := by decide +kernel
theorem dX12_init_41 : decode cX12_init 41 = .ok (.dup, 1) := by decide +kernel
theorem dX12_init_42 : decode cX12_init 42 = .ok (.iconst 1, 1) := by decide +kernel
theorem dX12_init_43 : decode cX12_init 43 = .ok (.iconst (-1), 1) := by decide +kernel
theorem dX12_init_44 : decode cX12_init 44 = .ok (.iastore, 1) := by decide +kernel
theorem dX12_init_45 : decode cX12_init 45 = .ok (.dup, 1) := by decide +kernel
theorem dX12_init_46 : decode cX12_init 46 = .ok (.iconst 2, 1) := by decide +kernel
theorem dX12_init_47 : decode cX12_init 47 = .ok (.iconst (-1), 1) := by decide +kernel
theorem dX12_init_48 : decode cX12_init 48 = .ok (.iastore, 1) := by decide +kernel
theorem dX12_init_49 : decode cX12_init 49 = .ok (.dup, 1) := by decide +kernel
theorem dX12_init_50 : decode cX12_init 50 = .ok (.iconst 3, 1) := by decide +kernel
theorem dX12_init_51 : decode cX12_init 51 = .ok (.iconst (-1), 1) := by decide +kernel
theorem dX12_init_52 : decode cX12_init 52 = .ok (.iastore, 1) := by decide +kernel
theorem dX12_init_53 : decode cX12_init 53 = .ok (.putfield 24, 3) := by decide +kernel
theorem dX12_init_56 : decode cX12_init 56 = .ok (.aload_n 0, 1) := by decide +kernel
theorem dX12_init_57 : decode cX12_init 57 = .ok (.sipush 240, 3) := by decide +kernel
theorem dX12_init_60 : decode cX12_init 60 = .ok (.newarray .long, 2) := by decide +kernel
theorem dX12_init_62 : decode cX12_init 62 = .ok (.putfield 27, 3) := by decide +kernel
theorem dX12_init_65 : decode cX12_init 65 = .ok (.aload_n 0, 1) := by decide +kernel
theorem dX12_init_66 : decode cX12_init 66 = .ok (.sipush 900, 3) := by decide +kernel
theorem dX12_init_69 : decode cX12_init 69 = .ok (.newarray .byte, 2) := by decide +kernel
theorem dX12_init_71 : decode cX12_init 71 = .ok (.putfield 30, 3) := by decide +kernel
theorem dX12_init_74 : decode cX12_init 74 = .ok (.aload_n 0, 1) := by decide +kernel
theorem dX12_init_75 : decode cX12_init 75 = .ok (.sipush 900, 3) := by decide +kernel
theorem dX12_init_78 : decode cX12_init 78 = .ok (.newarray .byte, 2) := by decide +kernel
theorem dX12_init_80 : decode cX12_init 80 = .ok (.putfield 34, 3) := by decide +kernel
theorem dX12_init_83 : decode cX12_init 83 = .ok (.aload_n 0, 1) := by decide +kernel
theorem dX12_init_84 : decode cX12_init 84 = .ok (.iconst (-1), 1) := by decide +kernel
theorem dX12_init_85 : decode cX12_init 85 = .ok (.putfield 37, 3) := by decide +kernel
theorem dX12_init_88 : decode cX12_init 88 = .ok (.aload_n 0, 1) := by decide +kernel
theorem dX12_init_89 : decode cX12_init 89 = .ok (.iconst (-1), 1) := by decide +kernel
theorem dX12_init_90 : decode cX12_init 90 = .ok (.putfield 41, 3) := by decide +kernel
theorem dX12_init_93 : decode cX12_init 93 = .ok (.aload_n 0, 1) := by decide +kernel
theorem dX12_init_94 : decode cX12_init 94 = .ok (.iconst 3, 1) := by decide +kernel
theorem dX12_init_95 : decode cX12_init 95 = .ok (.newarray .int, 2) := by decide +kernel
theorem dX12_init_97 : decode cX12_init 97 = .ok (.putfield 44, 3) := by decide +kernel
theorem dX12_init_100 : decode cX12_init 100 = .ok (.aload_n 0, 1) := by decide +kernel
theorem dX12_init_101 : decode cX12_init 101 = .ok (.sipush 5040, 3) := by decide +kernel
theorem dX12_init_104 : decode cX12_init 104 = .ok (.newarray .int, 2) := by decide +kernel
theorem dX12_init_106 : decode cX12_init 106 = .ok (.putfield 47, 3) := by decide +kernel
theorem dX12_init_109 : decode cX12_init 109 = .ok (.aload_n 0, 1) := by decide +kernel
theorem dX12_init_110 : decode cX12_init 110 = .ok (.sipush 4096, 3) := by decide +kernel
theorem dX12_init_113 : decode cX12_init 113 = .ok (.newarray .boolean, 2) := by decide +kernel
theorem dX12_init_115 : decode cX12_init 115 = .ok (.putfield 50, 3) := by decide +kernel
theorem dX12_init_118 : decode cX12_init 118 = .ok (.aload_n 0, 1) := by decide +kernel
theorem dX12_init_119 : decode cX12_init 119 = .ok (.sipush 5040, 3) := by decide +kernel
theorem dX12_init_122 : decode cX12_init 122 = .ok (.newarray .boolean, 2) := by decide +kernel
theorem dX12_init_124 : decode cX12_init 124 = .ok (.putfield 54, 3) := by decide +kernel
theorem dX12_init_127 : decode cX12_init 127 = .ok (.aload_n 0, 1) := by decide +kernel
theorem dX12_init_128 : decode cX12_init 128 = .ok (.iconst 4, 1) := by decide +kernel
theorem dX12_init_129 : decode cX12_init 129 = .ok (.newarray .int, 2) := by decide +kernel
theorem dX12_init_131 : decode cX12_init 131 = .ok (.putfield 57, 3) := by decide +kernel
theorem dX12_init_134 : decode cX12_init 134 = .ok (.aload_n 0, 1) := by decide +kernel
theorem dX12_init_135 : decode cX12_init 135 = .ok (.bipush 6, 2) := by decide +kernel
theorem dX12_init_137 : decode cX12_init 137 = .ok (.newarray .int, 2) := by decide +kernel
theorem dX12_init_139 : decode cX12_init 139 = .ok (.putfield 60, 3) := by decide +kernel
theorem dX12_init_142 : decode cX12_init 142 = .ok (.aload_n 0, 1) := by decide +kernel
theorem dX12_init_143 : decode cX12_init 143 = .ok (.bipush 6, 2) := by decide +kernel
theorem dX12_init_145 : decode cX12_init 145 = .ok (.newarray .int, 2) := by decide +kernel
theorem dX12_init_147 : decode cX12_init 147 = .ok (.putfield 63, 3) := by decide +kernel
theorem dX12_init_150 : decode cX12_init 150 = .ok (.aload_n 0, 1) := by decide +kernel
theorem dX12_init_151 : decode cX12_init 151 = .ok (.bipush 6, 2) := by decide +kernel
theorem dX12_init_153 : decode cX12_init 153 = .ok (.newarray .long, 2) := by decide +kernel
theorem dX12_init_155 : decode cX12_init 155 = .ok (.putfield 66, 3) := by decide +kernel
theorem dX12_init_158 : decode cX12_init 158 = .ok (.aload_n 0, 1) := by decide +kernel
theorem dX12_init_159 : decode cX12_init 159 = .ok (.bipush 60, 2) := by decide +kernel
theorem dX12_init_161 : decode cX12_init 161 = .ok (.newarray .int, 2) := by decide +kernel
theorem dX12_init_163 : decode cX12_init 163 = .ok (.putfield 69, 3) := by decide +kernel
theorem dX12_init_166 : decode cX12_init 166 = .ok (.aload_n 0, 1) := by decide +kernel
theorem dX12_init_167 : decode cX12_init 167 = .ok (.iconst 5, 1) := by decide +kernel
theorem dX12_init_168 : decode cX12_init 168 = .ok (.newarray .int, 2) := by decide +kernel
theorem dX12_init_170 : decode cX12_init 170 = .ok (.putfield 72, 3) := by decide +kernel
theorem dX12_init_173 : decode cX12_init 173 = .ok (.aload_n 0, 1) := by decide +kernel
theorem dX12_init_174 : decode cX12_init 174 = .ok (.iconst 5, 1) := by decide +kernel
theorem dX12_init_175 : decode cX12_init 175 = .ok (.newarray .int, 2) := by decide +kernel
theorem dX12_init_177 : decode cX12_init 177 = .ok (.putfield 75, 3) := by decide +kernel
theorem dX12_init_180 : decode cX12_init 180 = .ok (.aload_n 0, 1) := by decide +kernel
theorem dX12_init_181 : decode cX12_init 181 = .ok (.iconst 0, 1) := by decide +kernel
theorem dX12_init_182 : decode cX12_init 182 = .ok (.invokevirtual 78, 3) := by decide +kernel
theorem dX12_init_185 : decode cX12_init 185 = .ok (.return_, 1) := by decide +kernel
theorem k_cl_X0_18 : Cond.classLink RX0 18 "[[J" ∈ lw_good := (gt1 228 rfl rfl)
theorem k_cl_X11_20 : Cond.classLink RX11 20 "ResidueCover$Tray" ∈ lw_good := (gt1 31 rfl rfl)
theorem k_cl_X11_33 : Cond.classLink RX11 33 "ResidueCover$Classes" ∈ lw_good := (gt1 79 rfl rfl)
theorem k_cl_X11_43 : Cond.classLink RX11 43 "ResidueCover$Days" ∈ lw_good := (gt1 121 rfl rfl)
theorem k_ct_X11_28 : Lk RX11 28 M_X6_init := Or.inr ⟨"ResidueCover", (gn1 35 rfl rfl)⟩
theorem k_ct_X11_35 : Lk RX11 35 M_X1_init := Or.inr ⟨"ResidueCover", (gn1 81 rfl rfl)⟩
theorem k_ct_X11_45 : Lk RX11 45 M_X2_init := Or.inr ⟨"ResidueCover", (gn1 123 rfl rfl)⟩
theorem k_ct_X11_66 : Lk RX11 66 M_X7_init := Or.inr ⟨"ResidueCover", (gn1 177 rfl rfl)⟩
theorem k_ct_X11_73 : Lk RX11 73 M_X10_init := Or.inr ⟨"ResidueCover", (gn1 201 rfl rfl)⟩
theorem k_ct_X11_80 : Lk RX11 80 M_X0_init := Or.inr ⟨"ResidueCover", (gn1 224 rfl rfl)⟩
theorem k_ct_X11_87 : Lk RX11 87 M_X5_init := Or.inr ⟨"ResidueCover", (gn2 11 rfl rfl)⟩
theorem k_ct_X11_95 : Lk RX11 95 M_X9_init := Or.inr ⟨"ResidueCover", (gn2 51 rfl rfl)⟩
theorem k_kl_X11_20 : Kl RX11 20 6 3 tyX9 := ⟨RX9, TX9, rfl, inF6, tyX9_ok, (gt1 31 rfl rfl), (gt2 50 rfl rfl), (gt1 9 rfl rfl)⟩
theorem k_kl_X11_26 : Kl RX11 26 4 11 tyX6 := ⟨RX6, TX6, rfl, inF4, tyX6_ok, (gt1 33 rfl rfl), (gt1 34 rfl rfl), (gt1 2 rfl rfl)⟩
theorem k_kl_X11_33 : Kl RX11 33 1 6 tyX1 := ⟨RX1, TX1, rfl, inF1, tyX1_ok, (gt1 79 rfl rfl), (gt1 80 rfl rfl), (gt1 3 rfl rfl)⟩
theorem k_kl_X11_43 : Kl RX11 43 2 9 tyX2 := ⟨RX2, TX2, rfl, inF2, tyX2_ok, (gt1 121 rfl rfl), (gt1 122 rfl rfl), (gt1 4 rfl rfl)⟩
theorem k_kl_X11_64 : Kl RX11 64 5 5 tyX7 := ⟨RX7, TX7, rfl, inF5, tyX7_ok, (gt1 175 rfl rfl), (gt1 176 rfl rfl), (gt1 5 rfl rfl)⟩
theorem k_kl_X11_71 : Kl RX11 71 7 4 tyX10 := ⟨RX10, TX10, rfl, inF7, tyX10_ok, (gt1 199 rfl rfl), (gt1 200 rfl rfl), (gt1 6 rfl rfl)⟩
theorem k_kl_X11_78 : Kl RX11 78 0 6 tyX0 := ⟨RX0, TX0, rfl, inF0, tyX0_ok, (gt1 222 rfl rfl), (gt1 223 rfl rfl), (gt1 7 rfl rfl)⟩
theorem k_kl_X11_85 : Kl RX11 85 3 9 tyX5 := ⟨RX5, TX5, rfl, inF3, tyX5_ok, (gt2 9 rfl rfl), (gt2 10 rfl rfl), (gt1 8 rfl rfl)⟩
theorem k_oi_X0 : Cond.methodLink RX0 3 Lib.objectInit ∈ lw_good := (gt1 227 rfl rfl)
theorem k_oi_X1 : Cond.methodLink RX1 3 Lib.objectInit ∈ lw_good := (gt1 84 rfl rfl)
theorem k_oi_X2 : Cond.methodLink RX2 3 Lib.objectInit ∈ lw_good := (gt1 126 rfl rfl)
theorem k_oi_X5 : Cond.methodLink RX5 3 Lib.objectInit ∈ lw_good := (gt2 14 rfl rfl)
theorem k_oi_X6 : Cond.methodLink RX6 3 Lib.objectInit ∈ lw_good := (gt1 38 rfl rfl)
theorem k_oi_X7 : Cond.methodLink RX7 3 Lib.objectInit ∈ lw_good := (gt1 180 rfl rfl)
theorem k_oi_X9 : Cond.methodLink RX9 3 Lib.objectInit ∈ lw_good := (gt2 54 rfl rfl)
theorem k_oi_X10 : Cond.methodLink RX10 1 Lib.objectInit ∈ lw_good := (gt1 204 rfl rfl)
theorem k_oi_X11 : Cond.methodLink RX11 3 Lib.objectInit ∈ lw_good := (gt1 28 rfl rfl)
theorem k_oi_X12 : Cond.methodLink RX12 1 Lib.objectInit ∈ lw_good := (gt6 17 rfl rfl)
theorem k_oi2 : Cond.instanceMethod Lib.objectInit ∈ lw_good := (gt1 29 rfl rfl)
theorem k_oi3 : Cond.code Lib.objectInit ⟨#[0xb1]⟩ 1 none ∈ lw_good := (gt1 30 rfl rfl)
theorem k_arr_0 : Cond.arrayClass .int ∈ lw_good := (gt1 77 rfl rfl)
theorem k_arr_1 : Cond.arrayClass .long ∈ lw_good := (gt1 78 rfl rfl)
theorem k_arr_2 : Cond.arrayClass .byte ∈ lw_good := (gt1 76 rfl rfl)
theorem k_arr_3 : Cond.arrayClass .boolean ∈ lw_good := (gt6 140 rfl rfl)
def M_X0_init : Mi := (yX0_init, cX0_init, 1, none)
theorem ok2_X0_init : Ok2 M_X0_init 0 := ⟨(gt1 226 rfl rfl), (gt1 7 rfl rfl), by decide +kernel, by decide +kernel, by decide +kernel⟩
theorem gi_X0_init : Cond.instanceMethod M_X0_init.1 ∈ lw_good := (gt1 225 rfl rfl)
def M_X1_init : Mi := (yX1_init, cX1_init, 1, none)
theorem ok2_X1_init : Ok2 M_X1_init 0 := ⟨(gt1 83 rfl rfl), (gt1 3 rfl rfl), by decide +kernel, by decide +kernel, by decide +kernel⟩
theorem gi_X1_init : Cond.instanceMethod M_X1_init.1 ∈ lw_good := (gt1 82 rfl rfl)
def M_X2_init : Mi := (yX2_init, cX2_init, 1, none)
theorem ok2_X2_init : Ok2 M_X2_init 0 := ⟨(gt1 125 rfl rfl), (gt1 4 rfl rfl), by decide +kernel, by decide +kernel, by decide +kernel⟩
theorem gi_X2_init : Cond.instanceMethod M_X2_init.1 ∈ lw_good := (gt1 124 rfl rfl)
def M_X5_init : Mi := (yX5_init, cX5_init, 1, none)
theorem ok2_X5_init : Ok2 M_X5_init 0 := ⟨(gt2 13 rfl rfl), (gt1 8 rfl rfl), by decide +kernel, by decide +kernel, by decide +kernel⟩
theorem gi_X5_init : Cond.instanceMethod M_X5_init.1 ∈ lw_good := (gt2 12 rfl rfl)
def M_X6_init : Mi := (yX6_init, cX6_init, 1, none)
theorem ok2_X6_init : Ok2 M_X6_init 0 := ⟨(gt1 37 rfl rfl), (gt1 2 rfl rfl), by decide +kernel, by decide +kernel, by decide +kernel⟩
theorem gi_X6_init : Cond.instanceMethod M_X6_init.1 ∈ lw_good := (gt1 36 rfl rfl)
def M_X7_init : Mi := (yX7_init, cX7_init, 1, none)
theorem ok2_X7_init : Ok2 M_X7_init 0 := ⟨(gt1 179 rfl rfl), (gt1 5 rfl rfl), by decide +kernel, by decide +kernel, by decide +kernel⟩
theorem gi_X7_init : Cond.instanceMethod M_X7_init.1 ∈ lw_good := (gt1 178 rfl rfl)
def M_X9_init : Mi := (yX9_init, cX9_init, 1, none)
theorem ok2_X9_init : Ok2 M_X9_init 0 := ⟨(gt2 53 rfl rfl), (gt1 9 rfl rfl), by decide +kernel, by decide +kernel, by decide +kernel⟩
theorem gi_X9_init : Cond.instanceMethod M_X9_init.1 ∈ lw_good := (gt2 52 rfl rfl)
def M_X10_init : Mi := (yX10_init, cX10_init, 1, none)
theorem ok2_X10_init : Ok2 M_X10_init 0 := ⟨(gt1 203 rfl rfl), (gt1 6 rfl rfl), by decide +kernel, by decide +kernel, by decide +kernel⟩
theorem gi_X10_init : Cond.instanceMethod M_X10_init.1 ∈ lw_good := (gt1 202 rfl rfl)
def M_X11_init : Mi := (yX11_init, cX11_init, 2, none)
theorem ok2_X11_init : Ok2 M_X11_init 0 := ⟨(gt1 27 rfl rfl), (gt1 1 rfl rfl), by decide +kernel, by decide +kernel, by decide +kernel⟩
theorem gi_X11_init : Cond.instanceMethod M_X11_init.1 ∈ lw_good := (gt1 26 rfl rfl)
def M_X12_init : Mi := (yX12_init, cX12_init, 1, none)
theorem ok2_X12_init : Ok2 M_X12_init 0 := ⟨(gt6 16 rfl rfl), (gt1 10 rfl rfl), by decide +kernel, by decide +kernel, by decide +kernel⟩
theorem gi_X12_init : Cond.instanceMethod M_X12_init.1 ∈ lw_good := (gt6 15 rfl rfl)
theorem df_Ch : ∀ j, j < 6 → defaultValue (tyX0 j) = vp_V [.null, .null, .null, .int 0, .int 0, .int 0] j := by decide +kernel
theorem dcl_Ch (i : Nat) (hi : i < 6) : ∀ Cn9 T N, vwCl[0]? = some (Cn9, T, N) → (T i).1 = RX0 := by
  intro Cn9 T N h
  cases h
  have key : ∀ i, i < 6 → (TX0 i).1 = RX0 := by decide +kernel
  exact key i hi
theorem df_Cl : ∀ j, j < 6 → defaultValue (tyX1 j) = vp_V [.null, .null, .null, .int 0, .int 0, .int 0] j := by decide +kernel
theorem dcl_Cl (i : Nat) (hi : i < 6) : ∀ Cn9 T N, vwCl[1]? = some (Cn9, T, N) → (T i).1 = RX1 := by
  intro Cn9 T N h
  cases h
  have key : ∀ i, i < 6 → (TX1 i).1 = RX1 := by decide +kernel
  exact key i hi
theorem df_Da : ∀ j, j < 9 → defaultValue (tyX2 j) = vp_V [.null, .null, .null, .null, .null, .null, .int 0, .int 0, .int 0] j := by decide +kernel
theorem dcl_Da (i : Nat) (hi : i < 9) : ∀ Cn9 T N, vwCl[2]? = some (Cn9, T, N) → (T i).1 = RX2 := by
  intro Cn9 T N h
  cases h
  have key : ∀ i, i < 9 → (TX2 i).1 = RX2 := by decide +kernel
  exact key i hi
theorem df_Li : ∀ j, j < 9 → defaultValue (tyX5 j) = vp_V [.null, .int 0, .int 0, .int 0, .int 0, .int 0, .int 0, .int 0, .int 0] j := by decide +kernel
theorem dcl_Li (i : Nat) (hi : i < 9) : ∀ Cn9 T N, vwCl[3]? = some (Cn9, T, N) → (T i).1 = RX5 := by
  intro Cn9 T N h
  cases h
  have key : ∀ i, i < 9 → (TX5 i).1 = RX5 := by decide +kernel
  exact key i hi
theorem df_Re : ∀ j, j < 11 → defaultValue (tyX6 j) = vp_V [.null, .int 0, .int 0, .null, .null, .null, .int 0, .int 0, .long 0, .int 0, .int 0] j := by decide +kernel
theorem dcl_Re (i : Nat) (hi : i < 11) : ∀ Cn9 T N, vwCl[4]? = some (Cn9, T, N) → (T i).1 = RX6 := by
  intro Cn9 T N h
  cases h
  have key : ∀ i, i < 11 → (TX6 i).1 = RX6 := by decide +kernel
  exact key i hi
theorem df_Si : ∀ j, j < 5 → defaultValue (tyX7 j) = vp_V [.null, .null, .null, .int 0, .int 0] j := by decide +kernel
theorem dcl_Si (i : Nat) (hi : i < 5) : ∀ Cn9 T N, vwCl[5]? = some (Cn9, T, N) → (T i).1 = RX7 := by
  intro Cn9 T N h
  cases h
  have key : ∀ i, i < 5 → (TX7 i).1 = RX7 := by decide +kernel
  exact key i hi
theorem df_Ty : ∀ j, j < 3 → defaultValue (tyX9 j) = vp_V [.null, .int 0, .int 0] j := by decide +kernel
theorem dcl_Ty (i : Nat) (hi : i < 3) : ∀ Cn9 T N, vwCl[6]? = some (Cn9, T, N) → (T i).1 = RX9 := by
  intro Cn9 T N h
  cases h
  have key : ∀ i, i < 3 → (TX9 i).1 = RX9 := by decide +kernel
  exact key i hi
theorem df_Tr : ∀ j, j < 4 → defaultValue (tyX10 j) = vp_V [.int 0, .int 0, .int 0, .int 0] j := by decide +kernel
theorem dcl_Tr (i : Nat) (hi : i < 4) : ∀ Cn9 T N, vwCl[7]? = some (Cn9, T, N) → (T i).1 = RX10 := by
  intro Cn9 T N h
  cases h
  have key : ∀ i, i < 4 → (TX10 i).1 = RX10 := by decide +kernel
  exact key i hi
theorem df_RC : ∀ j, j < 17 → defaultValue (tyX11 j) = vp_V [.int 0, .long 0, .long 0, .null, .null, .null, .null, .null, .null, .null, .null, .int 0, .null, .null, .null, .null, .null] j := by decide +kernel
theorem dcl_RC (i : Nat) (hi : i < 17) : ∀ Cn9 T N, vwCl[8]? = some (Cn9, T, N) → (T i).1 = RX11 := by
  intro Cn9 T N h
  cases h
  have key : ∀ i, i < 17 → (TX11 i).1 = RX11 := by decide +kernel
  exact key i hi
theorem df_Mo : ∀ j, j < 39 → defaultValue (tyX12 j) = vp_V [.null, .null, .int 0, .long 0, .long 0, .null, .null, .null, .null, .null, .int 0, .int 0, .int 0, .int 0, .int 0, .int 0, .int 0, .int 0, .int 0, .int 0, .null, .int 0, .int 0, .int 0, .null, .null, .null, .null, .null, .null, .int 0, .null, .int 0, .int 0, .null, .null, .null, .int 0, .int 0] j := by decide +kernel
theorem dcl_Mo (i : Nat) (hi : i < 39) : ∀ Cn9 T N, vwCl[9]? = some (Cn9, T, N) → (T i).1 = RX12 := by
  intro Cn9 T N h
  cases h
  have key : ∀ i, i < 39 → (TX12 i).1 = RX12 := by decide +kernel
  exact key i hi
/-- an array class over ty is known at every state that the world allows -/
def va_Aov (ty : FieldType) (V : Ev) : Prop := ∀ (U : State) (a : Array Value), Wk V U → (Cond.arrayOver ty).before a U = true
def z_2 (V : Ev) : va_E := .inr (4, [.ref (V.2.2.1 + 3), .int 0, .int 0, .ref (V.2.2.1 + 4), .ref (V.2.2.1 + 5), .ref (V.2.2.1 + 6), .int 0, .int 0, .long 0, .int (-1), .int (-1)])
def z_3 (V : Ev) : va_E := .inl (V.2.1 2, 900, .inl (fun _ => 0))
def z_4 (V : Ev) : va_E := .inl (V.2.1 0, 901, .inl (fun _ => 0))
def z_5 (V : Ev) : va_E := .inl (V.2.1 0, 901, .inl (fun _ => 0))
def z_6 (V : Ev) : va_E := .inl (V.2.1 1, 901, .inr (.inl (fun _ => 0)))
set_option maxRecDepth 100000 in
set_option maxHeartbeats 4000000 in
theorem faultPlace {V : Ev} : Rc V 1 M_X6_init [.ref (V.2.2.1 + 2)] [.inr (8, [.int 0, .long 0, .long 1, .ref (V.2.2.1 + 1), .null, .null, .null, .null, .null, .null, .null, .int 0, .null, .null, .null, .null, .null]), .inl (V.2.1 4, 4, .inr (.inr (.inr (.inr (fun _ => none))))), .inr (4, [.null, .int 0, .int 0, .null, .null, .null, .int 0, .int 0, .long 0, .int 0, .int 0])] [.inr (8, [.int 0, .long 0, .long 1, .ref (V.2.2.1 + 1), .null, .null, .null, .null, .null, .null, .null, .int 0, .null, .null, .null, .null, .null]), .inl (V.2.1 4, 4, .inr (.inr (.inr (.inr (fun _ => none))))), z_2 V, z_3 V, z_4 V, z_5 V, z_6 V] 4 3603 := by
  refine Rc.of (by decide +kernel) rfl (Nat.le_of_ble_eq_true rfl) (fun Γ X => ?_)

  refine c_aload_n (pc := 0) X.1 0 rfl dX6_init_0 ?_
  refine c_objInit (pc := 1) X.1 k_oi_X6 k_oi2 k_oi3 (Nat.le_of_ble_eq_true rfl) (Nat.le_of_ble_eq_true rfl) dX6_init_1 ?_
  refine c_aload_n (pc := 4) X.1 0 rfl dX6_init_4 ?_
  refine c_sipush (v := 900) (pc := 5) X.1 (by decide) dX6_init_5 ?_
  refine c_newa (ty := .byte) (N := 900) (ak := 2) (a0 := .inl (fun _ => 0)) (pc := 8) X.1 X.2.2 rfl k_arr_2 rfl (fun _ h => by cases h) rfl (fun _ => rfl) (by decide) (by decide) (Nat.le_of_ble_eq_true rfl) (Nat.le_of_ble_eq_true rfl) (Nat.le_of_ble_eq_true rfl) dX6_init_8 ?_
  refine c_put (k := 2) (pc := 10) [.inr (8, [.int 0, .long 0, .long 1, .ref (V.2.2.1 + 1), .null, .null, .null, .null, .null, .null, .null, .int 0, .null, .null, .null, .null, .null]), .inl (V.2.1 4, 4, .inr (.inr (.inr (.inr (fun _ => none))))), .inr (4, [.ref (V.2.2.1 + 3), .int 0, .int 0, .null, .null, .null, .int 0, .int 0, .long 0, .int 0, .int 0]), .inl (V.2.1 2, 900, .inl (fun _ => 0))] X k_fl_X6_9 (dcl_Re 0 (by decide)) rfl rfl rfl (by decide) rfl dX6_init_10 ?_
  refine c_aload_n (pc := 13) X.1 0 rfl dX6_init_13 ?_
  refine c_iconst (v := 0) (pc := 14) X.1 rfl dX6_init_14 ?_
  refine c_put (k := 2) (pc := 15) [.inr (8, [.int 0, .long 0, .long 1, .ref (V.2.2.1 + 1), .null, .null, .null, .null, .null, .null, .null, .int 0, .null, .null, .null, .null, .null]), .inl (V.2.1 4, 4, .inr (.inr (.inr (.inr (fun _ => none))))), .inr (4, [.ref (V.2.2.1 + 3), .int 0, .int 0, .null, .null, .null, .int 0, .int 0, .long 0, .int 0, .int 0]), .inl (V.2.1 2, 900, .inl (fun _ => 0))] X k_fl_X6_15 (dcl_Re 1 (by decide)) rfl rfl rfl (by decide) rfl dX6_init_15 ?_
  refine c_aload_n (pc := 18) X.1 0 rfl dX6_init_18 ?_
  refine c_iconst (v := 0) (pc := 19) X.1 rfl dX6_init_19 ?_
  refine c_put (k := 2) (pc := 20) [.inr (8, [.int 0, .long 0, .long 1, .ref (V.2.2.1 + 1), .null, .null, .null, .null, .null, .null, .null, .int 0, .null, .null, .null, .null, .null]), .inl (V.2.1 4, 4, .inr (.inr (.inr (.inr (fun _ => none))))), .inr (4, [.ref (V.2.2.1 + 3), .int 0, .int 0, .null, .null, .null, .int 0, .int 0, .long 0, .int 0, .int 0]), .inl (V.2.1 2, 900, .inl (fun _ => 0))] X k_fl_X6_19 (dcl_Re 2 (by decide)) rfl rfl rfl (by decide) rfl dX6_init_20 ?_
  refine c_aload_n (pc := 23) X.1 0 rfl dX6_init_23 ?_
  refine c_sipush (v := 901) (pc := 24) X.1 (by decide) dX6_init_24 ?_
  refine c_newa (ty := .int) (N := 901) (ak := 0) (a0 := .inl (fun _ => 0)) (pc := 27) X.1 X.2.2 rfl k_arr_0 rfl (fun _ h => by cases h) rfl (fun _ => rfl) (by decide) (by decide) (Nat.le_of_ble_eq_true rfl) (Nat.le_of_ble_eq_true rfl) (Nat.le_of_ble_eq_true rfl) dX6_init_27 ?_
  refine c_put (k := 2) (pc := 29) [.inr (8, [.int 0, .long 0, .long 1, .ref (V.2.2.1 + 1), .null, .null, .null, .null, .null, .null, .null, .int 0, .null, .null, .null, .null, .null]), .inl (V.2.1 4, 4, .inr (.inr (.inr (.inr (fun _ => none))))), .inr (4, [.ref (V.2.2.1 + 3), .int 0, .int 0, .ref (V.2.2.1 + 4), .null, .null, .int 0, .int 0, .long 0, .int 0, .int 0]), .inl (V.2.1 2, 900, .inl (fun _ => 0)), .inl (V.2.1 0, 901, .inl (fun _ => 0))] X k_fl_X6_22 (dcl_Re 3 (by decide)) rfl rfl rfl (by decide) rfl dX6_init_29 ?_
  refine c_aload_n (pc := 32) X.1 0 rfl dX6_init_32 ?_
  refine c_sipush (v := 901) (pc := 33) X.1 (by decide) dX6_init_33 ?_
  refine c_newa (ty := .int) (N := 901) (ak := 0) (a0 := .inl (fun _ => 0)) (pc := 36) X.1 X.2.2 rfl k_arr_0 rfl (fun _ h => by cases h) rfl (fun _ => rfl) (by decide) (by decide) (Nat.le_of_ble_eq_true rfl) (Nat.le_of_ble_eq_true rfl) (Nat.le_of_ble_eq_true rfl) dX6_init_36 ?_
  refine c_put (k := 2) (pc := 38) [.inr (8, [.int 0, .long 0, .long 1, .ref (V.2.2.1 + 1), .null, .null, .null, .null, .null, .null, .null, .int 0, .null, .null, .null, .null, .null]), .inl (V.2.1 4, 4, .inr (.inr (.inr (.inr (fun _ => none))))), .inr (4, [.ref (V.2.2.1 + 3), .int 0, .int 0, .ref (V.2.2.1 + 4), .ref (V.2.2.1 + 5), .null, .int 0, .int 0, .long 0, .int 0, .int 0]), .inl (V.2.1 2, 900, .inl (fun _ => 0)), .inl (V.2.1 0, 901, .inl (fun _ => 0)), .inl (V.2.1 0, 901, .inl (fun _ => 0))] X k_fl_X6_26 (dcl_Re 4 (by decide)) rfl rfl rfl (by decide) rfl dX6_init_38 ?_
  refine c_aload_n (pc := 41) X.1 0 rfl dX6_init_41 ?_
  refine c_sipush (v := 901) (pc := 42) X.1 (by decide) dX6_init_42 ?_
  refine c_newa (ty := .long) (N := 901) (ak := 1) (a0 := .inr (.inl (fun _ => 0))) (pc := 45) X.1 X.2.2 rfl k_arr_1 rfl (fun _ h => by cases h) rfl (fun _ => rfl) (by decide) (by decide) (Nat.le_of_ble_eq_true rfl) (Nat.le_of_ble_eq_true rfl) (Nat.le_of_ble_eq_true rfl) dX6_init_45 ?_
  refine c_put (k := 2) (pc := 47) [.inr (8, [.int 0, .long 0, .long 1, .ref (V.2.2.1 + 1), .null, .null, .null, .null, .null, .null, .null, .int 0, .null, .null, .null, .null, .null]), .inl (V.2.1 4, 4, .inr (.inr (.inr (.inr (fun _ => none))))), .inr (4, [.ref (V.2.2.1 + 3), .int 0, .int 0, .ref (V.2.2.1 + 4), .ref (V.2.2.1 + 5), .ref (V.2.2.1 + 6), .int 0, .int 0, .long 0, .int 0, .int 0]), .inl (V.2.1 2, 900, .inl (fun _ => 0)), .inl (V.2.1 0, 901, .inl (fun _ => 0)), .inl (V.2.1 0, 901, .inl (fun _ => 0)), .inl (V.2.1 1, 901, .inr (.inl (fun _ => 0)))] X k_fl_X6_29 (dcl_Re 5 (by decide)) rfl rfl rfl (by decide) rfl dX6_init_47 ?_
  refine c_aload_n (pc := 50) X.1 0 rfl dX6_init_50 ?_
  refine c_iconst (v := 0) (pc := 51) X.1 rfl dX6_init_51 ?_
  refine c_put (k := 2) (pc := 52) [.inr (8, [.int 0, .long 0, .long 1, .ref (V.2.2.1 + 1), .null, .null, .null, .null, .null, .null, .null, .int 0, .null, .null, .null, .null, .null]), .inl (V.2.1 4, 4, .inr (.inr (.inr (.inr (fun _ => none))))), .inr (4, [.ref (V.2.2.1 + 3), .int 0, .int 0, .ref (V.2.2.1 + 4), .ref (V.2.2.1 + 5), .ref (V.2.2.1 + 6), .int 0, .int 0, .long 0, .int 0, .int 0]), .inl (V.2.1 2, 900, .inl (fun _ => 0)), .inl (V.2.1 0, 901, .inl (fun _ => 0)), .inl (V.2.1 0, 901, .inl (fun _ => 0)), .inl (V.2.1 1, 901, .inr (.inl (fun _ => 0)))] X k_fl_X6_33 (dcl_Re 6 (by decide)) rfl rfl rfl (by decide) rfl dX6_init_52 ?_
  refine c_aload_n (pc := 55) X.1 0 rfl dX6_init_55 ?_
  refine c_iconst (v := 0) (pc := 56) X.1 rfl dX6_init_56 ?_
  refine c_put (k := 2) (pc := 57) [.inr (8, [.int 0, .long 0, .long 1, .ref (V.2.2.1 + 1), .null, .null, .null, .null, .null, .null, .null, .int 0, .null, .null, .null, .null, .null]), .inl (V.2.1 4, 4, .inr (.inr (.inr (.inr (fun _ => none))))), .inr (4, [.ref (V.2.2.1 + 3), .int 0, .int 0, .ref (V.2.2.1 + 4), .ref (V.2.2.1 + 5), .ref (V.2.2.1 + 6), .int 0, .int 0, .long 0, .int 0, .int 0]), .inl (V.2.1 2, 900, .inl (fun _ => 0)), .inl (V.2.1 0, 901, .inl (fun _ => 0)), .inl (V.2.1 0, 901, .inl (fun _ => 0)), .inl (V.2.1 1, 901, .inr (.inl (fun _ => 0)))] X k_fl_X6_36 (dcl_Re 7 (by decide)) rfl rfl rfl (by decide) rfl dX6_init_57 ?_
  refine c_aload_n (pc := 60) X.1 0 rfl dX6_init_60 ?_
  refine c_lconst (v := 0) (pc := 61) X.1 rfl dX6_init_61 ?_
  refine c_put (k := 2) (pc := 62) [.inr (8, [.int 0, .long 0, .long 1, .ref (V.2.2.1 + 1), .null, .null, .null, .null, .null, .null, .null, .int 0, .null, .null, .null, .null, .null]), .inl (V.2.1 4, 4, .inr (.inr (.inr (.inr (fun _ => none))))), .inr (4, [.ref (V.2.2.1 + 3), .int 0, .int 0, .ref (V.2.2.1 + 4), .ref (V.2.2.1 + 5), .ref (V.2.2.1 + 6), .int 0, .int 0, .long 0, .int 0, .int 0]), .inl (V.2.1 2, 900, .inl (fun _ => 0)), .inl (V.2.1 0, 901, .inl (fun _ => 0)), .inl (V.2.1 0, 901, .inl (fun _ => 0)), .inl (V.2.1 1, 901, .inr (.inl (fun _ => 0)))] X k_fl_X6_39 (dcl_Re 8 (by decide)) rfl rfl rfl (by decide) rfl dX6_init_62 ?_
  refine c_aload_n (pc := 65) X.1 0 rfl dX6_init_65 ?_
  refine c_iconst (v := (-1)) (pc := 66) X.1 rfl dX6_init_66 ?_
  refine c_put (k := 2) (pc := 67) [.inr (8, [.int 0, .long 0, .long 1, .ref (V.2.2.1 + 1), .null, .null, .null, .null, .null, .null, .null, .int 0, .null, .null, .null, .null, .null]), .inl (V.2.1 4, 4, .inr (.inr (.inr (.inr (fun _ => none))))), .inr (4, [.ref (V.2.2.1 + 3), .int 0, .int 0, .ref (V.2.2.1 + 4), .ref (V.2.2.1 + 5), .ref (V.2.2.1 + 6), .int 0, .int 0, .long 0, .int (-1), .int 0]), .inl (V.2.1 2, 900, .inl (fun _ => 0)), .inl (V.2.1 0, 901, .inl (fun _ => 0)), .inl (V.2.1 0, 901, .inl (fun _ => 0)), .inl (V.2.1 1, 901, .inr (.inl (fun _ => 0)))] X k_fl_X6_43 (dcl_Re 9 (by decide)) rfl rfl rfl (by decide) rfl dX6_init_67 ?_
  refine c_aload_n (pc := 70) X.1 0 rfl dX6_init_70 ?_
  refine c_iconst (v := (-1)) (pc := 71) X.1 rfl dX6_init_71 ?_
  refine c_put (k := 2) (pc := 72) [.inr (8, [.int 0, .long 0, .long 1, .ref (V.2.2.1 + 1), .null, .null, .null, .null, .null, .null, .null, .int 0, .null, .null, .null, .null, .null]), .inl (V.2.1 4, 4, .inr (.inr (.inr (.inr (fun _ => none))))), .inr (4, [.ref (V.2.2.1 + 3), .int 0, .int 0, .ref (V.2.2.1 + 4), .ref (V.2.2.1 + 5), .ref (V.2.2.1 + 6), .int 0, .int 0, .long 0, .int (-1), .int (-1)]), .inl (V.2.1 2, 900, .inl (fun _ => 0)), .inl (V.2.1 0, 901, .inl (fun _ => 0)), .inl (V.2.1 0, 901, .inl (fun _ => 0)), .inl (V.2.1 1, 901, .inr (.inl (fun _ => 0)))] X k_fl_X6_46 (dcl_Re 10 (by decide)) rfl rfl rfl (by decide) rfl dX6_init_72 ?_
  exact c_vret (pc := 75) X.1 rfl rfl dX6_init_75
def z_7 (V : Ev) : va_E := .inr (1, [.ref (V.2.2.1 + 8), .ref (V.2.2.1 + 9), .ref (V.2.2.1 + 10), .int 0, .int 0, .int 4])
def z_8 (V : Ev) : va_E := .inl (V.2.1 0, 12, .inl (fun _ => 0))
def z_9 (V : Ev) : va_E := .inl (V.2.1 0, 12, .inl (fun _ => 0))
def z_10 (V : Ev) : va_E := .inl (V.2.1 1, 12, .inr (.inl (fun _ => 0)))
set_option maxRecDepth 100000 in
set_option maxHeartbeats 4000000 in
theorem odds {V : Ev} : Rc V 1 M_X1_init [.ref (V.2.2.1 + 7)] [.inr (8, [.int 0, .long 0, .long 1, .ref (V.2.2.1 + 1), .ref (V.2.2.1 + 2), .null, .null, .null, .null, .null, .null, .int 0, .null, .null, .null, .null, .null]), .inl (V.2.1 4, 4, .inr (.inr (.inr (.inr (fun _ => none))))), z_2 V, z_3 V, z_4 V, z_5 V, z_6 V, .inr (1, [.null, .null, .null, .int 0, .int 0, .int 0])] [.inr (8, [.int 0, .long 0, .long 1, .ref (V.2.2.1 + 1), .ref (V.2.2.1 + 2), .null, .null, .null, .null, .null, .null, .int 0, .null, .null, .null, .null, .null]), .inl (V.2.1 4, 4, .inr (.inr (.inr (.inr (fun _ => none))))), z_2 V, z_3 V, z_4 V, z_5 V, z_6 V, z_7 V, z_8 V, z_9 V, z_10 V] 3 36 := by
  refine Rc.of (by decide +kernel) rfl (Nat.le_of_ble_eq_true rfl) (fun Γ X => ?_)

  refine c_aload_n (pc := 0) X.1 0 rfl dX1_init_0 ?_
  refine c_objInit (pc := 1) X.1 k_oi_X1 k_oi2 k_oi3 (Nat.le_of_ble_eq_true rfl) (Nat.le_of_ble_eq_true rfl) dX1_init_1 ?_
  refine c_aload_n (pc := 4) X.1 0 rfl dX1_init_4 ?_
  refine c_bipush (v := 12) (pc := 5) X.1 (by decide) dX1_init_5 ?_
  refine c_newa (ty := .int) (N := 12) (ak := 0) (a0 := .inl (fun _ => 0)) (pc := 7) X.1 X.2.2 rfl k_arr_0 rfl (fun _ h => by cases h) rfl (fun _ => rfl) (by decide) (by decide) (Nat.le_of_ble_eq_true rfl) (Nat.le_of_ble_eq_true rfl) (Nat.le_of_ble_eq_true rfl) dX1_init_7 ?_
  refine c_put (k := 7) (pc := 9) [.inr (8, [.int 0, .long 0, .long 1, .ref (V.2.2.1 + 1), .ref (V.2.2.1 + 2), .null, .null, .null, .null, .null, .null, .int 0, .null, .null, .null, .null, .null]), .inl (V.2.1 4, 4, .inr (.inr (.inr (.inr (fun _ => none))))), z_2 V, z_3 V, z_4 V, z_5 V, z_6 V, .inr (1, [.ref (V.2.2.1 + 8), .null, .null, .int 0, .int 0, .int 0]), .inl (V.2.1 0, 12, .inl (fun _ => 0))] X k_fl_X1_9 (dcl_Cl 0 (by decide)) rfl rfl rfl (by decide) rfl dX1_init_9 ?_
  refine c_aload_n (pc := 12) X.1 0 rfl dX1_init_12 ?_
  refine c_bipush (v := 12) (pc := 13) X.1 (by decide) dX1_init_13 ?_
  refine c_newa (ty := .int) (N := 12) (ak := 0) (a0 := .inl (fun _ => 0)) (pc := 15) X.1 X.2.2 rfl k_arr_0 rfl (fun _ h => by cases h) rfl (fun _ => rfl) (by decide) (by decide) (Nat.le_of_ble_eq_true rfl) (Nat.le_of_ble_eq_true rfl) (Nat.le_of_ble_eq_true rfl) dX1_init_15 ?_
  refine c_put (k := 7) (pc := 17) [.inr (8, [.int 0, .long 0, .long 1, .ref (V.2.2.1 + 1), .ref (V.2.2.1 + 2), .null, .null, .null, .null, .null, .null, .int 0, .null, .null, .null, .null, .null]), .inl (V.2.1 4, 4, .inr (.inr (.inr (.inr (fun _ => none))))), z_2 V, z_3 V, z_4 V, z_5 V, z_6 V, .inr (1, [.ref (V.2.2.1 + 8), .ref (V.2.2.1 + 9), .null, .int 0, .int 0, .int 0]), .inl (V.2.1 0, 12, .inl (fun _ => 0)), .inl (V.2.1 0, 12, .inl (fun _ => 0))] X k_fl_X1_15 (dcl_Cl 1 (by decide)) rfl rfl rfl (by decide) rfl dX1_init_17 ?_
  refine c_aload_n (pc := 20) X.1 0 rfl dX1_init_20 ?_
  refine c_bipush (v := 12) (pc := 21) X.1 (by decide) dX1_init_21 ?_
  refine c_newa (ty := .long) (N := 12) (ak := 1) (a0 := .inr (.inl (fun _ => 0))) (pc := 23) X.1 X.2.2 rfl k_arr_1 rfl (fun _ h => by cases h) rfl (fun _ => rfl) (by decide) (by decide) (Nat.le_of_ble_eq_true rfl) (Nat.le_of_ble_eq_true rfl) (Nat.le_of_ble_eq_true rfl) dX1_init_23 ?_
  refine c_put (k := 7) (pc := 25) [.inr (8, [.int 0, .long 0, .long 1, .ref (V.2.2.1 + 1), .ref (V.2.2.1 + 2), .null, .null, .null, .null, .null, .null, .int 0, .null, .null, .null, .null, .null]), .inl (V.2.1 4, 4, .inr (.inr (.inr (.inr (fun _ => none))))), z_2 V, z_3 V, z_4 V, z_5 V, z_6 V, .inr (1, [.ref (V.2.2.1 + 8), .ref (V.2.2.1 + 9), .ref (V.2.2.1 + 10), .int 0, .int 0, .int 0]), .inl (V.2.1 0, 12, .inl (fun _ => 0)), .inl (V.2.1 0, 12, .inl (fun _ => 0)), .inl (V.2.1 1, 12, .inr (.inl (fun _ => 0)))] X k_fl_X1_18 (dcl_Cl 2 (by decide)) rfl rfl rfl (by decide) rfl dX1_init_25 ?_
  refine c_aload_n (pc := 28) X.1 0 rfl dX1_init_28 ?_
  refine c_iconst (v := 0) (pc := 29) X.1 rfl dX1_init_29 ?_
  refine c_put (k := 7) (pc := 30) [.inr (8, [.int 0, .long 0, .long 1, .ref (V.2.2.1 + 1), .ref (V.2.2.1 + 2), .null, .null, .null, .null, .null, .null, .int 0, .null, .null, .null, .null, .null]), .inl (V.2.1 4, 4, .inr (.inr (.inr (.inr (fun _ => none))))), z_2 V, z_3 V, z_4 V, z_5 V, z_6 V, .inr (1, [.ref (V.2.2.1 + 8), .ref (V.2.2.1 + 9), .ref (V.2.2.1 + 10), .int 0, .int 0, .int 0]), .inl (V.2.1 0, 12, .inl (fun _ => 0)), .inl (V.2.1 0, 12, .inl (fun _ => 0)), .inl (V.2.1 1, 12, .inr (.inl (fun _ => 0)))] X k_fl_X1_22 (dcl_Cl 3 (by decide)) rfl rfl rfl (by decide) rfl dX1_init_30 ?_
  refine c_aload_n (pc := 33) X.1 0 rfl dX1_init_33 ?_
  refine c_iconst (v := 0) (pc := 34) X.1 rfl dX1_init_34 ?_
  refine c_put (k := 7) (pc := 35) [.inr (8, [.int 0, .long 0, .long 1, .ref (V.2.2.1 + 1), .ref (V.2.2.1 + 2), .null, .null, .null, .null, .null, .null, .int 0, .null, .null, .null, .null, .null]), .inl (V.2.1 4, 4, .inr (.inr (.inr (.inr (fun _ => none))))), z_2 V, z_3 V, z_4 V, z_5 V, z_6 V, .inr (1, [.ref (V.2.2.1 + 8), .ref (V.2.2.1 + 9), .ref (V.2.2.1 + 10), .int 0, .int 0, .int 0]), .inl (V.2.1 0, 12, .inl (fun _ => 0)), .inl (V.2.1 0, 12, .inl (fun _ => 0)), .inl (V.2.1 1, 12, .inr (.inl (fun _ => 0)))] X k_fl_X1_26 (dcl_Cl 4 (by decide)) rfl rfl rfl (by decide) rfl dX1_init_35 ?_
  refine c_aload_n (pc := 38) X.1 0 rfl dX1_init_38 ?_
  refine c_iconst (v := 4) (pc := 39) X.1 rfl dX1_init_39 ?_
  refine c_put (k := 7) (pc := 40) [.inr (8, [.int 0, .long 0, .long 1, .ref (V.2.2.1 + 1), .ref (V.2.2.1 + 2), .null, .null, .null, .null, .null, .null, .int 0, .null, .null, .null, .null, .null]), .inl (V.2.1 4, 4, .inr (.inr (.inr (.inr (fun _ => none))))), z_2 V, z_3 V, z_4 V, z_5 V, z_6 V, .inr (1, [.ref (V.2.2.1 + 8), .ref (V.2.2.1 + 9), .ref (V.2.2.1 + 10), .int 0, .int 0, .int 4]), .inl (V.2.1 0, 12, .inl (fun _ => 0)), .inl (V.2.1 0, 12, .inl (fun _ => 0)), .inl (V.2.1 1, 12, .inr (.inl (fun _ => 0)))] X k_fl_X1_29 (dcl_Cl 5 (by decide)) rfl rfl rfl (by decide) rfl dX1_init_40 ?_
  exact c_vret (pc := 43) X.1 rfl rfl dX1_init_43
def z_11 (V : Ev) : va_E := .inr (1, [.ref (V.2.2.1 + 12), .ref (V.2.2.1 + 13), .ref (V.2.2.1 + 14), .int 0, .int 0, .int 4])
def z_12 (V : Ev) : va_E := .inl (V.2.1 0, 12, .inl (fun _ => 0))
def z_13 (V : Ev) : va_E := .inl (V.2.1 0, 12, .inl (fun _ => 0))
def z_14 (V : Ev) : va_E := .inl (V.2.1 1, 12, .inr (.inl (fun _ => 0)))
set_option maxRecDepth 100000 in
set_option maxHeartbeats 4000000 in
theorem odds {V : Ev} : Rc V 1 M_X1_init [.ref (V.2.2.1 + 11)] [.inr (8, [.int 0, .long 0, .long 1, .ref (V.2.2.1 + 1), .ref (V.2.2.1 + 2), .ref (V.2.2.1 + 7), .null, .null, .null, .null, .null, .int 0, .null, .null, .null, .null, .null]), .inl (V.2.1 4, 4, .inr (.inr (.inr (.inr (fun _ => none))))), z_2 V, z_3 V, z_4 V, z_5 V, z_6 V, z_7 V, z_8 V, z_9 V, z_10 V, .inr (1, [.null, .null, .null, .int 0, .int 0, .int 0])] [.inr (8, [.int 0, .long 0, .long 1, .ref (V.2.2.1 + 1), .ref (V.2.2.1 + 2), .ref (V.2.2.1 + 7), .null, .null, .null, .null, .null, .int 0, .null, .null, .null, .null, .null]), .inl (V.2.1 4, 4, .inr (.inr (.inr (.inr (fun _ => none))))), z_2 V, z_3 V, z_4 V, z_5 V, z_6 V, z_7 V, z_8 V, z_9 V, z_10 V, z_11 V, z_12 V, z_13 V, z_14 V] 3 36 := by
  refine Rc.of (by decide +kernel) rfl (Nat.le_of_ble_eq_true rfl) (fun Γ X => ?_)

  refine c_aload_n (pc := 0) X.1 0 rfl dX1_init_0 ?_
  refine c_objInit (pc := 1) X.1 k_oi_X1 k_oi2 k_oi3 (Nat.le_of_ble_eq_true rfl) (Nat.le_of_ble_eq_true rfl) dX1_init_1 ?_
  refine c_aload_n (pc := 4) X.1 0 rfl dX1_init_4 ?_
  refine c_bipush (v := 12) (pc := 5) X.1 (by decide) dX1_init_5 ?_
  refine c_newa (ty := .int) (N := 12) (ak := 0) (a0 := .inl (fun _ => 0)) (pc := 7) X.1 X.2.2 rfl k_arr_0 rfl (fun _ h => by cases h) rfl (fun _ => rfl) (by decide) (by decide) (Nat.le_of_ble_eq_true rfl) (Nat.le_of_ble_eq_true rfl) (Nat.le_of_ble_eq_true rfl) dX1_init_7 ?_
  refine c_put (k := 11) (pc := 9) [.inr (8, [.int 0, .long 0, .long 1, .ref (V.2.2.1 + 1), .ref (V.2.2.1 + 2), .ref (V.2.2.1 + 7), .null, .null, .null, .null, .null, .int 0, .null, .null, .null, .null, .null]), .inl (V.2.1 4, 4, .inr (.inr (.inr (.inr (fun _ => none))))), z_2 V, z_3 V, z_4 V, z_5 V, z_6 V, z_7 V, z_8 V, z_9 V, z_10 V, .inr (1, [.ref (V.2.2.1 + 12), .null, .null, .int 0, .int 0, .int 0]), .inl (V.2.1 0, 12, .inl (fun _ => 0))] X k_fl_X1_9 (dcl_Cl 0 (by decide)) rfl rfl rfl (by decide) rfl dX1_init_9 ?_
  refine c_aload_n (pc := 12) X.1 0 rfl dX1_init_12 ?_
  refine c_bipush (v := 12) (pc := 13) X.1 (by decide) dX1_init_13 ?_
  refine c_newa (ty := .int) (N := 12) (ak := 0) (a0 := .inl (fun _ => 0)) (pc := 15) X.1 X.2.2 rfl k_arr_0 rfl (fun _ h => by cases h) rfl (fun _ => rfl) (by decide) (by decide) (Nat.le_of_ble_eq_true rfl) (Nat.le_of_ble_eq_true rfl) (Nat.le_of_ble_eq_true rfl) dX1_init_15 ?_
  refine c_put (k := 11) (pc := 17) [.inr (8, [.int 0, .long 0, .long 1, .ref (V.2.2.1 + 1), .ref (V.2.2.1 + 2), .ref (V.2.2.1 + 7), .null, .null, .null, .null, .null, .int 0, .null, .null, .null, .null, .null]), .inl (V.2.1 4, 4, .inr (.inr (.inr (.inr (fun _ => none))))), z_2 V, z_3 V, z_4 V, z_5 V, z_6 V, z_7 V, z_8 V, z_9 V, z_10 V, .inr (1, [.ref (V.2.2.1 + 12), .ref (V.2.2.1 + 13), .null, .int 0, .int 0, .int 0]), .inl (V.2.1 0, 12, .inl (fun _ => 0)), .inl (V.2.1 0, 12, .inl (fun _ => 0))] X k_fl_X1_15 (dcl_Cl 1 (by decide)) rfl rfl rfl (by decide) rfl dX1_init_17 ?_
  refine c_aload_n (pc := 20) X.1 0 rfl dX1_init_20 ?_
  refine c_bipush (v := 12) (pc := 21) X.1 (by decide) dX1_init_21 ?_
  refine c_newa (ty := .long) (N := 12) (ak := 1) (a0 := .inr (.inl (fun _ => 0))) (pc := 23) X.1 X.2.2 rfl k_arr_1 rfl (fun _ h => by cases h) rfl (fun _ => rfl) (by decide) (by decide) (Nat.le_of_ble_eq_true rfl) (Nat.le_of_ble_eq_true rfl) (Nat.le_of_ble_eq_true rfl) dX1_init_23 ?_
  refine c_put (k := 11) (pc := 25) [.inr (8, [.int 0, .long 0, .long 1, .ref (V.2.2.1 + 1), .ref (V.2.2.1 + 2), .ref (V.2.2.1 + 7), .null, .null, .null, .null, .null, .int 0, .null, .null, .null, .null, .null]), .inl (V.2.1 4, 4, .inr (.inr (.inr (.inr (fun _ => none))))), z_2 V, z_3 V, z_4 V, z_5 V, z_6 V, z_7 V, z_8 V, z_9 V, z_10 V, .inr (1, [.ref (V.2.2.1 + 12), .ref (V.2.2.1 + 13), .ref (V.2.2.1 + 14), .int 0, .int 0, .int 0]), .inl (V.2.1 0, 12, .inl (fun _ => 0)), .inl (V.2.1 0, 12, .inl (fun _ => 0)), .inl (V.2.1 1, 12, .inr (.inl (fun _ => 0)))] X k_fl_X1_18 (dcl_Cl 2 (by decide)) rfl rfl rfl (by decide) rfl dX1_init_25 ?_
  refine c_aload_n (pc := 28) X.1 0 rfl dX1_init_28 ?_
  refine c_iconst (v := 0) (pc := 29) X.1 rfl dX1_init_29 ?_
  refine c_put (k := 11) (pc := 30) [.inr (8, [.int 0, .long 0, .long 1, .ref (V.2.2.1 + 1), .ref (V.2.2.1 + 2), .ref (V.2.2.1 + 7), .null, .null, .null, .null, .null, .int 0, .null, .null, .null, .null, .null]), .inl (V.2.1 4, 4, .inr (.inr (.inr (.inr (fun _ => none))))), z_2 V, z_3 V, z_4 V, z_5 V, z_6 V, z_7 V, z_8 V, z_9 V, z_10 V, .inr (1, [.ref (V.2.2.1 + 12), .ref (V.2.2.1 + 13), .ref (V.2.2.1 + 14), .int 0, .int 0, .int 0]), .inl (V.2.1 0, 12, .inl (fun _ => 0)), .inl (V.2.1 0, 12, .inl (fun _ => 0)), .inl (V.2.1 1, 12, .inr (.inl (fun _ => 0)))] X k_fl_X1_22 (dcl_Cl 3 (by decide)) rfl rfl rfl (by decide) rfl dX1_init_30 ?_
  refine c_aload_n (pc := 33) X.1 0 rfl dX1_init_33 ?_
  refine c_iconst (v := 0) (pc := 34) X.1 rfl dX1_init_34 ?_
  refine c_put (k := 11) (pc := 35) [.inr (8, [.int 0, .long 0, .long 1, .ref (V.2.2.1 + 1), .ref (V.2.2.1 + 2), .ref (V.2.2.1 + 7), .null, .null, .null, .null, .null, .int 0, .null, .null, .null, .null, .null]), .inl (V.2.1 4, 4, .inr (.inr (.inr (.inr (fun _ => none))))), z_2 V, z_3 V, z_4 V, z_5 V, z_6 V, z_7 V, z_8 V, z_9 V, z_10 V, .inr (1, [.ref (V.2.2.1 + 12), .ref (V.2.2.1 + 13), .ref (V.2.2.1 + 14), .int 0, .int 0, .int 0]), .inl (V.2.1 0, 12, .inl (fun _ => 0)), .inl (V.2.1 0, 12, .inl (fun _ => 0)), .inl (V.2.1 1, 12, .inr (.inl (fun _ => 0)))] X k_fl_X1_26 (dcl_Cl 4 (by decide)) rfl rfl rfl (by decide) rfl dX1_init_35 ?_
  refine c_aload_n (pc := 38) X.1 0 rfl dX1_init_38 ?_
  refine c_iconst (v := 4) (pc := 39) X.1 rfl dX1_init_39 ?_
  refine c_put (k := 11) (pc := 40) [.inr (8, [.int 0, .long 0, .long 1, .ref (V.2.2.1 + 1), .ref (V.2.2.1 + 2), .ref (V.2.2.1 + 7), .null, .null, .null, .null, .null, .int 0, .null, .null, .null, .null, .null]), .inl (V.2.1 4, 4, .inr (.inr (.inr (.inr (fun _ => none))))), z_2 V, z_3 V, z_4 V, z_5 V, z_6 V, z_7 V, z_8 V, z_9 V, z_10 V, .inr (1, [.ref (V.2.2.1 + 12), .ref (V.2.2.1 + 13), .ref (V.2.2.1 + 14), .int 0, .int 0, .int 4]), .inl (V.2.1 0, 12, .inl (fun _ => 0)), .inl (V.2.1 0, 12, .inl (fun _ => 0)), .inl (V.2.1 1, 12, .inr (.inl (fun _ => 0)))] X k_fl_X1_29 (dcl_Cl 5 (by decide)) rfl rfl rfl (by decide) rfl dX1_init_40 ?_
  exact c_vret (pc := 43) X.1 rfl rfl dX1_init_43
def z_15 (V : Ev) : va_E := .inr (2, [.ref (V.2.2.1 + 16), .ref (V.2.2.1 + 17), .ref (V.2.2.1 + 18), .ref (V.2.2.1 + 19), .ref (V.2.2.1 + 20), .ref (V.2.2.1 + 21), .int 0, .int 0, .int 0])
def z_16 (V : Ev) : va_E := .inl (V.2.1 0, 60, .inl (fun _ => 0))
def z_17 (V : Ev) : va_E := .inl (V.2.1 0, 60, .inl (fun _ => 0))
def z_18 (V : Ev) : va_E := .inl (V.2.1 0, 60, .inl (fun _ => 0))
def z_19 (V : Ev) : va_E := .inl (V.2.1 0, 60, .inl (fun _ => 0))
def z_20 (V : Ev) : va_E := .inl (V.2.1 0, 60, .inl (fun _ => 0))
def z_21 (V : Ev) : va_E := .inl (V.2.1 0, 60, .inl (fun _ => 0))
set_option maxRecDepth 100000 in
set_option maxHeartbeats 4000000 in
theorem there {V : Ev} : Rc V 1 M_X2_init [.ref (V.2.2.1 + 15)] [.inr (8, [.int 0, .long 0, .long 1, .ref (V.2.2.1 + 1), .ref (V.2.2.1 + 2), .ref (V.2.2.1 + 7), .ref (V.2.2.1 + 11), .null, .null, .null, .null, .int 0, .null, .null, .null, .null, .null]), .inl (V.2.1 4, 4, .inr (.inr (.inr (.inr (fun _ => none))))), z_2 V, z_3 V, z_4 V, z_5 V, z_6 V, z_7 V, z_8 V, z_9 V, z_10 V, z_11 V, z_12 V, z_13 V, z_14 V, .inr (2, [.null, .null, .null, .null, .null, .null, .int 0, .int 0, .int 0])] [.inr (8, [.int 0, .long 0, .long 1, .ref (V.2.2.1 + 1), .ref (V.2.2.1 + 2), .ref (V.2.2.1 + 7), .ref (V.2.2.1 + 11), .null, .null, .null, .null, .int 0, .null, .null, .null, .null, .null]), .inl (V.2.1 4, 4, .inr (.inr (.inr (.inr (fun _ => none))))), z_2 V, z_3 V, z_4 V, z_5 V, z_6 V, z_7 V, z_8 V, z_9 V, z_10 V, z_11 V, z_12 V, z_13 V, z_14 V, z_15 V, z_16 V, z_17 V, z_18 V, z_19 V, z_20 V, z_21 V] 6 360 := by
  refine Rc.of (by decide +kernel) rfl (Nat.le_of_ble_eq_true rfl) (fun Γ X => ?_)

  refine c_aload_n (pc := 0) X.1 0 rfl dX2_init_0 ?_
  refine c_objInit (pc := 1) X.1 k_oi_X2 k_oi2 k_oi3 (Nat.le_of_ble_eq_true rfl) (Nat.le_of_ble_eq_true rfl) dX2_init_1 ?_
  refine c_aload_n (pc := 4) X.1 0 rfl dX2_init_4 ?_
  refine c_bipush (v := 60) (pc := 5) X.1 (by decide) dX2_init_5 ?_
  refine c_newa (ty := .int) (N := 60) (ak := 0) (a0 := .inl (fun _ => 0)) (pc := 7) X.1 X.2.2 rfl k_arr_0 rfl (fun _ h => by cases h) rfl (fun _ => rfl) (by decide) (by decide) (Nat.le_of_ble_eq_true rfl) (Nat.le_of_ble_eq_true rfl) (Nat.le_of_ble_eq_true rfl) dX2_init_7 ?_
  refine c_put (k := 15) (pc := 9) [.inr (8, [.int 0, .long 0, .long 1, .ref (V.2.2.1 + 1), .ref (V.2.2.1 + 2), .ref (V.2.2.1 + 7), .ref (V.2.2.1 + 11), .null, .null, .null, .null, .int 0, .null, .null, .null, .null, .null]), .inl (V.2.1 4, 4, .inr (.inr (.inr (.inr (fun _ => none))))), z_2 V, z_3 V, z_4 V, z_5 V, z_6 V, z_7 V, z_8 V, z_9 V, z_10 V, z_11 V, z_12 V, z_13 V, z_14 V, .inr (2, [.ref (V.2.2.1 + 16), .null, .null, .null, .null, .null, .int 0, .int 0, .int 0]), .inl (V.2.1 0, 60, .inl (fun _ => 0))] X k_fl_X2_9 (dcl_Da 0 (by decide)) rfl rfl rfl (by decide) rfl dX2_init_9 ?_
  refine c_aload_n (pc := 12) X.1 0 rfl dX2_init_12 ?_
  refine c_bipush (v := 60) (pc := 13) X.1 (by decide) dX2_init_13 ?_
  refine c_newa (ty := .int) (N := 60) (ak := 0) (a0 := .inl (fun _ => 0)) (pc := 15) X.1 X.2.2 rfl k_arr_0 rfl (fun _ h => by cases h) rfl (fun _ => rfl) (by decide) (by decide) (Nat.le_of_ble_eq_true rfl) (Nat.le_of_ble_eq_true rfl) (Nat.le_of_ble_eq_true rfl) dX2_init_15 ?_
  refine c_put (k := 15) (pc := 17) [.inr (8, [.int 0, .long 0, .long 1, .ref (V.2.2.1 + 1), .ref (V.2.2.1 + 2), .ref (V.2.2.1 + 7), .ref (V.2.2.1 + 11), .null, .null, .null, .null, .int 0, .null, .null, .null, .null, .null]), .inl (V.2.1 4, 4, .inr (.inr (.inr (.inr (fun _ => none))))), z_2 V, z_3 V, z_4 V, z_5 V, z_6 V, z_7 V, z_8 V, z_9 V, z_10 V, z_11 V, z_12 V, z_13 V, z_14 V, .inr (2, [.ref (V.2.2.1 + 16), .ref (V.2.2.1 + 17), .null, .null, .null, .null, .int 0, .int 0, .int 0]), .inl (V.2.1 0, 60, .inl (fun _ => 0)), .inl (V.2.1 0, 60, .inl (fun _ => 0))] X k_fl_X2_13 (dcl_Da 1 (by decide)) rfl rfl rfl (by decide) rfl dX2_init_17 ?_
  refine c_aload_n (pc := 20) X.1 0 rfl dX2_init_20 ?_
  refine c_bipush (v := 60) (pc := 21) X.1 (by decide) dX2_init_21 ?_
  refine c_newa (ty := .int) (N := 60) (ak := 0) (a0 := .inl (fun _ => 0)) (pc := 23) X.1 X.2.2 rfl k_arr_0 rfl (fun _ h => by cases h) rfl (fun _ => rfl) (by decide) (by decide) (Nat.le_of_ble_eq_true rfl) (Nat.le_of_ble_eq_true rfl) (Nat.le_of_ble_eq_true rfl) dX2_init_23 ?_
  refine c_put (k := 15) (pc := 25) [.inr (8, [.int 0, .long 0, .long 1, .ref (V.2.2.1 + 1), .ref (V.2.2.1 + 2), .ref (V.2.2.1 + 7), .ref (V.2.2.1 + 11), .null, .null, .null, .null, .int 0, .null, .null, .null, .null, .null]), .inl (V.2.1 4, 4, .inr (.inr (.inr (.inr (fun _ => none))))), z_2 V, z_3 V, z_4 V, z_5 V, z_6 V, z_7 V, z_8 V, z_9 V, z_10 V, z_11 V, z_12 V, z_13 V, z_14 V, .inr (2, [.ref (V.2.2.1 + 16), .ref (V.2.2.1 + 17), .ref (V.2.2.1 + 18), .null, .null, .null, .int 0, .int 0, .int 0]), .inl (V.2.1 0, 60, .inl (fun _ => 0)), .inl (V.2.1 0, 60, .inl (fun _ => 0)), .inl (V.2.1 0, 60, .inl (fun _ => 0))] X k_fl_X2_16 (dcl_Da 2 (by decide)) rfl rfl rfl (by decide) rfl dX2_init_25 ?_
  refine c_aload_n (pc := 28) X.1 0 rfl dX2_init_28 ?_
  refine c_bipush (v := 60) (pc := 29) X.1 (by decide) dX2_init_29 ?_
  refine c_newa (ty := .int) (N := 60) (ak := 0) (a0 := .inl (fun _ => 0)) (pc := 31) X.1 X.2.2 rfl k_arr_0 rfl (fun _ h => by cases h) rfl (fun _ => rfl) (by decide) (by decide) (Nat.le_of_ble_eq_true rfl) (Nat.le_of_ble_eq_true rfl) (Nat.le_of_ble_eq_true rfl) dX2_init_31 ?_
  refine c_put (k := 15) (pc := 33) [.inr (8, [.int 0, .long 0, .long 1, .ref (V.2.2.1 + 1), .ref (V.2.2.1 + 2), .ref (V.2.2.1 + 7), .ref (V.2.2.1 + 11), .null, .null, .null, .null, .int 0, .null, .null, .null, .null, .null]), .inl (V.2.1 4, 4, .inr (.inr (.inr (.inr (fun _ => none))))), z_2 V, z_3 V, z_4 V, z_5 V, z_6 V, z_7 V, z_8 V, z_9 V, z_10 V, z_11 V, z_12 V, z_13 V, z_14 V, .inr (2, [.ref (V.2.2.1 + 16), .ref (V.2.2.1 + 17), .ref (V.2.2.1 + 18), .ref (V.2.2.1 + 19), .null, .null, .int 0, .int 0, .int 0]), .inl (V.2.1 0, 60, .inl (fun _ => 0)), .inl (V.2.1 0, 60, .inl (fun _ => 0)), .inl (V.2.1 0, 60, .inl (fun _ => 0)), .inl (V.2.1 0, 60, .inl (fun _ => 0))] X k_fl_X2_19 (dcl_Da 3 (by decide)) rfl rfl rfl (by decide) rfl dX2_init_33 ?_
  refine c_aload_n (pc := 36) X.1 0 rfl dX2_init_36 ?_
  refine c_bipush (v := 60) (pc := 37) X.1 (by decide) dX2_init_37 ?_
  refine c_newa (ty := .int) (N := 60) (ak := 0) (a0 := .inl (fun _ => 0)) (pc := 39) X.1 X.2.2 rfl k_arr_0 rfl (fun _ h => by cases h) rfl (fun _ => rfl) (by decide) (by decide) (Nat.le_of_ble_eq_true rfl) (Nat.le_of_ble_eq_true rfl) (Nat.le_of_ble_eq_true rfl) dX2_init_39 ?_
  refine c_put (k := 15) (pc := 41) [.inr (8, [.int 0, .long 0, .long 1, .ref (V.2.2.1 + 1), .ref (V.2.2.1 + 2), .ref (V.2.2.1 + 7), .ref (V.2.2.1 + 11), .null, .null, .null, .null, .int 0, .null, .null, .null, .null, .null]), .inl (V.2.1 4, 4, .inr (.inr (.inr (.inr (fun _ => none))))), z_2 V, z_3 V, z_4 V, z_5 V, z_6 V, z_7 V, z_8 V, z_9 V, z_10 V, z_11 V, z_12 V, z_13 V, z_14 V, .inr (2, [.ref (V.2.2.1 + 16), .ref (V.2.2.1 + 17), .ref (V.2.2.1 + 18), .ref (V.2.2.1 + 19), .ref (V.2.2.1 + 20), .null, .int 0, .int 0, .int 0]), .inl (V.2.1 0, 60, .inl (fun _ => 0)), .inl (V.2.1 0, 60, .inl (fun _ => 0)), .inl (V.2.1 0, 60, .inl (fun _ => 0)), .inl (V.2.1 0, 60, .inl (fun _ => 0)), .inl (V.2.1 0, 60, .inl (fun _ => 0))] X k_fl_X2_22 (dcl_Da 4 (by decide)) rfl rfl rfl (by decide) rfl dX2_init_41 ?_
  refine c_aload_n (pc := 44) X.1 0 rfl dX2_init_44 ?_
  refine c_bipush (v := 60) (pc := 45) X.1 (by decide) dX2_init_45 ?_
  refine c_newa (ty := .int) (N := 60) (ak := 0) (a0 := .inl (fun _ => 0)) (pc := 47) X.1 X.2.2 rfl k_arr_0 rfl (fun _ h => by cases h) rfl (fun _ => rfl) (by decide) (by decide) (Nat.le_of_ble_eq_true rfl) (Nat.le_of_ble_eq_true rfl) (Nat.le_of_ble_eq_true rfl) dX2_init_47 ?_
  refine c_put (k := 15) (pc := 49) [.inr (8, [.int 0, .long 0, .long 1, .ref (V.2.2.1 + 1), .ref (V.2.2.1 + 2), .ref (V.2.2.1 + 7), .ref (V.2.2.1 + 11), .null, .null, .null, .null, .int 0, .null, .null, .null, .null, .null]), .inl (V.2.1 4, 4, .inr (.inr (.inr (.inr (fun _ => none))))), z_2 V, z_3 V, z_4 V, z_5 V, z_6 V, z_7 V, z_8 V, z_9 V, z_10 V, z_11 V, z_12 V, z_13 V, z_14 V, .inr (2, [.ref (V.2.2.1 + 16), .ref (V.2.2.1 + 17), .ref (V.2.2.1 + 18), .ref (V.2.2.1 + 19), .ref (V.2.2.1 + 20), .ref (V.2.2.1 + 21), .int 0, .int 0, .int 0]), .inl (V.2.1 0, 60, .inl (fun _ => 0)), .inl (V.2.1 0, 60, .inl (fun _ => 0)), .inl (V.2.1 0, 60, .inl (fun _ => 0)), .inl (V.2.1 0, 60, .inl (fun _ => 0)), .inl (V.2.1 0, 60, .inl (fun _ => 0)), .inl (V.2.1 0, 60, .inl (fun _ => 0))] X k_fl_X2_25 (dcl_Da 5 (by decide)) rfl rfl rfl (by decide) rfl dX2_init_49 ?_
  refine c_aload_n (pc := 52) X.1 0 rfl dX2_init_52 ?_
  refine c_iconst (v := 0) (pc := 53) X.1 rfl dX2_init_53 ?_
  refine c_put (k := 15) (pc := 54) [.inr (8, [.int 0, .long 0, .long 1, .ref (V.2.2.1 + 1), .ref (V.2.2.1 + 2), .ref (V.2.2.1 + 7), .ref (V.2.2.1 + 11), .null, .null, .null, .null, .int 0, .null, .null, .null, .null, .null]), .inl (V.2.1 4, 4, .inr (.inr (.inr (.inr (fun _ => none))))), z_2 V, z_3 V, z_4 V, z_5 V, z_6 V, z_7 V, z_8 V, z_9 V, z_10 V, z_11 V, z_12 V, z_13 V, z_14 V, .inr (2, [.ref (V.2.2.1 + 16), .ref (V.2.2.1 + 17), .ref (V.2.2.1 + 18), .ref (V.2.2.1 + 19), .ref (V.2.2.1 + 20), .ref (V.2.2.1 + 21), .int 0, .int 0, .int 0]), .inl (V.2.1 0, 60, .inl (fun _ => 0)), .inl (V.2.1 0, 60, .inl (fun _ => 0)), .inl (V.2.1 0, 60, .inl (fun _ => 0)), .inl (V.2.1 0, 60, .inl (fun _ => 0)), .inl (V.2.1 0, 60, .inl (fun _ => 0)), .inl (V.2.1 0, 60, .inl (fun _ => 0))] X k_fl_X2_28 (dcl_Da 6 (by decide)) rfl rfl rfl (by decide) rfl dX2_init_54 ?_
  refine c_aload_n (pc := 57) X.1 0 rfl dX2_init_57 ?_
  refine c_iconst (v := 0) (pc := 58) X.1 rfl dX2_init_58 ?_
  refine c_put (k := 15) (pc := 59) [.inr (8, [.int 0, .long 0, .long 1, .ref (V.2.2.1 + 1), .ref (V.2.2.1 + 2), .ref (V.2.2.1 + 7), .ref (V.2.2.1 + 11), .null, .null, .null, .null, .int 0, .null, .null, .null, .null, .null]), .inl (V.2.1 4, 4, .inr (.inr (.inr (.inr (fun _ => none))))), z_2 V, z_3 V, z_4 V, z_5 V, z_6 V, z_7 V, z_8 V, z_9 V, z_10 V, z_11 V, z_12 V, z_13 V, z_14 V, .inr (2, [.ref (V.2.2.1 + 16), .ref (V.2.2.1 + 17), .ref (V.2.2.1 + 18), .ref (V.2.2.1 + 19), .ref (V.2.2.1 + 20), .ref (V.2.2.1 + 21), .int 0, .int 0, .int 0]), .inl (V.2.1 0, 60, .inl (fun _ => 0)), .inl (V.2.1 0, 60, .inl (fun _ => 0)), .inl (V.2.1 0, 60, .inl (fun _ => 0)), .inl (V.2.1 0, 60, .inl (fun _ => 0)), .inl (V.2.1 0, 60, .inl (fun _ => 0)), .inl (V.2.1 0, 60, .inl (fun _ => 0))] X k_fl_X2_32 (dcl_Da 7 (by decide)) rfl rfl rfl (by decide) rfl dX2_init_59 ?_
  refine c_aload_n (pc := 62) X.1 0 rfl dX2_init_62 ?_
  refine c_iconst (v := 0) (pc := 63) X.1 rfl dX2_init_63 ?_
  refine c_put (k := 15) (pc := 64) [.inr (8, [.int 0, .long 0, .long 1, .ref (V.2.2.1 + 1), .ref (V.2.2.1 + 2), .ref (V.2.2.1 + 7), .ref (V.2.2.1 + 11), .null, .null, .null, .null, .int 0, .null, .null, .null, .null, .null]), .inl (V.2.1 4, 4, .inr (.inr (.inr (.inr (fun _ => none))))), z_2 V, z_3 V, z_4 V, z_5 V, z_6 V, z_7 V, z_8 V, z_9 V, z_10 V, z_11 V, z_12 V, z_13 V, z_14 V, .inr (2, [.ref (V.2.2.1 + 16), .ref (V.2.2.1 + 17), .ref (V.2.2.1 + 18), .ref (V.2.2.1 + 19), .ref (V.2.2.1 + 20), .ref (V.2.2.1 + 21), .int 0, .int 0, .int 0]), .inl (V.2.1 0, 60, .inl (fun _ => 0)), .inl (V.2.1 0, 60, .inl (fun _ => 0)), .inl (V.2.1 0, 60, .inl (fun _ => 0)), .inl (V.2.1 0, 60, .inl (fun _ => 0)), .inl (V.2.1 0, 60, .inl (fun _ => 0)), .inl (V.2.1 0, 60, .inl (fun _ => 0))] X k_fl_X2_35 (dcl_Da 8 (by decide)) rfl (by decide +kernel) (by decide +kernel) (by decide) rfl dX2_init_64 ?_
  exact c_vret (pc := 67) X.1 rfl rfl dX2_init_67
def z_22 (V : Ev) : va_E := .inr (2, [.ref (V.2.2.1 + 23), .ref (V.2.2.1 + 24), .ref (V.2.2.1 + 25), .ref (V.2.2.1 + 26), .ref (V.2.2.1 + 27), .ref (V.2.2.1 + 28), .int 0, .int 0, .int 0])
def z_23 (V : Ev) : va_E := .inl (V.2.1 0, 60, .inl (fun _ => 0))
def z_24 (V : Ev) : va_E := .inl (V.2.1 0, 60, .inl (fun _ => 0))
def z_25 (V : Ev) : va_E := .inl (V.2.1 0, 60, .inl (fun _ => 0))
def z_26 (V : Ev) : va_E := .inl (V.2.1 0, 60, .inl (fun _ => 0))
def z_27 (V : Ev) : va_E := .inl (V.2.1 0, 60, .inl (fun _ => 0))
def z_28 (V : Ev) : va_E := .inl (V.2.1 0, 60, .inl (fun _ => 0))
set_option maxRecDepth 100000 in
set_option maxHeartbeats 4000000 in
theorem there {V : Ev} : Rc V 1 M_X2_init [.ref (V.2.2.1 + 22)] [.inr (8, [.int 0, .long 0, .long 1, .ref (V.2.2.1 + 1), .ref (V.2.2.1 + 2), .ref (V.2.2.1 + 7), .ref (V.2.2.1 + 11), .ref (V.2.2.1 + 15), .null, .null, .null, .int 0, .null, .null, .null, .null, .null]), .inl (V.2.1 4, 4, .inr (.inr (.inr (.inr (fun _ => none))))), z_2 V, z_3 V, z_4 V, z_5 V, z_6 V, z_7 V, z_8 V, z_9 V, z_10 V, z_11 V, z_12 V, z_13 V, z_14 V, z_15 V, z_16 V, z_17 V, z_18 V, z_19 V, z_20 V, z_21 V, .inr (2, [.null, .null, .null, .null, .null, .null, .int 0, .int 0, .int 0])] [.inr (8, [.int 0, .long 0, .long 1, .ref (V.2.2.1 + 1), .ref (V.2.2.1 + 2), .ref (V.2.2.1 + 7), .ref (V.2.2.1 + 11), .ref (V.2.2.1 + 15), .null, .null, .null, .int 0, .null, .null, .null, .null, .null]), .inl (V.2.1 4, 4, .inr (.inr (.inr (.inr (fun _ => none))))), z_2 V, z_3 V, z_4 V, z_5 V, z_6 V, z_7 V, z_8 V, z_9 V, z_10 V, z_11 V, z_12 V, z_13 V, z_14 V, z_15 V, z_16 V, z_17 V, z_18 V, z_19 V, z_20 V, z_21 V, z_22 V, z_23 V, z_24 V, z_25 V, z_26 V, z_27 V, z_28 V] 6 360 := by
  refine Rc.of (by decide +kernel) rfl (Nat.le_of_ble_eq_true rfl) (fun Γ X => ?_)

  refine c_aload_n (pc := 0) X.1 0 rfl dX2_init_0 ?_
  refine c_objInit (pc := 1) X.1 k_oi_X2 k_oi2 k_oi3 (Nat.le_of_ble_eq_true rfl) (Nat.le_of_ble_eq_true rfl) dX2_init_1 ?_
  refine c_aload_n (pc := 4) X.1 0 rfl dX2_init_4 ?_
  refine c_bipush (v := 60) (pc := 5) X.1 (by decide) dX2_init_5 ?_
  refine c_newa (ty := .int) (N := 60) (ak := 0) (a0 := .inl (fun _ => 0)) (pc := 7) X.1 X.2.2 rfl k_arr_0 rfl (fun _ h => by cases h) rfl (fun _ => rfl) (by decide) (by decide) (Nat.le_of_ble_eq_true rfl) (Nat.le_of_ble_eq_true rfl) (Nat.le_of_ble_eq_true rfl) dX2_init_7 ?_
  refine c_put (k := 22) (pc := 9) [.inr (8, [.int 0, .long 0, .long 1, .ref (V.2.2.1 + 1), .ref (V.2.2.1 + 2), .ref (V.2.2.1 + 7), .ref (V.2.2.1 + 11), .ref (V.2.2.1 + 15), .null, .null, .null, .int 0, .null, .null, .null, .null, .null]), .inl (V.2.1 4, 4, .inr (.inr (.inr (.inr (fun _ => none))))), z_2 V, z_3 V, z_4 V, z_5 V, z_6 V, z_7 V, z_8 V, z_9 V, z_10 V, z_11 V, z_12 V, z_13 V, z_14 V, z_15 V, z_16 V, z_17 V, z_18 V, z_19 V, z_20 V, z_21 V, .inr (2, [.ref (V.2.2.1 + 23), .null, .null, .null, .null, .null, .int 0, .int 0, .int 0]), .inl (V.2.1 0, 60, .inl (fun _ => 0))] X k_fl_X2_9 (dcl_Da 0 (by decide)) rfl rfl rfl (by decide) rfl dX2_init_9 ?_
  refine c_aload_n (pc := 12) X.1 0 rfl dX2_init_12 ?_
  refine c_bipush (v := 60) (pc := 13) X.1 (by decide) dX2_init_13 ?_
  refine c_newa (ty := .int) (N := 60) (ak := 0) (a0 := .inl (fun _ => 0)) (pc := 15) X.1 X.2.2 rfl k_arr_0 rfl (fun _ h => by cases h) rfl (fun _ => rfl) (by decide) (by decide) (Nat.le_of_ble_eq_true rfl) (Nat.le_of_ble_eq_true rfl) (Nat.le_of_ble_eq_true rfl) dX2_init_15 ?_
  refine c_put (k := 22) (pc := 17) [.inr (8, [.int 0, .long 0, .long 1, .ref (V.2.2.1 + 1), .ref (V.2.2.1 + 2), .ref (V.2.2.1 + 7), .ref (V.2.2.1 + 11), .ref (V.2.2.1 + 15), .null, .null, .null, .int 0, .null, .null, .null, .null, .null]), .inl (V.2.1 4, 4, .inr (.inr (.inr (.inr (fun _ => none))))), z_2 V, z_3 V, z_4 V, z_5 V, z_6 V, z_7 V, z_8 V, z_9 V, z_10 V, z_11 V, z_12 V, z_13 V, z_14 V, z_15 V, z_16 V, z_17 V, z_18 V, z_19 V, z_20 V, z_21 V, .inr (2, [.ref (V.2.2.1 + 23), .ref (V.2.2.1 + 24), .null, .null, .null, .null, .int 0, .int 0, .int 0]), .inl (V.2.1 0, 60, .inl (fun _ => 0)), .inl (V.2.1 0, 60, .inl (fun _ => 0))] X k_fl_X2_13 (dcl_Da 1 (by decide)) rfl rfl rfl (by decide) rfl dX2_init_17 ?_
  refine c_aload_n (pc := 20) X.1 0 rfl dX2_init_20 ?_
  refine c_bipush (v := 60) (pc := 21) X.1 (by decide) dX2_init_21 ?_
  refine c_newa (ty := .int) (N := 60) (ak := 0) (a0 := .inl (fun _ => 0)) (pc := 23) X.1 X.2.2 rfl k_arr_0 rfl (fun _ h => by cases h) rfl (fun _ => rfl) (by decide) (by decide) (Nat.le_of_ble_eq_true rfl) (Nat.le_of_ble_eq_true rfl) (Nat.le_of_ble_eq_true rfl) dX2_init_23 ?_
  refine c_put (k := 22) (pc := 25) [.inr (8, [.int 0, .long 0, .long 1, .ref (V.2.2.1 + 1), .ref (V.2.2.1 + 2), .ref (V.2.2.1 + 7), .ref (V.2.2.1 + 11), .ref (V.2.2.1 + 15), .null, .null, .null, .int 0, .null, .null, .null, .null, .null]), .inl (V.2.1 4, 4, .inr (.inr (.inr (.inr (fun _ => none))))), z_2 V, z_3 V, z_4 V, z_5 V, z_6 V, z_7 V, z_8 V, z_9 V, z_10 V, z_11 V, z_12 V, z_13 V, z_14 V, z_15 V, z_16 V, z_17 V, z_18 V, z_19 V, z_20 V, z_21 V, .inr (2, [.ref (V.2.2.1 + 23), .ref (V.2.2.1 + 24), .ref (V.2.2.1 + 25), .null, .null, .null, .int 0, .int 0, .int 0]), .inl (V.2.1 0, 60, .inl (fun _ => 0)), .inl (V.2.1 0, 60, .inl (fun _ => 0)), .inl (V.2.1 0, 60, .inl (fun _ => 0))] X k_fl_X2_16 (dcl_Da 2 (by decide)) rfl rfl rfl (by decide) rfl dX2_init_25 ?_
  refine c_aload_n (pc := 28) X.1 0 rfl dX2_init_28 ?_
  refine c_bipush (v := 60) (pc := 29) X.1 (by decide) dX2_init_29 ?_
  refine c_newa (ty := .int) (N := 60) (ak := 0) (a0 := .inl (fun _ => 0)) (pc := 31) X.1 X.2.2 rfl k_arr_0 rfl (fun _ h => by cases h) rfl (fun _ => rfl) (by decide) (by decide) (Nat.le_of_ble_eq_true rfl) (Nat.le_of_ble_eq_true rfl) (Nat.le_of_ble_eq_true rfl) dX2_init_31 ?_
  refine c_put (k := 22) (pc := 33) [.inr (8, [.int 0, .long 0, .long 1, .ref (V.2.2.1 + 1), .ref (V.2.2.1 + 2), .ref (V.2.2.1 + 7), .ref (V.2.2.1 + 11), .ref (V.2.2.1 + 15), .null, .null, .null, .int 0, .null, .null, .null, .null, .null]), .inl (V.2.1 4, 4, .inr (.inr (.inr (.inr (fun _ => none))))), z_2 V, z_3 V, z_4 V, z_5 V, z_6 V, z_7 V, z_8 V, z_9 V, z_10 V, z_11 V, z_12 V, z_13 V, z_14 V, z_15 V, z_16 V, z_17 V, z_18 V, z_19 V, z_20 V, z_21 V, .inr (2, [.ref (V.2.2.1 + 23), .ref (V.2.2.1 + 24), .ref (V.2.2.1 + 25), .ref (V.2.2.1 + 26), .null, .null, .int 0, .int 0, .int 0]), .inl (V.2.1 0, 60, .inl (fun _ => 0)), .inl (V.2.1 0, 60, .inl (fun _ => 0)), .inl (V.2.1 0, 60, .inl (fun _ => 0)), .inl (V.2.1 0, 60, .inl (fun _ => 0))] X k_fl_X2_19 (dcl_Da 3 (by decide)) rfl rfl rfl (by decide) rfl dX2_init_33 ?_
  refine c_aload_n (pc := 36) X.1 0 rfl dX2_init_36 ?_
  refine c_bipush (v := 60) (pc := 37) X.1 (by decide) dX2_init_37 ?_
  refine c_newa (ty := .int) (N := 60) (ak := 0) (a0 := .inl (fun _ => 0)) (pc := 39) X.1 X.2.2 rfl k_arr_0 rfl (fun _ h => by cases h) rfl (fun _ => rfl) (by decide) (by decide) (Nat.le_of_ble_eq_true rfl) (Nat.le_of_ble_eq_true rfl) (Nat.le_of_ble_eq_true rfl) dX2_init_39 ?_
  refine c_put (k := 22) (pc := 41) [.inr (8, [.int 0, .long 0, .long 1, .ref (V.2.2.1 + 1), .ref (V.2.2.1 + 2), .ref (V.2.2.1 + 7), .ref (V.2.2.1 + 11), .ref (V.2.2.1 + 15), .null, .null, .null, .int 0, .null, .null, .null, .null, .null]), .inl (V.2.1 4, 4, .inr (.inr (.inr (.inr (fun _ => none))))), z_2 V, z_3 V, z_4 V, z_5 V, z_6 V, z_7 V, z_8 V, z_9 V, z_10 V, z_11 V, z_12 V, z_13 V, z_14 V, z_15 V, z_16 V, z_17 V, z_18 V, z_19 V, z_20 V, z_21 V, .inr (2, [.ref (V.2.2.1 + 23), .ref (V.2.2.1 + 24), .ref (V.2.2.1 + 25), .ref (V.2.2.1 + 26), .ref (V.2.2.1 + 27), .null, .int 0, .int 0, .int 0]), .inl (V.2.1 0, 60, .inl (fun _ => 0)), .inl (V.2.1 0, 60, .inl (fun _ => 0)), .inl (V.2.1 0, 60, .inl (fun _ => 0)), .inl (V.2.1 0, 60, .inl (fun _ => 0)), .inl (V.2.1 0, 60, .inl (fun _ => 0))] X k_fl_X2_22 (dcl_Da 4 (by decide)) rfl rfl rfl (by decide) rfl dX2_init_41 ?_
  refine c_aload_n (pc := 44) X.1 0 rfl dX2_init_44 ?_
  refine c_bipush (v := 60) (pc := 45) X.1 (by decide) dX2_init_45 ?_
  refine c_newa (ty := .int) (N := 60) (ak := 0) (a0 := .inl (fun _ => 0)) (pc := 47) X.1 X.2.2 rfl k_arr_0 rfl (fun _ h => by cases h) rfl (fun _ => rfl) (by decide) (by decide) (Nat.le_of_ble_eq_true rfl) (Nat.le_of_ble_eq_true rfl) (Nat.le_of_ble_eq_true rfl) dX2_init_47 ?_
  refine c_put (k := 22) (pc := 49) [.inr (8, [.int 0, .long 0, .long 1, .ref (V.2.2.1 + 1), .ref (V.2.2.1 + 2), .ref (V.2.2.1 + 7), .ref (V.2.2.1 + 11), .ref (V.2.2.1 + 15), .null, .null, .null, .int 0, .null, .null, .null, .null, .null]), .inl (V.2.1 4, 4, .inr (.inr (.inr (.inr (fun _ => none))))), z_2 V, z_3 V, z_4 V, z_5 V, z_6 V, z_7 V, z_8 V, z_9 V, z_10 V, z_11 V, z_12 V, z_13 V, z_14 V, z_15 V, z_16 V, z_17 V, z_18 V, z_19 V, z_20 V, z_21 V, .inr (2, [.ref (V.2.2.1 + 23), .ref (V.2.2.1 + 24), .ref (V.2.2.1 + 25), .ref (V.2.2.1 + 26), .ref (V.2.2.1 + 27), .ref (V.2.2.1 + 28), .int 0, .int 0, .int 0]), .inl (V.2.1 0, 60, .inl (fun _ => 0)), .inl (V.2.1 0, 60, .inl (fun _ => 0)), .inl (V.2.1 0, 60, .inl (fun _ => 0)), .inl (V.2.1 0, 60, .inl (fun _ => 0)), .inl (V.2.1 0, 60, .inl (fun _ => 0)), .inl (V.2.1 0, 60, .inl (fun _ => 0))] X k_fl_X2_25 (dcl_Da 5 (by decide)) rfl rfl rfl (by decide) rfl dX2_init_49 ?_
  refine c_aload_n (pc := 52) X.1 0 rfl dX2_init_52 ?_
  refine c_iconst (v := 0) (pc := 53) X.1 rfl dX2_init_53 ?_
  refine c_put (k := 22) (pc := 54) [.inr (8, [.int 0, .long 0, .long 1, .ref (V.2.2.1 + 1), .ref (V.2.2.1 + 2), .ref (V.2.2.1 + 7), .ref (V.2.2.1 + 11), .ref (V.2.2.1 + 15), .null, .null, .null, .int 0, .null, .null, .null, .null, .null]), .inl (V.2.1 4, 4, .inr (.inr (.inr (.inr (fun _ => none))))), z_2 V, z_3 V, z_4 V, z_5 V, z_6 V, z_7 V, z_8 V, z_9 V, z_10 V, z_11 V, z_12 V, z_13 V, z_14 V, z_15 V, z_16 V, z_17 V, z_18 V, z_19 V, z_20 V, z_21 V, .inr (2, [.ref (V.2.2.1 + 23), .ref (V.2.2.1 + 24), .ref (V.2.2.1 + 25), .ref (V.2.2.1 + 26), .ref (V.2.2.1 + 27), .ref (V.2.2.1 + 28), .int 0, .int 0, .int 0]), .inl (V.2.1 0, 60, .inl (fun _ => 0)), .inl (V.2.1 0, 60, .inl (fun _ => 0)), .inl (V.2.1 0, 60, .inl (fun _ => 0)), .inl (V.2.1 0, 60, .inl (fun _ => 0)), .inl (V.2.1 0, 60, .inl (fun _ => 0)), .inl (V.2.1 0, 60, .inl (fun _ => 0))] X k_fl_X2_28 (dcl_Da 6 (by decide)) rfl rfl rfl (by decide) rfl dX2_init_54 ?_
  refine c_aload_n (pc := 57) X.1 0 rfl dX2_init_57 ?_
  refine c_iconst (v := 0) (pc := 58) X.1 rfl dX2_init_58 ?_
  refine c_put (k := 22) (pc := 59) [.inr (8, [.int 0, .long 0, .long 1, .ref (V.2.2.1 + 1), .ref (V.2.2.1 + 2), .ref (V.2.2.1 + 7), .ref (V.2.2.1 + 11), .ref (V.2.2.1 + 15), .null, .null, .null, .int 0, .null, .null, .null, .null, .null]), .inl (V.2.1 4, 4, .inr (.inr (.inr (.inr (fun _ => none))))), z_2 V, z_3 V, z_4 V, z_5 V, z_6 V, z_7 V, z_8 V, z_9 V, z_10 V, z_11 V, z_12 V, z_13 V, z_14 V, z_15 V, z_16 V, z_17 V, z_18 V, z_19 V, z_20 V, z_21 V, .inr (2, [.ref (V.2.2.1 + 23), .ref (V.2.2.1 + 24), .ref (V.2.2.1 + 25), .ref (V.2.2.1 + 26), .ref (V.2.2.1 + 27), .ref (V.2.2.1 + 28), .int 0, .int 0, .int 0]), .inl (V.2.1 0, 60, .inl (fun _ => 0)), .inl (V.2.1 0, 60, .inl (fun _ => 0)), .inl (V.2.1 0, 60, .inl (fun _ => 0)), .inl (V.2.1 0, 60, .inl (fun _ => 0)), .inl (V.2.1 0, 60, .inl (fun _ => 0)), .inl (V.2.1 0, 60, .inl (fun _ => 0))] X k_fl_X2_32 (dcl_Da 7 (by decide)) rfl rfl rfl (by decide) rfl dX2_init_59 ?_
  refine c_aload_n (pc := 62) X.1 0 rfl dX2_init_62 ?_
  refine c_iconst (v := 0) (pc := 63) X.1 rfl dX2_init_63 ?_
  refine c_put (k := 22) (pc := 64) [.inr (8, [.int 0, .long 0, .long 1, .ref (V.2.2.1 + 1), .ref (V.2.2.1 + 2), .ref (V.2.2.1 + 7), .ref (V.2.2.1 + 11), .ref (V.2.2.1 + 15), .null, .null, .null, .int 0, .null, .null, .null, .null, .null]), .inl (V.2.1 4, 4, .inr (.inr (.inr (.inr (fun _ => none))))), z_2 V, z_3 V, z_4 V, z_5 V, z_6 V, z_7 V, z_8 V, z_9 V, z_10 V, z_11 V, z_12 V, z_13 V, z_14 V, z_15 V, z_16 V, z_17 V, z_18 V, z_19 V, z_20 V, z_21 V, .inr (2, [.ref (V.2.2.1 + 23), .ref (V.2.2.1 + 24), .ref (V.2.2.1 + 25), .ref (V.2.2.1 + 26), .ref (V.2.2.1 + 27), .ref (V.2.2.1 + 28), .int 0, .int 0, .int 0]), .inl (V.2.1 0, 60, .inl (fun _ => 0)), .inl (V.2.1 0, 60, .inl (fun _ => 0)), .inl (V.2.1 0, 60, .inl (fun _ => 0)), .inl (V.2.1 0, 60, .inl (fun _ => 0)), .inl (V.2.1 0, 60, .inl (fun _ => 0)), .inl (V.2.1 0, 60, .inl (fun _ => 0))] X k_fl_X2_35 (dcl_Da 8 (by decide)) rfl (by decide +kernel) (by decide +kernel) (by decide) rfl dX2_init_64 ?_
  exact c_vret (pc := 67) X.1 rfl rfl dX2_init_67
def z_31 (V : Ev) : va_E := .inr (5, [.ref (V.2.2.1 + 32), .ref (V.2.2.1 + 33), .ref (V.2.2.1 + 34), .int 1, .int 1])
def z_32 (V : Ev) : va_E := .inl (V.2.1 1, 79, .inr (.inl (fun _ => 0)))
def z_33 (V : Ev) : va_E := .inl (V.2.1 1, 79, .inr (.inl (fun _ => 0)))
def z_34 (V : Ev) : va_E := .inl (V.2.1 1, 64, .inr (.inl (fun _ => 0)))
set_option maxRecDepth 100000 in
set_option maxHeartbeats 4000000 in
theorem words {V : Ev} : Rc V 1 M_X7_init [.ref (V.2.2.1 + 31)] [.inr (8, [.int 0, .long 0, .long 1, .ref (V.2.2.1 + 1), .ref (V.2.2.1 + 2), .ref (V.2.2.1 + 7), .ref (V.2.2.1 + 11), .ref (V.2.2.1 + 15), .ref (V.2.2.1 + 22), .ref (V.2.2.1 + 29), .ref (V.2.2.1 + 30), .int 0, .null, .null, .null, .null, .null]), .inl (V.2.1 4, 4, .inr (.inr (.inr (.inr (fun _ => none))))), z_2 V, z_3 V, z_4 V, z_5 V, z_6 V, z_7 V, z_8 V, z_9 V, z_10 V, z_11 V, z_12 V, z_13 V, z_14 V, z_15 V, z_16 V, z_17 V, z_18 V, z_19 V, z_20 V, z_21 V, z_22 V, z_23 V, z_24 V, z_25 V, z_26 V, z_27 V, z_28 V, .inl (V.2.1 5, 3, .inr (.inr (.inr (.inr (fun _ => none))))), .inl (V.2.1 6, 3, .inr (.inr (.inr (.inr (fun _ => none))))), .inr (5, [.null, .null, .null, .int 0, .int 0])] [.inr (8, [.int 0, .long 0, .long 1, .ref (V.2.2.1 + 1), .ref (V.2.2.1 + 2), .ref (V.2.2.1 + 7), .ref (V.2.2.1 + 11), .ref (V.2.2.1 + 15), .ref (V.2.2.1 + 22), .ref (V.2.2.1 + 29), .ref (V.2.2.1 + 30), .int 0, .null, .null, .null, .null, .null]), .inl (V.2.1 4, 4, .inr (.inr (.inr (.inr (fun _ => none))))), z_2 V, z_3 V, z_4 V, z_5 V, z_6 V, z_7 V, z_8 V, z_9 V, z_10 V, z_11 V, z_12 V, z_13 V, z_14 V, z_15 V, z_16 V, z_17 V, z_18 V, z_19 V, z_20 V, z_21 V, z_22 V, z_23 V, z_24 V, z_25 V, z_26 V, z_27 V, z_28 V, .inl (V.2.1 5, 3, .inr (.inr (.inr (.inr (fun _ => none))))), .inl (V.2.1 6, 3, .inr (.inr (.inr (.inr (fun _ => none))))), z_31 V, z_32 V, z_33 V, z_34 V] 3 222 := by
  refine Rc.of (by decide +kernel) rfl (Nat.le_of_ble_eq_true rfl) (fun Γ X => ?_)

  refine c_aload_n (pc := 0) X.1 0 rfl dX7_init_0 ?_
  refine c_objInit (pc := 1) X.1 k_oi_X7 k_oi2 k_oi3 (Nat.le_of_ble_eq_true rfl) (Nat.le_of_ble_eq_true rfl) dX7_init_1 ?_
  refine c_aload_n (pc := 4) X.1 0 rfl dX7_init_4 ?_
  refine c_bipush (v := 79) (pc := 5) X.1 (by decide) dX7_init_5 ?_
  refine c_newa (ty := .long) (N := 79) (ak := 1) (a0 := .inr (.inl (fun _ => 0))) (pc := 7) X.1 X.2.2 rfl k_arr_1 rfl (fun _ h => by cases h) rfl (fun _ => rfl) (by decide) (by decide) (Nat.le_of_ble_eq_true rfl) (Nat.le_of_ble_eq_true rfl) (Nat.le_of_ble_eq_true rfl) dX7_init_7 ?_
  refine c_put (k := 31) (pc := 9) [.inr (8, [.int 0, .long 0, .long 1, .ref (V.2.2.1 + 1), .ref (V.2.2.1 + 2), .ref (V.2.2.1 + 7), .ref (V.2.2.1 + 11), .ref (V.2.2.1 + 15), .ref (V.2.2.1 + 22), .ref (V.2.2.1 + 29), .ref (V.2.2.1 + 30), .int 0, .null, .null, .null, .null, .null]), .inl (V.2.1 4, 4, .inr (.inr (.inr (.inr (fun _ => none))))), z_2 V, z_3 V, z_4 V, z_5 V, z_6 V, z_7 V, z_8 V, z_9 V, z_10 V, z_11 V, z_12 V, z_13 V, z_14 V, z_15 V, z_16 V, z_17 V, z_18 V, z_19 V, z_20 V, z_21 V, z_22 V, z_23 V, z_24 V, z_25 V, z_26 V, z_27 V, z_28 V, .inl (V.2.1 5, 3, .inr (.inr (.inr (.inr (fun _ => none))))), .inl (V.2.1 6, 3, .inr (.inr (.inr (.inr (fun _ => none))))), .inr (5, [.ref (V.2.2.1 + 32), .null, .null, .int 0, .int 0]), .inl (V.2.1 1, 79, .inr (.inl (fun _ => 0)))] X k_fl_X7_9 (dcl_Si 0 (by decide)) rfl rfl rfl (by decide) rfl dX7_init_9 ?_
  refine c_aload_n (pc := 12) X.1 0 rfl dX7_init_12 ?_
  refine c_bipush (v := 79) (pc := 13) X.1 (by decide) dX7_init_13 ?_
  refine c_newa (ty := .long) (N := 79) (ak := 1) (a0 := .inr (.inl (fun _ => 0))) (pc := 15) X.1 X.2.2 rfl k_arr_1 rfl (fun _ h => by cases h) rfl (fun _ => rfl) (by decide) (by decide) (Nat.le_of_ble_eq_true rfl) (Nat.le_of_ble_eq_true rfl) (Nat.le_of_ble_eq_true rfl) dX7_init_15 ?_
  refine c_put (k := 31) (pc := 17) [.inr (8, [.int 0, .long 0, .long 1, .ref (V.2.2.1 + 1), .ref (V.2.2.1 + 2), .ref (V.2.2.1 + 7), .ref (V.2.2.1 + 11), .ref (V.2.2.1 + 15), .ref (V.2.2.1 + 22), .ref (V.2.2.1 + 29), .ref (V.2.2.1 + 30), .int 0, .null, .null, .null, .null, .null]), .inl (V.2.1 4, 4, .inr (.inr (.inr (.inr (fun _ => none))))), z_2 V, z_3 V, z_4 V, z_5 V, z_6 V, z_7 V, z_8 V, z_9 V, z_10 V, z_11 V, z_12 V, z_13 V, z_14 V, z_15 V, z_16 V, z_17 V, z_18 V, z_19 V, z_20 V, z_21 V, z_22 V, z_23 V, z_24 V, z_25 V, z_26 V, z_27 V, z_28 V, .inl (V.2.1 5, 3, .inr (.inr (.inr (.inr (fun _ => none))))), .inl (V.2.1 6, 3, .inr (.inr (.inr (.inr (fun _ => none))))), .inr (5, [.ref (V.2.2.1 + 32), .ref (V.2.2.1 + 33), .null, .int 0, .int 0]), .inl (V.2.1 1, 79, .inr (.inl (fun _ => 0))), .inl (V.2.1 1, 79, .inr (.inl (fun _ => 0)))] X k_fl_X7_15 (dcl_Si 1 (by decide)) rfl rfl rfl (by decide) rfl dX7_init_17 ?_
  refine c_aload_n (pc := 20) X.1 0 rfl dX7_init_20 ?_
  refine c_bipush (v := 64) (pc := 21) X.1 (by decide) dX7_init_21 ?_
  refine c_newa (ty := .long) (N := 64) (ak := 1) (a0 := .inr (.inl (fun _ => 0))) (pc := 23) X.1 X.2.2 rfl k_arr_1 rfl (fun _ h => by cases h) rfl (fun _ => rfl) (by decide) (by decide) (Nat.le_of_ble_eq_true rfl) (Nat.le_of_ble_eq_true rfl) (Nat.le_of_ble_eq_true rfl) dX7_init_23 ?_
  refine c_put (k := 31) (pc := 25) [.inr (8, [.int 0, .long 0, .long 1, .ref (V.2.2.1 + 1), .ref (V.2.2.1 + 2), .ref (V.2.2.1 + 7), .ref (V.2.2.1 + 11), .ref (V.2.2.1 + 15), .ref (V.2.2.1 + 22), .ref (V.2.2.1 + 29), .ref (V.2.2.1 + 30), .int 0, .null, .null, .null, .null, .null]), .inl (V.2.1 4, 4, .inr (.inr (.inr (.inr (fun _ => none))))), z_2 V, z_3 V, z_4 V, z_5 V, z_6 V, z_7 V, z_8 V, z_9 V, z_10 V, z_11 V, z_12 V, z_13 V, z_14 V, z_15 V, z_16 V, z_17 V, z_18 V, z_19 V, z_20 V, z_21 V, z_22 V, z_23 V, z_24 V, z_25 V, z_26 V, z_27 V, z_28 V, .inl (V.2.1 5, 3, .inr (.inr (.inr (.inr (fun _ => none))))), .inl (V.2.1 6, 3, .inr (.inr (.inr (.inr (fun _ => none))))), .inr (5, [.ref (V.2.2.1 + 32), .ref (V.2.2.1 + 33), .ref (V.2.2.1 + 34), .int 0, .int 0]), .inl (V.2.1 1, 79, .inr (.inl (fun _ => 0))), .inl (V.2.1 1, 79, .inr (.inl (fun _ => 0))), .inl (V.2.1 1, 64, .inr (.inl (fun _ => 0)))] X k_fl_X7_18 (dcl_Si 2 (by decide)) rfl rfl rfl (by decide) rfl dX7_init_25 ?_
  refine c_aload_n (pc := 28) X.1 0 rfl dX7_init_28 ?_
  refine c_iconst (v := 1) (pc := 29) X.1 rfl dX7_init_29 ?_
  refine c_put (k := 31) (pc := 30) [.inr (8, [.int 0, .long 0, .long 1, .ref (V.2.2.1 + 1), .ref (V.2.2.1 + 2), .ref (V.2.2.1 + 7), .ref (V.2.2.1 + 11), .ref (V.2.2.1 + 15), .ref (V.2.2.1 + 22), .ref (V.2.2.1 + 29), .ref (V.2.2.1 + 30), .int 0, .null, .null, .null, .null, .null]), .inl (V.2.1 4, 4, .inr (.inr (.inr (.inr (fun _ => none))))), z_2 V, z_3 V, z_4 V, z_5 V, z_6 V, z_7 V, z_8 V, z_9 V, z_10 V, z_11 V, z_12 V, z_13 V, z_14 V, z_15 V, z_16 V, z_17 V, z_18 V, z_19 V, z_20 V, z_21 V, z_22 V, z_23 V, z_24 V, z_25 V, z_26 V, z_27 V, z_28 V, .inl (V.2.1 5, 3, .inr (.inr (.inr (.inr (fun _ => none))))), .inl (V.2.1 6, 3, .inr (.inr (.inr (.inr (fun _ => none))))), .inr (5, [.ref (V.2.2.1 + 32), .ref (V.2.2.1 + 33), .ref (V.2.2.1 + 34), .int 1, .int 0]), .inl (V.2.1 1, 79, .inr (.inl (fun _ => 0))), .inl (V.2.1 1, 79, .inr (.inl (fun _ => 0))), .inl (V.2.1 1, 64, .inr (.inl (fun _ => 0)))] X k_fl_X7_21 (dcl_Si 3 (by decide)) rfl rfl rfl (by decide) rfl dX7_init_30 ?_
  refine c_aload_n (pc := 33) X.1 0 rfl dX7_init_33 ?_
  refine c_iconst (v := 1) (pc := 34) X.1 rfl dX7_init_34 ?_
  refine c_put (k := 31) (pc := 35) [.inr (8, [.int 0, .long 0, .long 1, .ref (V.2.2.1 + 1), .ref (V.2.2.1 + 2), .ref (V.2.2.1 + 7), .ref (V.2.2.1 + 11), .ref (V.2.2.1 + 15), .ref (V.2.2.1 + 22), .ref (V.2.2.1 + 29), .ref (V.2.2.1 + 30), .int 0, .null, .null, .null, .null, .null]), .inl (V.2.1 4, 4, .inr (.inr (.inr (.inr (fun _ => none))))), z_2 V, z_3 V, z_4 V, z_5 V, z_6 V, z_7 V, z_8 V, z_9 V, z_10 V, z_11 V, z_12 V, z_13 V, z_14 V, z_15 V, z_16 V, z_17 V, z_18 V, z_19 V, z_20 V, z_21 V, z_22 V, z_23 V, z_24 V, z_25 V, z_26 V, z_27 V, z_28 V, .inl (V.2.1 5, 3, .inr (.inr (.inr (.inr (fun _ => none))))), .inl (V.2.1 6, 3, .inr (.inr (.inr (.inr (fun _ => none))))), .inr (5, [.ref (V.2.2.1 + 32), .ref (V.2.2.1 + 33), .ref (V.2.2.1 + 34), .int 1, .int 1]), .inl (V.2.1 1, 79, .inr (.inl (fun _ => 0))), .inl (V.2.1 1, 79, .inr (.inl (fun _ => 0))), .inl (V.2.1 1, 64, .inr (.inl (fun _ => 0)))] X k_fl_X7_25 (dcl_Si 4 (by decide)) rfl rfl rfl (by decide) rfl dX7_init_35 ?_
  exact c_vret (pc := 38) X.1 rfl rfl dX7_init_38
def z_35 (V : Ev) : va_E := .inr (7, [.int 0, .int 0, .int 0, .int 0])
set_option maxRecDepth 100000 in
set_option maxHeartbeats 4000000 in
theorem widest {V : Ev} : Rc V 1 M_X10_init [.ref (V.2.2.1 + 35)] [.inr (8, [.int 0, .long 0, .long 1, .ref (V.2.2.1 + 1), .ref (V.2.2.1 + 2), .ref (V.2.2.1 + 7), .ref (V.2.2.1 + 11), .ref (V.2.2.1 + 15), .ref (V.2.2.1 + 22), .ref (V.2.2.1 + 29), .ref (V.2.2.1 + 30), .int 0, .ref (V.2.2.1 + 31), .null, .null, .null, .null]), .inl (V.2.1 4, 4, .inr (.inr (.inr (.inr (fun _ => none))))), z_2 V, z_3 V, z_4 V, z_5 V, z_6 V, z_7 V, z_8 V, z_9 V, z_10 V, z_11 V, z_12 V, z_13 V, z_14 V, z_15 V, z_16 V, z_17 V, z_18 V, z_19 V, z_20 V, z_21 V, z_22 V, z_23 V, z_24 V, z_25 V, z_26 V, z_27 V, z_28 V, .inl (V.2.1 5, 3, .inr (.inr (.inr (.inr (fun _ => none))))), .inl (V.2.1 6, 3, .inr (.inr (.inr (.inr (fun _ => none))))), z_31 V, z_32 V, z_33 V, z_34 V, .inr (7, [.int 0, .int 0, .int 0, .int 0])] [.inr (8, [.int 0, .long 0, .long 1, .ref (V.2.2.1 + 1), .ref (V.2.2.1 + 2), .ref (V.2.2.1 + 7), .ref (V.2.2.1 + 11), .ref (V.2.2.1 + 15), .ref (V.2.2.1 + 22), .ref (V.2.2.1 + 29), .ref (V.2.2.1 + 30), .int 0, .ref (V.2.2.1 + 31), .null, .null, .null, .null]), .inl (V.2.1 4, 4, .inr (.inr (.inr (.inr (fun _ => none))))), z_2 V, z_3 V, z_4 V, z_5 V, z_6 V, z_7 V, z_8 V, z_9 V, z_10 V, z_11 V, z_12 V, z_13 V, z_14 V, z_15 V, z_16 V, z_17 V, z_18 V, z_19 V, z_20 V, z_21 V, z_22 V, z_23 V, z_24 V, z_25 V, z_26 V, z_27 V, z_28 V, .inl (V.2.1 5, 3, .inr (.inr (.inr (.inr (fun _ => none))))), .inl (V.2.1 6, 3, .inr (.inr (.inr (.inr (fun _ => none))))), z_31 V, z_32 V, z_33 V, z_34 V, z_35 V] 0 0 := by
  refine Rc.of (by decide +kernel) rfl (Nat.le_of_ble_eq_true rfl) (fun Γ X => ?_)

  refine c_aload_n (pc := 0) X.1 0 rfl dX10_init_0 ?_
  refine c_objInit (pc := 1) X.1 k_oi_X10 k_oi2 k_oi3 (Nat.le_of_ble_eq_true rfl) (Nat.le_of_ble_eq_true rfl) dX10_init_1 ?_
  refine c_aload_n (pc := 4) X.1 0 rfl dX10_init_4 ?_
  refine c_iconst (v := 0) (pc := 5) X.1 rfl dX10_init_5 ?_
  refine c_put (k := 35) (pc := 6) [.inr (8, [.int 0, .long 0, .long 1, .ref (V.2.2.1 + 1), .ref (V.2.2.1 + 2), .ref (V.2.2.1 + 7), .ref (V.2.2.1 + 11), .ref (V.2.2.1 + 15), .ref (V.2.2.1 + 22), .ref (V.2.2.1 + 29), .ref (V.2.2.1 + 30), .int 0, .ref (V.2.2.1 + 31), .null, .null, .null, .null]), .inl (V.2.1 4, 4, .inr (.inr (.inr (.inr (fun _ => none))))), z_2 V, z_3 V, z_4 V, z_5 V, z_6 V, z_7 V, z_8 V, z_9 V, z_10 V, z_11 V, z_12 V, z_13 V, z_14 V, z_15 V, z_16 V, z_17 V, z_18 V, z_19 V, z_20 V, z_21 V, z_22 V, z_23 V, z_24 V, z_25 V, z_26 V, z_27 V, z_28 V, .inl (V.2.1 5, 3, .inr (.inr (.inr (.inr (fun _ => none))))), .inl (V.2.1 6, 3, .inr (.inr (.inr (.inr (fun _ => none))))), z_31 V, z_32 V, z_33 V, z_34 V, .inr (7, [.int 0, .int 0, .int 0, .int 0])] X k_fl_X10_7 (dcl_Tr 0 (by decide)) rfl rfl rfl (by decide) rfl dX10_init_6 ?_
  refine c_aload_n (pc := 9) X.1 0 rfl dX10_init_9 ?_
  refine c_iconst (v := 0) (pc := 10) X.1 rfl dX10_init_10 ?_
  refine c_put (k := 35) (pc := 11) [.inr (8, [.int 0, .long 0, .long 1, .ref (V.2.2.1 + 1), .ref (V.2.2.1 + 2), .ref (V.2.2.1 + 7), .ref (V.2.2.1 + 11), .ref (V.2.2.1 + 15), .ref (V.2.2.1 + 22), .ref (V.2.2.1 + 29), .ref (V.2.2.1 + 30), .int 0, .ref (V.2.2.1 + 31), .null, .null, .null, .null]), .inl (V.2.1 4, 4, .inr (.inr (.inr (.inr (fun _ => none))))), z_2 V, z_3 V, z_4 V, z_5 V, z_6 V, z_7 V, z_8 V, z_9 V, z_10 V, z_11 V, z_12 V, z_13 V, z_14 V, z_15 V, z_16 V, z_17 V, z_18 V, z_19 V, z_20 V, z_21 V, z_22 V, z_23 V, z_24 V, z_25 V, z_26 V, z_27 V, z_28 V, .inl (V.2.1 5, 3, .inr (.inr (.inr (.inr (fun _ => none))))), .inl (V.2.1 6, 3, .inr (.inr (.inr (.inr (fun _ => none))))), z_31 V, z_32 V, z_33 V, z_34 V, .inr (7, [.int 0, .int 0, .int 0, .int 0])] X k_fl_X10_13 (dcl_Tr 1 (by decide)) rfl rfl rfl (by decide) rfl dX10_init_11 ?_
  refine c_aload_n (pc := 14) X.1 0 rfl dX10_init_14 ?_
  refine c_iconst (v := 0) (pc := 15) X.1 rfl dX10_init_15 ?_
  refine c_put (k := 35) (pc := 16) [.inr (8, [.int 0, .long 0, .long 1, .ref (V.2.2.1 + 1), .ref (V.2.2.1 + 2), .ref (V.2.2.1 + 7), .ref (V.2.2.1 + 11), .ref (V.2.2.1 + 15), .ref (V.2.2.1 + 22), .ref (V.2.2.1 + 29), .ref (V.2.2.1 + 30), .int 0, .ref (V.2.2.1 + 31), .null, .null, .null, .null]), .inl (V.2.1 4, 4, .inr (.inr (.inr (.inr (fun _ => none))))), z_2 V, z_3 V, z_4 V, z_5 V, z_6 V, z_7 V, z_8 V, z_9 V, z_10 V, z_11 V, z_12 V, z_13 V, z_14 V, z_15 V, z_16 V, z_17 V, z_18 V, z_19 V, z_20 V, z_21 V, z_22 V, z_23 V, z_24 V, z_25 V, z_26 V, z_27 V, z_28 V, .inl (V.2.1 5, 3, .inr (.inr (.inr (.inr (fun _ => none))))), .inl (V.2.1 6, 3, .inr (.inr (.inr (.inr (fun _ => none))))), z_31 V, z_32 V, z_33 V, z_34 V, .inr (7, [.int 0, .int 0, .int 0, .int 0])] X k_fl_X10_16 (dcl_Tr 2 (by decide)) rfl rfl rfl (by decide) rfl dX10_init_16 ?_
  refine c_aload_n (pc := 19) X.1 0 rfl dX10_init_19 ?_
  refine c_iconst (v := 0) (pc := 20) X.1 rfl dX10_init_20 ?_
  refine c_put (k := 35) (pc := 21) [.inr (8, [.int 0, .long 0, .long 1, .ref (V.2.2.1 + 1), .ref (V.2.2.1 + 2), .ref (V.2.2.1 + 7), .ref (V.2.2.1 + 11), .ref (V.2.2.1 + 15), .ref (V.2.2.1 + 22), .ref (V.2.2.1 + 29), .ref (V.2.2.1 + 30), .int 0, .ref (V.2.2.1 + 31), .null, .null, .null, .null]), .inl (V.2.1 4, 4, .inr (.inr (.inr (.inr (fun _ => none))))), z_2 V, z_3 V, z_4 V, z_5 V, z_6 V, z_7 V, z_8 V, z_9 V, z_10 V, z_11 V, z_12 V, z_13 V, z_14 V, z_15 V, z_16 V, z_17 V, z_18 V, z_19 V, z_20 V, z_21 V, z_22 V, z_23 V, z_24 V, z_25 V, z_26 V, z_27 V, z_28 V, .inl (V.2.1 5, 3, .inr (.inr (.inr (.inr (fun _ => none))))), .inl (V.2.1 6, 3, .inr (.inr (.inr (.inr (fun _ => none))))), z_31 V, z_32 V, z_33 V, z_34 V, .inr (7, [.int 0, .int 0, .int 0, .int 0])] X k_fl_X10_19 (dcl_Tr 3 (by decide)) rfl rfl rfl (by decide) rfl dX10_init_21 ?_
  exact c_vret (pc := 24) X.1 rfl rfl dX10_init_24
def z_36 (V : Ev) : va_E := .inr (0, [.ref (V.2.2.1 + 37), .ref (V.2.2.1 + 38), .ref (V.2.2.1 + 39), .int 0, .int 0, .int 1])
def z_37 (V : Ev) : va_E := .inl (V.2.1 0, 6, .inl (fun _ => 0))
def z_38 (V : Ev) : va_E := .inl (V.2.1 0, 6, .inl (fun _ => 0))
def z_39 (V : Ev) : va_E := .inl (V.2.1 7, 7, .inr (.inr (.inr (.inr (fun j => some (V.2.2.1 + (39 + 1 + j)))))))
def z_40 (V : Ev) : va_E := .inl (V.2.1 1, 79, .inr (.inl (fun _ => 0)))
def z_41 (V : Ev) : va_E := .inl (V.2.1 1, 79, .inr (.inl (fun _ => 0)))
def z_42 (V : Ev) : va_E := .inl (V.2.1 1, 79, .inr (.inl (fun _ => 0)))
def z_43 (V : Ev) : va_E := .inl (V.2.1 1, 79, .inr (.inl (fun _ => 0)))
def z_44 (V : Ev) : va_E := .inl (V.2.1 1, 79, .inr (.inl (fun _ => 0)))
def z_45 (V : Ev) : va_E := .inl (V.2.1 1, 79, .inr (.inl (fun _ => 0)))
def z_46 (V : Ev) : va_E := .inl (V.2.1 1, 79, .inr (.inl (fun _ => 0)))
set_option maxRecDepth 100000 in
set_option maxHeartbeats 4000000 in
theorem span {V : Ev} (hv7 : va_Aov (.array .long) V) : Rc V 1 M_X0_init [.ref (V.2.2.1 + 36)] [.inr (8, [.int 0, .long 0, .long 1, .ref (V.2.2.1 + 1), .ref (V.2.2.1 + 2), .ref (V.2.2.1 + 7), .ref (V.2.2.1 + 11), .ref (V.2.2.1 + 15), .ref (V.2.2.1 + 22), .ref (V.2.2.1 + 29), .ref (V.2.2.1 + 30), .int 0, .ref (V.2.2.1 + 31), .ref (V.2.2.1 + 35), .null, .null, .null]), .inl (V.2.1 4, 4, .inr (.inr (.inr (.inr (fun _ => none))))), z_2 V, z_3 V, z_4 V, z_5 V, z_6 V, z_7 V, z_8 V, z_9 V, z_10 V, z_11 V, z_12 V, z_13 V, z_14 V, z_15 V, z_16 V, z_17 V, z_18 V, z_19 V, z_20 V, z_21 V, z_22 V, z_23 V, z_24 V, z_25 V, z_26 V, z_27 V, z_28 V, .inl (V.2.1 5, 3, .inr (.inr (.inr (.inr (fun _ => none))))), .inl (V.2.1 6, 3, .inr (.inr (.inr (.inr (fun _ => none))))), z_31 V, z_32 V, z_33 V, z_34 V, z_35 V, .inr (0, [.null, .null, .null, .int 0, .int 0, .int 0])] [.inr (8, [.int 0, .long 0, .long 1, .ref (V.2.2.1 + 1), .ref (V.2.2.1 + 2), .ref (V.2.2.1 + 7), .ref (V.2.2.1 + 11), .ref (V.2.2.1 + 15), .ref (V.2.2.1 + 22), .ref (V.2.2.1 + 29), .ref (V.2.2.1 + 30), .int 0, .ref (V.2.2.1 + 31), .ref (V.2.2.1 + 35), .null, .null, .null]), .inl (V.2.1 4, 4, .inr (.inr (.inr (.inr (fun _ => none))))), z_2 V, z_3 V, z_4 V, z_5 V, z_6 V, z_7 V, z_8 V, z_9 V, z_10 V, z_11 V, z_12 V, z_13 V, z_14 V, z_15 V, z_16 V, z_17 V, z_18 V, z_19 V, z_20 V, z_21 V, z_22 V, z_23 V, z_24 V, z_25 V, z_26 V, z_27 V, z_28 V, .inl (V.2.1 5, 3, .inr (.inr (.inr (.inr (fun _ => none))))), .inl (V.2.1 6, 3, .inr (.inr (.inr (.inr (fun _ => none))))), z_31 V, z_32 V, z_33 V, z_34 V, z_35 V, z_36 V, z_37 V, z_38 V, z_39 V, z_40 V, z_41 V, z_42 V, z_43 V, z_44 V, z_45 V, z_46 V] 10 572 := by
  refine Rc.of (by decide +kernel) rfl (Nat.le_of_ble_eq_true rfl) (fun Γ X => ?_)
  have hov7 := hv7 Γ.2.2.2.1 Γ.2.2.2.2.2.1 X.1.2.2.2.2.2.2.2
  refine c_aload_n (pc := 0) X.1 0 rfl dX0_init_0 ?_
  refine c_objInit (pc := 1) X.1 k_oi_X0 k_oi2 k_oi3 (Nat.le_of_ble_eq_true rfl) (Nat.le_of_ble_eq_true rfl) dX0_init_1 ?_
  refine c_aload_n (pc := 4) X.1 0 rfl dX0_init_4 ?_
  refine c_bipush (v := 6) (pc := 5) X.1 (by decide) dX0_init_5 ?_
  refine c_newa (ty := .int) (N := 6) (ak := 0) (a0 := .inl (fun _ => 0)) (pc := 7) X.1 X.2.2 rfl k_arr_0 rfl (fun _ h => by cases h) rfl (fun _ => rfl) (by decide) (by decide) (Nat.le_of_ble_eq_true rfl) (Nat.le_of_ble_eq_true rfl) (Nat.le_of_ble_eq_true rfl) dX0_init_7 ?_
  refine c_put (k := 36) (pc := 9) [.inr (8, [.int 0, .long 0, .long 1, .ref (V.2.2.1 + 1), .ref (V.2.2.1 + 2), .ref (V.2.2.1 + 7), .ref (V.2.2.1 + 11), .ref (V.2.2.1 + 15), .ref (V.2.2.1 + 22), .ref (V.2.2.1 + 29), .ref (V.2.2.1 + 30), .int 0, .ref (V.2.2.1 + 31), .ref (V.2.2.1 + 35), .null, .null, .null]), .inl (V.2.1 4, 4, .inr (.inr (.inr (.inr (fun _ => none))))), z_2 V, z_3 V, z_4 V, z_5 V, z_6 V, z_7 V, z_8 V, z_9 V, z_10 V, z_11 V, z_12 V, z_13 V, z_14 V, z_15 V, z_16 V, z_17 V, z_18 V, z_19 V, z_20 V, z_21 V, z_22 V, z_23 V, z_24 V, z_25 V, z_26 V, z_27 V, z_28 V, .inl (V.2.1 5, 3, .inr (.inr (.inr (.inr (fun _ => none))))), .inl (V.2.1 6, 3, .inr (.inr (.inr (.inr (fun _ => none))))), z_31 V, z_32 V, z_33 V, z_34 V, z_35 V, .inr (0, [.ref (V.2.2.1 + 37), .null, .null, .int 0, .int 0, .int 0]), .inl (V.2.1 0, 6, .inl (fun _ => 0))] X k_fl_X0_9 (dcl_Ch 0 (by decide)) rfl rfl rfl (by decide) rfl dX0_init_9 ?_
  refine c_aload_n (pc := 12) X.1 0 rfl dX0_init_12 ?_
  refine c_bipush (v := 6) (pc := 13) X.1 (by decide) dX0_init_13 ?_
  refine c_newa (ty := .int) (N := 6) (ak := 0) (a0 := .inl (fun _ => 0)) (pc := 15) X.1 X.2.2 rfl k_arr_0 rfl (fun _ h => by cases h) rfl (fun _ => rfl) (by decide) (by decide) (Nat.le_of_ble_eq_true rfl) (Nat.le_of_ble_eq_true rfl) (Nat.le_of_ble_eq_true rfl) dX0_init_15 ?_
  refine c_put (k := 36) (pc := 17) [.inr (8, [.int 0, .long 0, .long 1, .ref (V.2.2.1 + 1), .ref (V.2.2.1 + 2), .ref (V.2.2.1 + 7), .ref (V.2.2.1 + 11), .ref (V.2.2.1 + 15), .ref (V.2.2.1 + 22), .ref (V.2.2.1 + 29), .ref (V.2.2.1 + 30), .int 0, .ref (V.2.2.1 + 31), .ref (V.2.2.1 + 35), .null, .null, .null]), .inl (V.2.1 4, 4, .inr (.inr (.inr (.inr (fun _ => none))))), z_2 V, z_3 V, z_4 V, z_5 V, z_6 V, z_7 V, z_8 V, z_9 V, z_10 V, z_11 V, z_12 V, z_13 V, z_14 V, z_15 V, z_16 V, z_17 V, z_18 V, z_19 V, z_20 V, z_21 V, z_22 V, z_23 V, z_24 V, z_25 V, z_26 V, z_27 V, z_28 V, .inl (V.2.1 5, 3, .inr (.inr (.inr (.inr (fun _ => none))))), .inl (V.2.1 6, 3, .inr (.inr (.inr (.inr (fun _ => none))))), z_31 V, z_32 V, z_33 V, z_34 V, z_35 V, .inr (0, [.ref (V.2.2.1 + 37), .ref (V.2.2.1 + 38), .null, .int 0, .int 0, .int 0]), .inl (V.2.1 0, 6, .inl (fun _ => 0)), .inl (V.2.1 0, 6, .inl (fun _ => 0))] X k_fl_X0_15 (dcl_Ch 1 (by decide)) rfl rfl rfl (by decide) rfl dX0_init_17 ?_
  refine c_aload_n (pc := 20) X.1 0 rfl dX0_init_20 ?_
  refine c_bipush (v := 7) (pc := 21) X.1 (by decide) dX0_init_21 ?_
  refine c_bipush (v := 79) (pc := 23) X.1 (by decide) dX0_init_23 ?_
  refine c_mnew (n' := 7) (k' := 79) (pc := 25) X.1 X.2.2 rfl k_cl_X0_18 hov7 k_arr_1 (by decide) (by decide) (by decide) (by decide) (Nat.le_of_ble_eq_true rfl) (Nat.le_of_ble_eq_true rfl) (Nat.le_of_ble_eq_true rfl) (Nat.le_of_ble_eq_true rfl) dX0_init_25 ?_
  refine c_put (k := 36) (pc := 29) [.inr (8, [.int 0, .long 0, .long 1, .ref (V.2.2.1 + 1), .ref (V.2.2.1 + 2), .ref (V.2.2.1 + 7), .ref (V.2.2.1 + 11), .ref (V.2.2.1 + 15), .ref (V.2.2.1 + 22), .ref (V.2.2.1 + 29), .ref (V.2.2.1 + 30), .int 0, .ref (V.2.2.1 + 31), .ref (V.2.2.1 + 35), .null, .null, .null]), .inl (V.2.1 4, 4, .inr (.inr (.inr (.inr (fun _ => none))))), z_2 V, z_3 V, z_4 V, z_5 V, z_6 V, z_7 V, z_8 V, z_9 V, z_10 V, z_11 V, z_12 V, z_13 V, z_14 V, z_15 V, z_16 V, z_17 V, z_18 V, z_19 V, z_20 V, z_21 V, z_22 V, z_23 V, z_24 V, z_25 V, z_26 V, z_27 V, z_28 V, .inl (V.2.1 5, 3, .inr (.inr (.inr (.inr (fun _ => none))))), .inl (V.2.1 6, 3, .inr (.inr (.inr (.inr (fun _ => none))))), z_31 V, z_32 V, z_33 V, z_34 V, z_35 V, .inr (0, [.ref (V.2.2.1 + 37), .ref (V.2.2.1 + 38), .ref (V.2.2.1 + 39), .int 0, .int 0, .int 0]), .inl (V.2.1 0, 6, .inl (fun _ => 0)), .inl (V.2.1 0, 6, .inl (fun _ => 0)), .inl (V.2.1 7, 7, .inr (.inr (.inr (.inr (fun j => some (V.2.2.1 + (39 + 1 + j))))))), .inl (V.2.1 1, 79, .inr (.inl (fun _ => 0))), .inl (V.2.1 1, 79, .inr (.inl (fun _ => 0))), .inl (V.2.1 1, 79, .inr (.inl (fun _ => 0))), .inl (V.2.1 1, 79, .inr (.inl (fun _ => 0))), .inl (V.2.1 1, 79, .inr (.inl (fun _ => 0))), .inl (V.2.1 1, 79, .inr (.inl (fun _ => 0))), .inl (V.2.1 1, 79, .inr (.inl (fun _ => 0)))] X k_fl_X0_20 (dcl_Ch 2 (by decide)) rfl rfl rfl (by decide) rfl dX0_init_29 ?_
  refine c_aload_n (pc := 32) X.1 0 rfl dX0_init_32 ?_
  refine c_iconst (v := 0) (pc := 33) X.1 rfl dX0_init_33 ?_
  refine c_put (k := 36) (pc := 34) [.inr (8, [.int 0, .long 0, .long 1, .ref (V.2.2.1 + 1), .ref (V.2.2.1 + 2), .ref (V.2.2.1 + 7), .ref (V.2.2.1 + 11), .ref (V.2.2.1 + 15), .ref (V.2.2.1 + 22), .ref (V.2.2.1 + 29), .ref (V.2.2.1 + 30), .int 0, .ref (V.2.2.1 + 31), .ref (V.2.2.1 + 35), .null, .null, .null]), .inl (V.2.1 4, 4, .inr (.inr (.inr (.inr (fun _ => none))))), z_2 V, z_3 V, z_4 V, z_5 V, z_6 V, z_7 V, z_8 V, z_9 V, z_10 V, z_11 V, z_12 V, z_13 V, z_14 V, z_15 V, z_16 V, z_17 V, z_18 V, z_19 V, z_20 V, z_21 V, z_22 V, z_23 V, z_24 V, z_25 V, z_26 V, z_27 V, z_28 V, .inl (V.2.1 5, 3, .inr (.inr (.inr (.inr (fun _ => none))))), .inl (V.2.1 6, 3, .inr (.inr (.inr (.inr (fun _ => none))))), z_31 V, z_32 V, z_33 V, z_34 V, z_35 V, .inr (0, [.ref (V.2.2.1 + 37), .ref (V.2.2.1 + 38), .ref (V.2.2.1 + 39), .int 0, .int 0, .int 0]), .inl (V.2.1 0, 6, .inl (fun _ => 0)), .inl (V.2.1 0, 6, .inl (fun _ => 0)), .inl (V.2.1 7, 7, .inr (.inr (.inr (.inr (fun j => some (V.2.2.1 + (39 + 1 + j))))))), .inl (V.2.1 1, 79, .inr (.inl (fun _ => 0))), .inl (V.2.1 1, 79, .inr (.inl (fun _ => 0))), .inl (V.2.1 1, 79, .inr (.inl (fun _ => 0))), .inl (V.2.1 1, 79, .inr (.inl (fun _ => 0))), .inl (V.2.1 1, 79, .inr (.inl (fun _ => 0))), .inl (V.2.1 1, 79, .inr (.inl (fun _ => 0))), .inl (V.2.1 1, 79, .inr (.inl (fun _ => 0)))] X k_fl_X0_23 (dcl_Ch 3 (by decide)) rfl rfl rfl (by decide) rfl dX0_init_34 ?_
  refine c_aload_n (pc := 37) X.1 0 rfl dX0_init_37 ?_
  refine c_iconst (v := 0) (pc := 38) X.1 rfl dX0_init_38 ?_
  refine c_put (k := 36) (pc := 39) [.inr (8, [.int 0, .long 0, .long 1, .ref (V.2.2.1 + 1), .ref (V.2.2.1 + 2), .ref (V.2.2.1 + 7), .ref (V.2.2.1 + 11), .ref (V.2.2.1 + 15), .ref (V.2.2.1 + 22), .ref (V.2.2.1 + 29), .ref (V.2.2.1 + 30), .int 0, .ref (V.2.2.1 + 31), .ref (V.2.2.1 + 35), .null, .null, .null]), .inl (V.2.1 4, 4, .inr (.inr (.inr (.inr (fun _ => none))))), z_2 V, z_3 V, z_4 V, z_5 V, z_6 V, z_7 V, z_8 V, z_9 V, z_10 V, z_11 V, z_12 V, z_13 V, z_14 V, z_15 V, z_16 V, z_17 V, z_18 V, z_19 V, z_20 V, z_21 V, z_22 V, z_23 V, z_24 V, z_25 V, z_26 V, z_27 V, z_28 V, .inl (V.2.1 5, 3, .inr (.inr (.inr (.inr (fun _ => none))))), .inl (V.2.1 6, 3, .inr (.inr (.inr (.inr (fun _ => none))))), z_31 V, z_32 V, z_33 V, z_34 V, z_35 V, .inr (0, [.ref (V.2.2.1 + 37), .ref (V.2.2.1 + 38), .ref (V.2.2.1 + 39), .int 0, .int 0, .int 0]), .inl (V.2.1 0, 6, .inl (fun _ => 0)), .inl (V.2.1 0, 6, .inl (fun _ => 0)), .inl (V.2.1 7, 7, .inr (.inr (.inr (.inr (fun j => some (V.2.2.1 + (39 + 1 + j))))))), .inl (V.2.1 1, 79, .inr (.inl (fun _ => 0))), .inl (V.2.1 1, 79, .inr (.inl (fun _ => 0))), .inl (V.2.1 1, 79, .inr (.inl (fun _ => 0))), .inl (V.2.1 1, 79, .inr (.inl (fun _ => 0))), .inl (V.2.1 1, 79, .inr (.inl (fun _ => 0))), .inl (V.2.1 1, 79, .inr (.inl (fun _ => 0))), .inl (V.2.1 1, 79, .inr (.inl (fun _ => 0)))] X k_fl_X0_27 (dcl_Ch 4 (by decide)) rfl rfl rfl (by decide) rfl dX0_init_39 ?_
  refine c_aload_n (pc := 42) X.1 0 rfl dX0_init_42 ?_
  refine c_iconst (v := 1) (pc := 43) X.1 rfl dX0_init_43 ?_
  refine c_put (k := 36) (pc := 44) [.inr (8, [.int 0, .long 0, .long 1, .ref (V.2.2.1 + 1), .ref (V.2.2.1 + 2), .ref (V.2.2.1 + 7), .ref (V.2.2.1 + 11), .ref (V.2.2.1 + 15), .ref (V.2.2.1 + 22), .ref (V.2.2.1 + 29), .ref (V.2.2.1 + 30), .int 0, .ref (V.2.2.1 + 31), .ref (V.2.2.1 + 35), .null, .null, .null]), .inl (V.2.1 4, 4, .inr (.inr (.inr (.inr (fun _ => none))))), z_2 V, z_3 V, z_4 V, z_5 V, z_6 V, z_7 V, z_8 V, z_9 V, z_10 V, z_11 V, z_12 V, z_13 V, z_14 V, z_15 V, z_16 V, z_17 V, z_18 V, z_19 V, z_20 V, z_21 V, z_22 V, z_23 V, z_24 V, z_25 V, z_26 V, z_27 V, z_28 V, .inl (V.2.1 5, 3, .inr (.inr (.inr (.inr (fun _ => none))))), .inl (V.2.1 6, 3, .inr (.inr (.inr (.inr (fun _ => none))))), z_31 V, z_32 V, z_33 V, z_34 V, z_35 V, .inr (0, [.ref (V.2.2.1 + 37), .ref (V.2.2.1 + 38), .ref (V.2.2.1 + 39), .int 0, .int 0, .int 1]), .inl (V.2.1 0, 6, .inl (fun _ => 0)), .inl (V.2.1 0, 6, .inl (fun _ => 0)), .inl (V.2.1 7, 7, .inr (.inr (.inr (.inr (fun j => some (V.2.2.1 + (39 + 1 + j))))))), .inl (V.2.1 1, 79, .inr (.inl (fun _ => 0))), .inl (V.2.1 1, 79, .inr (.inl (fun _ => 0))), .inl (V.2.1 1, 79, .inr (.inl (fun _ => 0))), .inl (V.2.1 1, 79, .inr (.inl (fun _ => 0))), .inl (V.2.1 1, 79, .inr (.inl (fun _ => 0))), .inl (V.2.1 1, 79, .inr (.inl (fun _ => 0))), .inl (V.2.1 1, 79, .inr (.inl (fun _ => 0)))] X k_fl_X0_30 (dcl_Ch 5 (by decide)) rfl rfl rfl (by decide) rfl dX0_init_44 ?_
  exact c_vret (pc := 47) X.1 rfl rfl dX0_init_47
def z_47 (V : Ev) : va_E := .inr (3, [.ref (V.2.2.1 + 48), .int 0, .int 0, .int 0, .int 0, .int 0, .int 0, .int 0, .int 0])
def z_48 (V : Ev) : va_E := .inl (V.2.1 0, 60, .inl (fun _ => 0))
set_option maxRecDepth 100000 in
set_option maxHeartbeats 4000000 in
theorem seed {V : Ev} : Rc V 1 M_X5_init [.ref (V.2.2.1 + 47)] [.inr (8, [.int 0, .long 0, .long 1, .ref (V.2.2.1 + 1), .ref (V.2.2.1 + 2), .ref (V.2.2.1 + 7), .ref (V.2.2.1 + 11), .ref (V.2.2.1 + 15), .ref (V.2.2.1 + 22), .ref (V.2.2.1 + 29), .ref (V.2.2.1 + 30), .int 0, .ref (V.2.2.1 + 31), .ref (V.2.2.1 + 35), .ref (V.2.2.1 + 36), .null, .null]), .inl (V.2.1 4, 4, .inr (.inr (.inr (.inr (fun _ => none))))), z_2 V, z_3 V, z_4 V, z_5 V, z_6 V, z_7 V, z_8 V, z_9 V, z_10 V, z_11 V, z_12 V, z_13 V, z_14 V, z_15 V, z_16 V, z_17 V, z_18 V, z_19 V, z_20 V, z_21 V, z_22 V, z_23 V, z_24 V, z_25 V, z_26 V, z_27 V, z_28 V, .inl (V.2.1 5, 3, .inr (.inr (.inr (.inr (fun _ => none))))), .inl (V.2.1 6, 3, .inr (.inr (.inr (.inr (fun _ => none))))), z_31 V, z_32 V, z_33 V, z_34 V, z_35 V, z_36 V, z_37 V, z_38 V, z_39 V, z_40 V, z_41 V, z_42 V, z_43 V, z_44 V, z_45 V, z_46 V, .inr (3, [.null, .int 0, .int 0, .int 0, .int 0, .int 0, .int 0, .int 0, .int 0])] [.inr (8, [.int 0, .long 0, .long 1, .ref (V.2.2.1 + 1), .ref (V.2.2.1 + 2), .ref (V.2.2.1 + 7), .ref (V.2.2.1 + 11), .ref (V.2.2.1 + 15), .ref (V.2.2.1 + 22), .ref (V.2.2.1 + 29), .ref (V.2.2.1 + 30), .int 0, .ref (V.2.2.1 + 31), .ref (V.2.2.1 + 35), .ref (V.2.2.1 + 36), .null, .null]), .inl (V.2.1 4, 4, .inr (.inr (.inr (.inr (fun _ => none))))), z_2 V, z_3 V, z_4 V, z_5 V, z_6 V, z_7 V, z_8 V, z_9 V, z_10 V, z_11 V, z_12 V, z_13 V, z_14 V, z_15 V, z_16 V, z_17 V, z_18 V, z_19 V, z_20 V, z_21 V, z_22 V, z_23 V, z_24 V, z_25 V, z_26 V, z_27 V, z_28 V, .inl (V.2.1 5, 3, .inr (.inr (.inr (.inr (fun _ => none))))), .inl (V.2.1 6, 3, .inr (.inr (.inr (.inr (fun _ => none))))), z_31 V, z_32 V, z_33 V, z_34 V, z_35 V, z_36 V, z_37 V, z_38 V, z_39 V, z_40 V, z_41 V, z_42 V, z_43 V, z_44 V, z_45 V, z_46 V, z_47 V, z_48 V] 1 60 := by
  refine Rc.of (by decide +kernel) rfl (Nat.le_of_ble_eq_true rfl) (fun Γ X => ?_)

  refine c_aload_n (pc := 0) X.1 0 rfl dX5_init_0 ?_
  refine c_objInit (pc := 1) X.1 k_oi_X5 k_oi2 k_oi3 (Nat.le_of_ble_eq_true rfl) (Nat.le_of_ble_eq_true rfl) dX5_init_1 ?_
  refine c_aload_n (pc := 4) X.1 0 rfl dX5_init_4 ?_
  refine c_bipush (v := 60) (pc := 5) X.1 (by decide) dX5_init_5 ?_
  refine c_newa (ty := .int) (N := 60) (ak := 0) (a0 := .inl (fun _ => 0)) (pc := 7) X.1 X.2.2 rfl k_arr_0 rfl (fun _ h => by cases h) rfl (fun _ => rfl) (by decide) (by decide) (Nat.le_of_ble_eq_true rfl) (Nat.le_of_ble_eq_true rfl) (Nat.le_of_ble_eq_true rfl) dX5_init_7 ?_
  refine c_put (k := 47) (pc := 9) [.inr (8, [.int 0, .long 0, .long 1, .ref (V.2.2.1 + 1), .ref (V.2.2.1 + 2), .ref (V.2.2.1 + 7), .ref (V.2.2.1 + 11), .ref (V.2.2.1 + 15), .ref (V.2.2.1 + 22), .ref (V.2.2.1 + 29), .ref (V.2.2.1 + 30), .int 0, .ref (V.2.2.1 + 31), .ref (V.2.2.1 + 35), .ref (V.2.2.1 + 36), .null, .null]), .inl (V.2.1 4, 4, .inr (.inr (.inr (.inr (fun _ => none))))), z_2 V, z_3 V, z_4 V, z_5 V, z_6 V, z_7 V, z_8 V, z_9 V, z_10 V, z_11 V, z_12 V, z_13 V, z_14 V, z_15 V, z_16 V, z_17 V, z_18 V, z_19 V, z_20 V, z_21 V, z_22 V, z_23 V, z_24 V, z_25 V, z_26 V, z_27 V, z_28 V, .inl (V.2.1 5, 3, .inr (.inr (.inr (.inr (fun _ => none))))), .inl (V.2.1 6, 3, .inr (.inr (.inr (.inr (fun _ => none))))), z_31 V, z_32 V, z_33 V, z_34 V, z_35 V, z_36 V, z_37 V, z_38 V, z_39 V, z_40 V, z_41 V, z_42 V, z_43 V, z_44 V, z_45 V, z_46 V, .inr (3, [.ref (V.2.2.1 + 48), .int 0, .int 0, .int 0, .int 0, .int 0, .int 0, .int 0, .int 0]), .inl (V.2.1 0, 60, .inl (fun _ => 0))] X k_fl_X5_11 (dcl_Li 0 (by decide)) rfl rfl rfl (by decide) rfl dX5_init_9 ?_
  refine c_aload_n (pc := 12) X.1 0 rfl dX5_init_12 ?_
  refine c_iconst (v := 0) (pc := 13) X.1 rfl dX5_init_13 ?_
  refine c_put (k := 47) (pc := 14) [.inr (8, [.int 0, .long 0, .long 1, .ref (V.2.2.1 + 1), .ref (V.2.2.1 + 2), .ref (V.2.2.1 + 7), .ref (V.2.2.1 + 11), .ref (V.2.2.1 + 15), .ref (V.2.2.1 + 22), .ref (V.2.2.1 + 29), .ref (V.2.2.1 + 30), .int 0, .ref (V.2.2.1 + 31), .ref (V.2.2.1 + 35), .ref (V.2.2.1 + 36), .null, .null]), .inl (V.2.1 4, 4, .inr (.inr (.inr (.inr (fun _ => none))))), z_2 V, z_3 V, z_4 V, z_5 V, z_6 V, z_7 V, z_8 V, z_9 V, z_10 V, z_11 V, z_12 V, z_13 V, z_14 V, z_15 V, z_16 V, z_17 V, z_18 V, z_19 V, z_20 V, z_21 V, z_22 V, z_23 V, z_24 V, z_25 V, z_26 V, z_27 V, z_28 V, .inl (V.2.1 5, 3, .inr (.inr (.inr (.inr (fun _ => none))))), .inl (V.2.1 6, 3, .inr (.inr (.inr (.inr (fun _ => none))))), z_31 V, z_32 V, z_33 V, z_34 V, z_35 V, z_36 V, z_37 V, z_38 V, z_39 V, z_40 V, z_41 V, z_42 V, z_43 V, z_44 V, z_45 V, z_46 V, .inr (3, [.ref (V.2.2.1 + 48), .int 0, .int 0, .int 0, .int 0, .int 0, .int 0, .int 0, .int 0]), .inl (V.2.1 0, 60, .inl (fun _ => 0))] X k_fl_X5_17 (dcl_Li 1 (by decide)) rfl (by decide +kernel) (by decide +kernel) (by decide) rfl dX5_init_14 ?_
  refine c_aload_n (pc := 17) X.1 0 rfl dX5_init_17 ?_
  refine c_iconst (v := 0) (pc := 18) X.1 rfl dX5_init_18 ?_
  refine c_put (k := 47) (pc := 19) [.inr (8, [.int 0, .long 0, .long 1, .ref (V.2.2.1 + 1), .ref (V.2.2.1 + 2), .ref (V.2.2.1 + 7), .ref (V.2.2.1 + 11), .ref (V.2.2.1 + 15), .ref (V.2.2.1 + 22), .ref (V.2.2.1 + 29), .ref (V.2.2.1 + 30), .int 0, .ref (V.2.2.1 + 31), .ref (V.2.2.1 + 35), .ref (V.2.2.1 + 36), .null, .null]), .inl (V.2.1 4, 4, .inr (.inr (.inr (.inr (fun _ => none))))), z_2 V, z_3 V, z_4 V, z_5 V, z_6 V, z_7 V, z_8 V, z_9 V, z_10 V, z_11 V, z_12 V, z_13 V, z_14 V, z_15 V, z_16 V, z_17 V, z_18 V, z_19 V, z_20 V, z_21 V, z_22 V, z_23 V, z_24 V, z_25 V, z_26 V, z_27 V, z_28 V, .inl (V.2.1 5, 3, .inr (.inr (.inr (.inr (fun _ => none))))), .inl (V.2.1 6, 3, .inr (.inr (.inr (.inr (fun _ => none))))), z_31 V, z_32 V, z_33 V, z_34 V, z_35 V, z_36 V, z_37 V, z_38 V, z_39 V, z_40 V, z_41 V, z_42 V, z_43 V, z_44 V, z_45 V, z_46 V, .inr (3, [.ref (V.2.2.1 + 48), .int 0, .int 0, .int 0, .int 0, .int 0, .int 0, .int 0, .int 0]), .inl (V.2.1 0, 60, .inl (fun _ => 0))] X k_fl_X5_21 (dcl_Li 2 (by decide)) rfl rfl rfl (by decide) rfl dX5_init_19 ?_
  refine c_aload_n (pc := 22) X.1 0 rfl dX5_init_22 ?_
  refine c_iconst (v := 0) (pc := 23) X.1 rfl dX5_init_23 ?_
  refine c_put (k := 47) (pc := 24) [.inr (8, [.int 0, .long 0, .long 1, .ref (V.2.2.1 + 1), .ref (V.2.2.1 + 2), .ref (V.2.2.1 + 7), .ref (V.2.2.1 + 11), .ref (V.2.2.1 + 15), .ref (V.2.2.1 + 22), .ref (V.2.2.1 + 29), .ref (V.2.2.1 + 30), .int 0, .ref (V.2.2.1 + 31), .ref (V.2.2.1 + 35), .ref (V.2.2.1 + 36), .null, .null]), .inl (V.2.1 4, 4, .inr (.inr (.inr (.inr (fun _ => none))))), z_2 V, z_3 V, z_4 V, z_5 V, z_6 V, z_7 V, z_8 V, z_9 V, z_10 V, z_11 V, z_12 V, z_13 V, z_14 V, z_15 V, z_16 V, z_17 V, z_18 V, z_19 V, z_20 V, z_21 V, z_22 V, z_23 V, z_24 V, z_25 V, z_26 V, z_27 V, z_28 V, .inl (V.2.1 5, 3, .inr (.inr (.inr (.inr (fun _ => none))))), .inl (V.2.1 6, 3, .inr (.inr (.inr (.inr (fun _ => none))))), z_31 V, z_32 V, z_33 V, z_34 V, z_35 V, z_36 V, z_37 V, z_38 V, z_39 V, z_40 V, z_41 V, z_42 V, z_43 V, z_44 V, z_45 V, z_46 V, .inr (3, [.ref (V.2.2.1 + 48), .int 0, .int 0, .int 0, .int 0, .int 0, .int 0, .int 0, .int 0]), .inl (V.2.1 0, 60, .inl (fun _ => 0))] X k_fl_X5_25 (dcl_Li 3 (by decide)) rfl rfl rfl (by decide) rfl dX5_init_24 ?_
  refine c_aload_n (pc := 27) X.1 0 rfl dX5_init_27 ?_
  refine c_iconst (v := 0) (pc := 28) X.1 rfl dX5_init_28 ?_
  refine c_put (k := 47) (pc := 29) [.inr (8, [.int 0, .long 0, .long 1, .ref (V.2.2.1 + 1), .ref (V.2.2.1 + 2), .ref (V.2.2.1 + 7), .ref (V.2.2.1 + 11), .ref (V.2.2.1 + 15), .ref (V.2.2.1 + 22), .ref (V.2.2.1 + 29), .ref (V.2.2.1 + 30), .int 0, .ref (V.2.2.1 + 31), .ref (V.2.2.1 + 35), .ref (V.2.2.1 + 36), .null, .null]), .inl (V.2.1 4, 4, .inr (.inr (.inr (.inr (fun _ => none))))), z_2 V, z_3 V, z_4 V, z_5 V, z_6 V, z_7 V, z_8 V, z_9 V, z_10 V, z_11 V, z_12 V, z_13 V, z_14 V, z_15 V, z_16 V, z_17 V, z_18 V, z_19 V, z_20 V, z_21 V, z_22 V, z_23 V, z_24 V, z_25 V, z_26 V, z_27 V, z_28 V, .inl (V.2.1 5, 3, .inr (.inr (.inr (.inr (fun _ => none))))), .inl (V.2.1 6, 3, .inr (.inr (.inr (.inr (fun _ => none))))), z_31 V, z_32 V, z_33 V, z_34 V, z_35 V, z_36 V, z_37 V, z_38 V, z_39 V, z_40 V, z_41 V, z_42 V, z_43 V, z_44 V, z_45 V, z_46 V, .inr (3, [.ref (V.2.2.1 + 48), .int 0, .int 0, .int 0, .int 0, .int 0, .int 0, .int 0, .int 0]), .inl (V.2.1 0, 60, .inl (fun _ => 0))] X k_fl_X5_28 (dcl_Li 4 (by decide)) rfl rfl rfl (by decide) rfl dX5_init_29 ?_
  refine c_aload_n (pc := 32) X.1 0 rfl dX5_init_32 ?_
  refine c_iconst (v := 0) (pc := 33) X.1 rfl dX5_init_33 ?_
  refine c_put (k := 47) (pc := 34) [.inr (8, [.int 0, .long 0, .long 1, .ref (V.2.2.1 + 1), .ref (V.2.2.1 + 2), .ref (V.2.2.1 + 7), .ref (V.2.2.1 + 11), .ref (V.2.2.1 + 15), .ref (V.2.2.1 + 22), .ref (V.2.2.1 + 29), .ref (V.2.2.1 + 30), .int 0, .ref (V.2.2.1 + 31), .ref (V.2.2.1 + 35), .ref (V.2.2.1 + 36), .null, .null]), .inl (V.2.1 4, 4, .inr (.inr (.inr (.inr (fun _ => none))))), z_2 V, z_3 V, z_4 V, z_5 V, z_6 V, z_7 V, z_8 V, z_9 V, z_10 V, z_11 V, z_12 V, z_13 V, z_14 V, z_15 V, z_16 V, z_17 V, z_18 V, z_19 V, z_20 V, z_21 V, z_22 V, z_23 V, z_24 V, z_25 V, z_26 V, z_27 V, z_28 V, .inl (V.2.1 5, 3, .inr (.inr (.inr (.inr (fun _ => none))))), .inl (V.2.1 6, 3, .inr (.inr (.inr (.inr (fun _ => none))))), z_31 V, z_32 V, z_33 V, z_34 V, z_35 V, z_36 V, z_37 V, z_38 V, z_39 V, z_40 V, z_41 V, z_42 V, z_43 V, z_44 V, z_45 V, z_46 V, .inr (3, [.ref (V.2.2.1 + 48), .int 0, .int 0, .int 0, .int 0, .int 0, .int 0, .int 0, .int 0]), .inl (V.2.1 0, 60, .inl (fun _ => 0))] X k_fl_X5_31 (dcl_Li 5 (by decide)) rfl rfl rfl (by decide) rfl dX5_init_34 ?_
  refine c_aload_n (pc := 37) X.1 0 rfl dX5_init_37 ?_
  refine c_iconst (v := 0) (pc := 38) X.1 rfl dX5_init_38 ?_
  refine c_put (k := 47) (pc := 39) [.inr (8, [.int 0, .long 0, .long 1, .ref (V.2.2.1 + 1), .ref (V.2.2.1 + 2), .ref (V.2.2.1 + 7), .ref (V.2.2.1 + 11), .ref (V.2.2.1 + 15), .ref (V.2.2.1 + 22), .ref (V.2.2.1 + 29), .ref (V.2.2.1 + 30), .int 0, .ref (V.2.2.1 + 31), .ref (V.2.2.1 + 35), .ref (V.2.2.1 + 36), .null, .null]), .inl (V.2.1 4, 4, .inr (.inr (.inr (.inr (fun _ => none))))), z_2 V, z_3 V, z_4 V, z_5 V, z_6 V, z_7 V, z_8 V, z_9 V, z_10 V, z_11 V, z_12 V, z_13 V, z_14 V, z_15 V, z_16 V, z_17 V, z_18 V, z_19 V, z_20 V, z_21 V, z_22 V, z_23 V, z_24 V, z_25 V, z_26 V, z_27 V, z_28 V, .inl (V.2.1 5, 3, .inr (.inr (.inr (.inr (fun _ => none))))), .inl (V.2.1 6, 3, .inr (.inr (.inr (.inr (fun _ => none))))), z_31 V, z_32 V, z_33 V, z_34 V, z_35 V, z_36 V, z_37 V, z_38 V, z_39 V, z_40 V, z_41 V, z_42 V, z_43 V, z_44 V, z_45 V, z_46 V, .inr (3, [.ref (V.2.2.1 + 48), .int 0, .int 0, .int 0, .int 0, .int 0, .int 0, .int 0, .int 0]), .inl (V.2.1 0, 60, .inl (fun _ => 0))] X k_fl_X5_34 (dcl_Li 6 (by decide)) rfl rfl rfl (by decide) rfl dX5_init_39 ?_
  refine c_aload_n (pc := 42) X.1 0 rfl dX5_init_42 ?_
  refine c_iconst (v := 0) (pc := 43) X.1 rfl dX5_init_43 ?_
  refine c_put (k := 47) (pc := 44) [.inr (8, [.int 0, .long 0, .long 1, .ref (V.2.2.1 + 1), .ref (V.2.2.1 + 2), .ref (V.2.2.1 + 7), .ref (V.2.2.1 + 11), .ref (V.2.2.1 + 15), .ref (V.2.2.1 + 22), .ref (V.2.2.1 + 29), .ref (V.2.2.1 + 30), .int 0, .ref (V.2.2.1 + 31), .ref (V.2.2.1 + 35), .ref (V.2.2.1 + 36), .null, .null]), .inl (V.2.1 4, 4, .inr (.inr (.inr (.inr (fun _ => none))))), z_2 V, z_3 V, z_4 V, z_5 V, z_6 V, z_7 V, z_8 V, z_9 V, z_10 V, z_11 V, z_12 V, z_13 V, z_14 V, z_15 V, z_16 V, z_17 V, z_18 V, z_19 V, z_20 V, z_21 V, z_22 V, z_23 V, z_24 V, z_25 V, z_26 V, z_27 V, z_28 V, .inl (V.2.1 5, 3, .inr (.inr (.inr (.inr (fun _ => none))))), .inl (V.2.1 6, 3, .inr (.inr (.inr (.inr (fun _ => none))))), z_31 V, z_32 V, z_33 V, z_34 V, z_35 V, z_36 V, z_37 V, z_38 V, z_39 V, z_40 V, z_41 V, z_42 V, z_43 V, z_44 V, z_45 V, z_46 V, .inr (3, [.ref (V.2.2.1 + 48), .int 0, .int 0, .int 0, .int 0, .int 0, .int 0, .int 0, .int 0]), .inl (V.2.1 0, 60, .inl (fun _ => 0))] X k_fl_X5_37 (dcl_Li 7 (by decide)) rfl (by decide +kernel) (by decide +kernel) (by decide) rfl dX5_init_44 ?_
  refine c_aload_n (pc := 47) X.1 0 rfl dX5_init_47 ?_
  refine c_iconst (v := 0) (pc := 48) X.1 rfl dX5_init_48 ?_
  refine c_put (k := 47) (pc := 49) [.inr (8, [.int 0, .long 0, .long 1, .ref (V.2.2.1 + 1), .ref (V.2.2.1 + 2), .ref (V.2.2.1 + 7), .ref (V.2.2.1 + 11), .ref (V.2.2.1 + 15), .ref (V.2.2.1 + 22), .ref (V.2.2.1 + 29), .ref (V.2.2.1 + 30), .int 0, .ref (V.2.2.1 + 31), .ref (V.2.2.1 + 35), .ref (V.2.2.1 + 36), .null, .null]), .inl (V.2.1 4, 4, .inr (.inr (.inr (.inr (fun _ => none))))), z_2 V, z_3 V, z_4 V, z_5 V, z_6 V, z_7 V, z_8 V, z_9 V, z_10 V, z_11 V, z_12 V, z_13 V, z_14 V, z_15 V, z_16 V, z_17 V, z_18 V, z_19 V, z_20 V, z_21 V, z_22 V, z_23 V, z_24 V, z_25 V, z_26 V, z_27 V, z_28 V, .inl (V.2.1 5, 3, .inr (.inr (.inr (.inr (fun _ => none))))), .inl (V.2.1 6, 3, .inr (.inr (.inr (.inr (fun _ => none))))), z_31 V, z_32 V, z_33 V, z_34 V, z_35 V, z_36 V, z_37 V, z_38 V, z_39 V, z_40 V, z_41 V, z_42 V, z_43 V, z_44 V, z_45 V, z_46 V, .inr (3, [.ref (V.2.2.1 + 48), .int 0, .int 0, .int 0, .int 0, .int 0, .int 0, .int 0, .int 0]), .inl (V.2.1 0, 60, .inl (fun _ => 0))] X k_fl_X5_40 (dcl_Li 8 (by decide)) rfl rfl rfl (by decide) rfl dX5_init_49 ?_
  exact c_vret (pc := 52) X.1 rfl rfl dX5_init_52
def z_49 (V : Ev) : va_E := .inr (3, [.ref (V.2.2.1 + 50), .int 0, .int 0, .int 0, .int 0, .int 0, .int 0, .int 0, .int 0])
def z_50 (V : Ev) : va_E := .inl (V.2.1 0, 60, .inl (fun _ => 0))
set_option maxRecDepth 100000 in
set_option maxHeartbeats 4000000 in
theorem seed {V : Ev} : Rc V 1 M_X5_init [.ref (V.2.2.1 + 49)] [.inr (8, [.int 0, .long 0, .long 1, .ref (V.2.2.1 + 1), .ref (V.2.2.1 + 2), .ref (V.2.2.1 + 7), .ref (V.2.2.1 + 11), .ref (V.2.2.1 + 15), .ref (V.2.2.1 + 22), .ref (V.2.2.1 + 29), .ref (V.2.2.1 + 30), .int 0, .ref (V.2.2.1 + 31), .ref (V.2.2.1 + 35), .ref (V.2.2.1 + 36), .ref (V.2.2.1 + 47), .null]), .inl (V.2.1 4, 4, .inr (.inr (.inr (.inr (fun _ => none))))), z_2 V, z_3 V, z_4 V, z_5 V, z_6 V, z_7 V, z_8 V, z_9 V, z_10 V, z_11 V, z_12 V, z_13 V, z_14 V, z_15 V, z_16 V, z_17 V, z_18 V, z_19 V, z_20 V, z_21 V, z_22 V, z_23 V, z_24 V, z_25 V, z_26 V, z_27 V, z_28 V, .inl (V.2.1 5, 3, .inr (.inr (.inr (.inr (fun _ => none))))), .inl (V.2.1 6, 3, .inr (.inr (.inr (.inr (fun _ => none))))), z_31 V, z_32 V, z_33 V, z_34 V, z_35 V, z_36 V, z_37 V, z_38 V, z_39 V, z_40 V, z_41 V, z_42 V, z_43 V, z_44 V, z_45 V, z_46 V, z_47 V, z_48 V, .inr (3, [.null, .int 0, .int 0, .int 0, .int 0, .int 0, .int 0, .int 0, .int 0])] [.inr (8, [.int 0, .long 0, .long 1, .ref (V.2.2.1 + 1), .ref (V.2.2.1 + 2), .ref (V.2.2.1 + 7), .ref (V.2.2.1 + 11), .ref (V.2.2.1 + 15), .ref (V.2.2.1 + 22), .ref (V.2.2.1 + 29), .ref (V.2.2.1 + 30), .int 0, .ref (V.2.2.1 + 31), .ref (V.2.2.1 + 35), .ref (V.2.2.1 + 36), .ref (V.2.2.1 + 47), .null]), .inl (V.2.1 4, 4, .inr (.inr (.inr (.inr (fun _ => none))))), z_2 V, z_3 V, z_4 V, z_5 V, z_6 V, z_7 V, z_8 V, z_9 V, z_10 V, z_11 V, z_12 V, z_13 V, z_14 V, z_15 V, z_16 V, z_17 V, z_18 V, z_19 V, z_20 V, z_21 V, z_22 V, z_23 V, z_24 V, z_25 V, z_26 V, z_27 V, z_28 V, .inl (V.2.1 5, 3, .inr (.inr (.inr (.inr (fun _ => none))))), .inl (V.2.1 6, 3, .inr (.inr (.inr (.inr (fun _ => none))))), z_31 V, z_32 V, z_33 V, z_34 V, z_35 V, z_36 V, z_37 V, z_38 V, z_39 V, z_40 V, z_41 V, z_42 V, z_43 V, z_44 V, z_45 V, z_46 V, z_47 V, z_48 V, z_49 V, z_50 V] 1 60 := by
  refine Rc.of (by decide +kernel) rfl (Nat.le_of_ble_eq_true rfl) (fun Γ X => ?_)

  refine c_aload_n (pc := 0) X.1 0 rfl dX5_init_0 ?_
  refine c_objInit (pc := 1) X.1 k_oi_X5 k_oi2 k_oi3 (Nat.le_of_ble_eq_true rfl) (Nat.le_of_ble_eq_true rfl) dX5_init_1 ?_
  refine c_aload_n (pc := 4) X.1 0 rfl dX5_init_4 ?_
  refine c_bipush (v := 60) (pc := 5) X.1 (by decide) dX5_init_5 ?_
  refine c_newa (ty := .int) (N := 60) (ak := 0) (a0 := .inl (fun _ => 0)) (pc := 7) X.1 X.2.2 rfl k_arr_0 rfl (fun _ h => by cases h) rfl (fun _ => rfl) (by decide) (by decide) (Nat.le_of_ble_eq_true rfl) (Nat.le_of_ble_eq_true rfl) (Nat.le_of_ble_eq_true rfl) dX5_init_7 ?_
  refine c_put (k := 49) (pc := 9) [.inr (8, [.int 0, .long 0, .long 1, .ref (V.2.2.1 + 1), .ref (V.2.2.1 + 2), .ref (V.2.2.1 + 7), .ref (V.2.2.1 + 11), .ref (V.2.2.1 + 15), .ref (V.2.2.1 + 22), .ref (V.2.2.1 + 29), .ref (V.2.2.1 + 30), .int 0, .ref (V.2.2.1 + 31), .ref (V.2.2.1 + 35), .ref (V.2.2.1 + 36), .ref (V.2.2.1 + 47), .null]), .inl (V.2.1 4, 4, .inr (.inr (.inr (.inr (fun _ => none))))), z_2 V, z_3 V, z_4 V, z_5 V, z_6 V, z_7 V, z_8 V, z_9 V, z_10 V, z_11 V, z_12 V, z_13 V, z_14 V, z_15 V, z_16 V, z_17 V, z_18 V, z_19 V, z_20 V, z_21 V, z_22 V, z_23 V, z_24 V, z_25 V, z_26 V, z_27 V, z_28 V, .inl (V.2.1 5, 3, .inr (.inr (.inr (.inr (fun _ => none))))), .inl (V.2.1 6, 3, .inr (.inr (.inr (.inr (fun _ => none))))), z_31 V, z_32 V, z_33 V, z_34 V, z_35 V, z_36 V, z_37 V, z_38 V, z_39 V, z_40 V, z_41 V, z_42 V, z_43 V, z_44 V, z_45 V, z_46 V, z_47 V, z_48 V, .inr (3, [.ref (V.2.2.1 + 50), .int 0, .int 0, .int 0, .int 0, .int 0, .int 0, .int 0, .int 0]), .inl (V.2.1 0, 60, .inl (fun _ => 0))] X k_fl_X5_11 (dcl_Li 0 (by decide)) rfl rfl rfl (by decide) rfl dX5_init_9 ?_
  refine c_aload_n (pc := 12) X.1 0 rfl dX5_init_12 ?_
  refine c_iconst (v := 0) (pc := 13) X.1 rfl dX5_init_13 ?_
  refine c_put (k := 49) (pc := 14) [.inr (8, [.int 0, .long 0, .long 1, .ref (V.2.2.1 + 1), .ref (V.2.2.1 + 2), .ref (V.2.2.1 + 7), .ref (V.2.2.1 + 11), .ref (V.2.2.1 + 15), .ref (V.2.2.1 + 22), .ref (V.2.2.1 + 29), .ref (V.2.2.1 + 30), .int 0, .ref (V.2.2.1 + 31), .ref (V.2.2.1 + 35), .ref (V.2.2.1 + 36), .ref (V.2.2.1 + 47), .null]), .inl (V.2.1 4, 4, .inr (.inr (.inr (.inr (fun _ => none))))), z_2 V, z_3 V, z_4 V, z_5 V, z_6 V, z_7 V, z_8 V, z_9 V, z_10 V, z_11 V, z_12 V, z_13 V, z_14 V, z_15 V, z_16 V, z_17 V, z_18 V, z_19 V, z_20 V, z_21 V, z_22 V, z_23 V, z_24 V, z_25 V, z_26 V, z_27 V, z_28 V, .inl (V.2.1 5, 3, .inr (.inr (.inr (.inr (fun _ => none))))), .inl (V.2.1 6, 3, .inr (.inr (.inr (.inr (fun _ => none))))), z_31 V, z_32 V, z_33 V, z_34 V, z_35 V, z_36 V, z_37 V, z_38 V, z_39 V, z_40 V, z_41 V, z_42 V, z_43 V, z_44 V, z_45 V, z_46 V, z_47 V, z_48 V, .inr (3, [.ref (V.2.2.1 + 50), .int 0, .int 0, .int 0, .int 0, .int 0, .int 0, .int 0, .int 0]), .inl (V.2.1 0, 60, .inl (fun _ => 0))] X k_fl_X5_17 (dcl_Li 1 (by decide)) rfl (by decide +kernel) (by decide +kernel) (by decide) rfl dX5_init_14 ?_
  refine c_aload_n (pc := 17) X.1 0 rfl dX5_init_17 ?_
  refine c_iconst (v := 0) (pc := 18) X.1 rfl dX5_init_18 ?_
  refine c_put (k := 49) (pc := 19) [.inr (8, [.int 0, .long 0, .long 1, .ref (V.2.2.1 + 1), .ref (V.2.2.1 + 2), .ref (V.2.2.1 + 7), .ref (V.2.2.1 + 11), .ref (V.2.2.1 + 15), .ref (V.2.2.1 + 22), .ref (V.2.2.1 + 29), .ref (V.2.2.1 + 30), .int 0, .ref (V.2.2.1 + 31), .ref (V.2.2.1 + 35), .ref (V.2.2.1 + 36), .ref (V.2.2.1 + 47), .null]), .inl (V.2.1 4, 4, .inr (.inr (.inr (.inr (fun _ => none))))), z_2 V, z_3 V, z_4 V, z_5 V, z_6 V, z_7 V, z_8 V, z_9 V, z_10 V, z_11 V, z_12 V, z_13 V, z_14 V, z_15 V, z_16 V, z_17 V, z_18 V, z_19 V, z_20 V, z_21 V, z_22 V, z_23 V, z_24 V, z_25 V, z_26 V, z_27 V, z_28 V, .inl (V.2.1 5, 3, .inr (.inr (.inr (.inr (fun _ => none))))), .inl (V.2.1 6, 3, .inr (.inr (.inr (.inr (fun _ => none))))), z_31 V, z_32 V, z_33 V, z_34 V, z_35 V, z_36 V, z_37 V, z_38 V, z_39 V, z_40 V, z_41 V, z_42 V, z_43 V, z_44 V, z_45 V, z_46 V, z_47 V, z_48 V, .inr (3, [.ref (V.2.2.1 + 50), .int 0, .int 0, .int 0, .int 0, .int 0, .int 0, .int 0, .int 0]), .inl (V.2.1 0, 60, .inl (fun _ => 0))] X k_fl_X5_21 (dcl_Li 2 (by decide)) rfl rfl rfl (by decide) rfl dX5_init_19 ?_
  refine c_aload_n (pc := 22) X.1 0 rfl dX5_init_22 ?_
  refine c_iconst (v := 0) (pc := 23) X.1 rfl dX5_init_23 ?_
  refine c_put (k := 49) (pc := 24) [.inr (8, [.int 0, .long 0, .long 1, .ref (V.2.2.1 + 1), .ref (V.2.2.1 + 2), .ref (V.2.2.1 + 7), .ref (V.2.2.1 + 11), .ref (V.2.2.1 + 15), .ref (V.2.2.1 + 22), .ref (V.2.2.1 + 29), .ref (V.2.2.1 + 30), .int 0, .ref (V.2.2.1 + 31), .ref (V.2.2.1 + 35), .ref (V.2.2.1 + 36), .ref (V.2.2.1 + 47), .null]), .inl (V.2.1 4, 4, .inr (.inr (.inr (.inr (fun _ => none))))), z_2 V, z_3 V, z_4 V, z_5 V, z_6 V, z_7 V, z_8 V, z_9 V, z_10 V, z_11 V, z_12 V, z_13 V, z_14 V, z_15 V, z_16 V, z_17 V, z_18 V, z_19 V, z_20 V, z_21 V, z_22 V, z_23 V, z_24 V, z_25 V, z_26 V, z_27 V, z_28 V, .inl (V.2.1 5, 3, .inr (.inr (.inr (.inr (fun _ => none))))), .inl (V.2.1 6, 3, .inr (.inr (.inr (.inr (fun _ => none))))), z_31 V, z_32 V, z_33 V, z_34 V, z_35 V, z_36 V, z_37 V, z_38 V, z_39 V, z_40 V, z_41 V, z_42 V, z_43 V, z_44 V, z_45 V, z_46 V, z_47 V, z_48 V, .inr (3, [.ref (V.2.2.1 + 50), .int 0, .int 0, .int 0, .int 0, .int 0, .int 0, .int 0, .int 0]), .inl (V.2.1 0, 60, .inl (fun _ => 0))] X k_fl_X5_25 (dcl_Li 3 (by decide)) rfl rfl rfl (by decide) rfl dX5_init_24 ?_
  refine c_aload_n (pc := 27) X.1 0 rfl dX5_init_27 ?_
  refine c_iconst (v := 0) (pc := 28) X.1 rfl dX5_init_28 ?_
  refine c_put (k := 49) (pc := 29) [.inr (8, [.int 0, .long 0, .long 1, .ref (V.2.2.1 + 1), .ref (V.2.2.1 + 2), .ref (V.2.2.1 + 7), .ref (V.2.2.1 + 11), .ref (V.2.2.1 + 15), .ref (V.2.2.1 + 22), .ref (V.2.2.1 + 29), .ref (V.2.2.1 + 30), .int 0, .ref (V.2.2.1 + 31), .ref (V.2.2.1 + 35), .ref (V.2.2.1 + 36), .ref (V.2.2.1 + 47), .null]), .inl (V.2.1 4, 4, .inr (.inr (.inr (.inr (fun _ => none))))), z_2 V, z_3 V, z_4 V, z_5 V, z_6 V, z_7 V, z_8 V, z_9 V, z_10 V, z_11 V, z_12 V, z_13 V, z_14 V, z_15 V, z_16 V, z_17 V, z_18 V, z_19 V, z_20 V, z_21 V, z_22 V, z_23 V, z_24 V, z_25 V, z_26 V, z_27 V, z_28 V, .inl (V.2.1 5, 3, .inr (.inr (.inr (.inr (fun _ => none))))), .inl (V.2.1 6, 3, .inr (.inr (.inr (.inr (fun _ => none))))), z_31 V, z_32 V, z_33 V, z_34 V, z_35 V, z_36 V, z_37 V, z_38 V, z_39 V, z_40 V, z_41 V, z_42 V, z_43 V, z_44 V, z_45 V, z_46 V, z_47 V, z_48 V, .inr (3, [.ref (V.2.2.1 + 50), .int 0, .int 0, .int 0, .int 0, .int 0, .int 0, .int 0, .int 0]), .inl (V.2.1 0, 60, .inl (fun _ => 0))] X k_fl_X5_28 (dcl_Li 4 (by decide)) rfl rfl rfl (by decide) rfl dX5_init_29 ?_
  refine c_aload_n (pc := 32) X.1 0 rfl dX5_init_32 ?_
  refine c_iconst (v := 0) (pc := 33) X.1 rfl dX5_init_33 ?_
  refine c_put (k := 49) (pc := 34) [.inr (8, [.int 0, .long 0, .long 1, .ref (V.2.2.1 + 1), .ref (V.2.2.1 + 2), .ref (V.2.2.1 + 7), .ref (V.2.2.1 + 11), .ref (V.2.2.1 + 15), .ref (V.2.2.1 + 22), .ref (V.2.2.1 + 29), .ref (V.2.2.1 + 30), .int 0, .ref (V.2.2.1 + 31), .ref (V.2.2.1 + 35), .ref (V.2.2.1 + 36), .ref (V.2.2.1 + 47), .null]), .inl (V.2.1 4, 4, .inr (.inr (.inr (.inr (fun _ => none))))), z_2 V, z_3 V, z_4 V, z_5 V, z_6 V, z_7 V, z_8 V, z_9 V, z_10 V, z_11 V, z_12 V, z_13 V, z_14 V, z_15 V, z_16 V, z_17 V, z_18 V, z_19 V, z_20 V, z_21 V, z_22 V, z_23 V, z_24 V, z_25 V, z_26 V, z_27 V, z_28 V, .inl (V.2.1 5, 3, .inr (.inr (.inr (.inr (fun _ => none))))), .inl (V.2.1 6, 3, .inr (.inr (.inr (.inr (fun _ => none))))), z_31 V, z_32 V, z_33 V, z_34 V, z_35 V, z_36 V, z_37 V, z_38 V, z_39 V, z_40 V, z_41 V, z_42 V, z_43 V, z_44 V, z_45 V, z_46 V, z_47 V, z_48 V, .inr (3, [.ref (V.2.2.1 + 50), .int 0, .int 0, .int 0, .int 0, .int 0, .int 0, .int 0, .int 0]), .inl (V.2.1 0, 60, .inl (fun _ => 0))] X k_fl_X5_31 (dcl_Li 5 (by decide)) rfl rfl rfl (by decide) rfl dX5_init_34 ?_
  refine c_aload_n (pc := 37) X.1 0 rfl dX5_init_37 ?_
  refine c_iconst (v := 0) (pc := 38) X.1 rfl dX5_init_38 ?_
  refine c_put (k := 49) (pc := 39) [.inr (8, [.int 0, .long 0, .long 1, .ref (V.2.2.1 + 1), .ref (V.2.2.1 + 2), .ref (V.2.2.1 + 7), .ref (V.2.2.1 + 11), .ref (V.2.2.1 + 15), .ref (V.2.2.1 + 22), .ref (V.2.2.1 + 29), .ref (V.2.2.1 + 30), .int 0, .ref (V.2.2.1 + 31), .ref (V.2.2.1 + 35), .ref (V.2.2.1 + 36), .ref (V.2.2.1 + 47), .null]), .inl (V.2.1 4, 4, .inr (.inr (.inr (.inr (fun _ => none))))), z_2 V, z_3 V, z_4 V, z_5 V, z_6 V, z_7 V, z_8 V, z_9 V, z_10 V, z_11 V, z_12 V, z_13 V, z_14 V, z_15 V, z_16 V, z_17 V, z_18 V, z_19 V, z_20 V, z_21 V, z_22 V, z_23 V, z_24 V, z_25 V, z_26 V, z_27 V, z_28 V, .inl (V.2.1 5, 3, .inr (.inr (.inr (.inr (fun _ => none))))), .inl (V.2.1 6, 3, .inr (.inr (.inr (.inr (fun _ => none))))), z_31 V, z_32 V, z_33 V, z_34 V, z_35 V, z_36 V, z_37 V, z_38 V, z_39 V, z_40 V, z_41 V, z_42 V, z_43 V, z_44 V, z_45 V, z_46 V, z_47 V, z_48 V, .inr (3, [.ref (V.2.2.1 + 50), .int 0, .int 0, .int 0, .int 0, .int 0, .int 0, .int 0, .int 0]), .inl (V.2.1 0, 60, .inl (fun _ => 0))] X k_fl_X5_34 (dcl_Li 6 (by decide)) rfl rfl rfl (by decide) rfl dX5_init_39 ?_
  refine c_aload_n (pc := 42) X.1 0 rfl dX5_init_42 ?_
  refine c_iconst (v := 0) (pc := 43) X.1 rfl dX5_init_43 ?_
  refine c_put (k := 49) (pc := 44) [.inr (8, [.int 0, .long 0, .long 1, .ref (V.2.2.1 + 1), .ref (V.2.2.1 + 2), .ref (V.2.2.1 + 7), .ref (V.2.2.1 + 11), .ref (V.2.2.1 + 15), .ref (V.2.2.1 + 22), .ref (V.2.2.1 + 29), .ref (V.2.2.1 + 30), .int 0, .ref (V.2.2.1 + 31), .ref (V.2.2.1 + 35), .ref (V.2.2.1 + 36), .ref (V.2.2.1 + 47), .null]), .inl (V.2.1 4, 4, .inr (.inr (.inr (.inr (fun _ => none))))), z_2 V, z_3 V, z_4 V, z_5 V, z_6 V, z_7 V, z_8 V, z_9 V, z_10 V, z_11 V, z_12 V, z_13 V, z_14 V, z_15 V, z_16 V, z_17 V, z_18 V, z_19 V, z_20 V, z_21 V, z_22 V, z_23 V, z_24 V, z_25 V, z_26 V, z_27 V, z_28 V, .inl (V.2.1 5, 3, .inr (.inr (.inr (.inr (fun _ => none))))), .inl (V.2.1 6, 3, .inr (.inr (.inr (.inr (fun _ => none))))), z_31 V, z_32 V, z_33 V, z_34 V, z_35 V, z_36 V, z_37 V, z_38 V, z_39 V, z_40 V, z_41 V, z_42 V, z_43 V, z_44 V, z_45 V, z_46 V, z_47 V, z_48 V, .inr (3, [.ref (V.2.2.1 + 50), .int 0, .int 0, .int 0, .int 0, .int 0, .int 0, .int 0, .int 0]), .inl (V.2.1 0, 60, .inl (fun _ => 0))] X k_fl_X5_37 (dcl_Li 7 (by decide)) rfl (by decide +kernel) (by decide +kernel) (by decide) rfl dX5_init_44 ?_
  refine c_aload_n (pc := 47) X.1 0 rfl dX5_init_47 ?_
  refine c_iconst (v := 0) (pc := 48) X.1 rfl dX5_init_48 ?_
  refine c_put (k := 49) (pc := 49) [.inr (8, [.int 0, .long 0, .long 1, .ref (V.2.2.1 + 1), .ref (V.2.2.1 + 2), .ref (V.2.2.1 + 7), .ref (V.2.2.1 + 11), .ref (V.2.2.1 + 15), .ref (V.2.2.1 + 22), .ref (V.2.2.1 + 29), .ref (V.2.2.1 + 30), .int 0, .ref (V.2.2.1 + 31), .ref (V.2.2.1 + 35), .ref (V.2.2.1 + 36), .ref (V.2.2.1 + 47), .null]), .inl (V.2.1 4, 4, .inr (.inr (.inr (.inr (fun _ => none))))), z_2 V, z_3 V, z_4 V, z_5 V, z_6 V, z_7 V, z_8 V, z_9 V, z_10 V, z_11 V, z_12 V, z_13 V, z_14 V, z_15 V, z_16 V, z_17 V, z_18 V, z_19 V, z_20 V, z_21 V, z_22 V, z_23 V, z_24 V, z_25 V, z_26 V, z_27 V, z_28 V, .inl (V.2.1 5, 3, .inr (.inr (.inr (.inr (fun _ => none))))), .inl (V.2.1 6, 3, .inr (.inr (.inr (.inr (fun _ => none))))), z_31 V, z_32 V, z_33 V, z_34 V, z_35 V, z_36 V, z_37 V, z_38 V, z_39 V, z_40 V, z_41 V, z_42 V, z_43 V, z_44 V, z_45 V, z_46 V, z_47 V, z_48 V, .inr (3, [.ref (V.2.2.1 + 50), .int 0, .int 0, .int 0, .int 0, .int 0, .int 0, .int 0, .int 0]), .inl (V.2.1 0, 60, .inl (fun _ => 0))] X k_fl_X5_40 (dcl_Li 8 (by decide)) rfl rfl rfl (by decide) rfl dX5_init_49 ?_
  exact c_vret (pc := 52) X.1 rfl rfl dX5_init_52
def z_51 (V : Ev) : va_E := .inr (6, [.ref (V.2.2.1 + 52), .int 0, .int (-1)])
def z_52 (V : Ev) : va_E := .inl (V.2.1 1, 60, .inr (.inl (fun _ => 0)))
set_option maxRecDepth 100000 in
set_option maxHeartbeats 4000000 in
theorem size {V : Ev} : Rc V 1 M_X9_init [.ref (V.2.2.1 + 51)] [.inr (8, [.int 0, .long 0, .long 1, .ref (V.2.2.1 + 1), .ref (V.2.2.1 + 2), .ref (V.2.2.1 + 7), .ref (V.2.2.1 + 11), .ref (V.2.2.1 + 15), .ref (V.2.2.1 + 22), .ref (V.2.2.1 + 29), .ref (V.2.2.1 + 30), .int 0, .ref (V.2.2.1 + 31), .ref (V.2.2.1 + 35), .ref (V.2.2.1 + 36), .ref (V.2.2.1 + 47), .ref (V.2.2.1 + 49)]), .inl (V.2.1 4, 4, .inr (.inr (.inr (.inr (fun _ => none))))), z_2 V, z_3 V, z_4 V, z_5 V, z_6 V, z_7 V, z_8 V, z_9 V, z_10 V, z_11 V, z_12 V, z_13 V, z_14 V, z_15 V, z_16 V, z_17 V, z_18 V, z_19 V, z_20 V, z_21 V, z_22 V, z_23 V, z_24 V, z_25 V, z_26 V, z_27 V, z_28 V, .inl (V.2.1 5, 3, .inr (.inr (.inr (.inr (fun _ => none))))), .inl (V.2.1 6, 3, .inr (.inr (.inr (.inr (fun _ => none))))), z_31 V, z_32 V, z_33 V, z_34 V, z_35 V, z_36 V, z_37 V, z_38 V, z_39 V, z_40 V, z_41 V, z_42 V, z_43 V, z_44 V, z_45 V, z_46 V, z_47 V, z_48 V, z_49 V, z_50 V, .inr (6, [.null, .int 0, .int 0])] [.inr (8, [.int 0, .long 0, .long 1, .ref (V.2.2.1 + 1), .ref (V.2.2.1 + 2), .ref (V.2.2.1 + 7), .ref (V.2.2.1 + 11), .ref (V.2.2.1 + 15), .ref (V.2.2.1 + 22), .ref (V.2.2.1 + 29), .ref (V.2.2.1 + 30), .int 0, .ref (V.2.2.1 + 31), .ref (V.2.2.1 + 35), .ref (V.2.2.1 + 36), .ref (V.2.2.1 + 47), .ref (V.2.2.1 + 49)]), .inl (V.2.1 4, 4, .inr (.inr (.inr (.inr (fun _ => none))))), z_2 V, z_3 V, z_4 V, z_5 V, z_6 V, z_7 V, z_8 V, z_9 V, z_10 V, z_11 V, z_12 V, z_13 V, z_14 V, z_15 V, z_16 V, z_17 V, z_18 V, z_19 V, z_20 V, z_21 V, z_22 V, z_23 V, z_24 V, z_25 V, z_26 V, z_27 V, z_28 V, .inl (V.2.1 5, 3, .inr (.inr (.inr (.inr (fun _ => none))))), .inl (V.2.1 6, 3, .inr (.inr (.inr (.inr (fun _ => none))))), z_31 V, z_32 V, z_33 V, z_34 V, z_35 V, z_36 V, z_37 V, z_38 V, z_39 V, z_40 V, z_41 V, z_42 V, z_43 V, z_44 V, z_45 V, z_46 V, z_47 V, z_48 V, z_49 V, z_50 V, z_51 V, z_52 V] 1 60 := by
  refine Rc.of (by decide +kernel) rfl (Nat.le_of_ble_eq_true rfl) (fun Γ X => ?_)

  refine c_aload_n (pc := 0) X.1 0 rfl dX9_init_0 ?_
  refine c_objInit (pc := 1) X.1 k_oi_X9 k_oi2 k_oi3 (Nat.le_of_ble_eq_true rfl) (Nat.le_of_ble_eq_true rfl) dX9_init_1 ?_
  refine c_aload_n (pc := 4) X.1 0 rfl dX9_init_4 ?_
  refine c_bipush (v := 60) (pc := 5) X.1 (by decide) dX9_init_5 ?_
  refine c_newa (ty := .long) (N := 60) (ak := 1) (a0 := .inr (.inl (fun _ => 0))) (pc := 7) X.1 X.2.2 rfl k_arr_1 rfl (fun _ h => by cases h) rfl (fun _ => rfl) (by decide) (by decide) (Nat.le_of_ble_eq_true rfl) (Nat.le_of_ble_eq_true rfl) (Nat.le_of_ble_eq_true rfl) dX9_init_7 ?_
  refine c_put (k := 51) (pc := 9) [.inr (8, [.int 0, .long 0, .long 1, .ref (V.2.2.1 + 1), .ref (V.2.2.1 + 2), .ref (V.2.2.1 + 7), .ref (V.2.2.1 + 11), .ref (V.2.2.1 + 15), .ref (V.2.2.1 + 22), .ref (V.2.2.1 + 29), .ref (V.2.2.1 + 30), .int 0, .ref (V.2.2.1 + 31), .ref (V.2.2.1 + 35), .ref (V.2.2.1 + 36), .ref (V.2.2.1 + 47), .ref (V.2.2.1 + 49)]), .inl (V.2.1 4, 4, .inr (.inr (.inr (.inr (fun _ => none))))), z_2 V, z_3 V, z_4 V, z_5 V, z_6 V, z_7 V, z_8 V, z_9 V, z_10 V, z_11 V, z_12 V, z_13 V, z_14 V, z_15 V, z_16 V, z_17 V, z_18 V, z_19 V, z_20 V, z_21 V, z_22 V, z_23 V, z_24 V, z_25 V, z_26 V, z_27 V, z_28 V, .inl (V.2.1 5, 3, .inr (.inr (.inr (.inr (fun _ => none))))), .inl (V.2.1 6, 3, .inr (.inr (.inr (.inr (fun _ => none))))), z_31 V, z_32 V, z_33 V, z_34 V, z_35 V, z_36 V, z_37 V, z_38 V, z_39 V, z_40 V, z_41 V, z_42 V, z_43 V, z_44 V, z_45 V, z_46 V, z_47 V, z_48 V, z_49 V, z_50 V, .inr (6, [.ref (V.2.2.1 + 52), .int 0, .int 0]), .inl (V.2.1 1, 60, .inr (.inl (fun _ => 0)))] X k_fl_X9_9 (dcl_Ty 0 (by decide)) rfl rfl rfl (by decide) rfl dX9_init_9 ?_
  refine c_aload_n (pc := 12) X.1 0 rfl dX9_init_12 ?_
  refine c_iconst (v := 0) (pc := 13) X.1 rfl dX9_init_13 ?_
  refine c_put (k := 51) (pc := 14) [.inr (8, [.int 0, .long 0, .long 1, .ref (V.2.2.1 + 1), .ref (V.2.2.1 + 2), .ref (V.2.2.1 + 7), .ref (V.2.2.1 + 11), .ref (V.2.2.1 + 15), .ref (V.2.2.1 + 22), .ref (V.2.2.1 + 29), .ref (V.2.2.1 + 30), .int 0, .ref (V.2.2.1 + 31), .ref (V.2.2.1 + 35), .ref (V.2.2.1 + 36), .ref (V.2.2.1 + 47), .ref (V.2.2.1 + 49)]), .inl (V.2.1 4, 4, .inr (.inr (.inr (.inr (fun _ => none))))), z_2 V, z_3 V, z_4 V, z_5 V, z_6 V, z_7 V, z_8 V, z_9 V, z_10 V, z_11 V, z_12 V, z_13 V, z_14 V, z_15 V, z_16 V, z_17 V, z_18 V, z_19 V, z_20 V, z_21 V, z_22 V, z_23 V, z_24 V, z_25 V, z_26 V, z_27 V, z_28 V, .inl (V.2.1 5, 3, .inr (.inr (.inr (.inr (fun _ => none))))), .inl (V.2.1 6, 3, .inr (.inr (.inr (.inr (fun _ => none))))), z_31 V, z_32 V, z_33 V, z_34 V, z_35 V, z_36 V, z_37 V, z_38 V, z_39 V, z_40 V, z_41 V, z_42 V, z_43 V, z_44 V, z_45 V, z_46 V, z_47 V, z_48 V, z_49 V, z_50 V, .inr (6, [.ref (V.2.2.1 + 52), .int 0, .int 0]), .inl (V.2.1 1, 60, .inr (.inl (fun _ => 0)))] X k_fl_X9_15 (dcl_Ty 1 (by decide)) rfl rfl rfl (by decide) rfl dX9_init_14 ?_
  refine c_aload_n (pc := 17) X.1 0 rfl dX9_init_17 ?_
  refine c_iconst (v := (-1)) (pc := 18) X.1 rfl dX9_init_18 ?_
  refine c_put (k := 51) (pc := 19) [.inr (8, [.int 0, .long 0, .long 1, .ref (V.2.2.1 + 1), .ref (V.2.2.1 + 2), .ref (V.2.2.1 + 7), .ref (V.2.2.1 + 11), .ref (V.2.2.1 + 15), .ref (V.2.2.1 + 22), .ref (V.2.2.1 + 29), .ref (V.2.2.1 + 30), .int 0, .ref (V.2.2.1 + 31), .ref (V.2.2.1 + 35), .ref (V.2.2.1 + 36), .ref (V.2.2.1 + 47), .ref (V.2.2.1 + 49)]), .inl (V.2.1 4, 4, .inr (.inr (.inr (.inr (fun _ => none))))), z_2 V, z_3 V, z_4 V, z_5 V, z_6 V, z_7 V, z_8 V, z_9 V, z_10 V, z_11 V, z_12 V, z_13 V, z_14 V, z_15 V, z_16 V, z_17 V, z_18 V, z_19 V, z_20 V, z_21 V, z_22 V, z_23 V, z_24 V, z_25 V, z_26 V, z_27 V, z_28 V, .inl (V.2.1 5, 3, .inr (.inr (.inr (.inr (fun _ => none))))), .inl (V.2.1 6, 3, .inr (.inr (.inr (.inr (fun _ => none))))), z_31 V, z_32 V, z_33 V, z_34 V, z_35 V, z_36 V, z_37 V, z_38 V, z_39 V, z_40 V, z_41 V, z_42 V, z_43 V, z_44 V, z_45 V, z_46 V, z_47 V, z_48 V, z_49 V, z_50 V, .inr (6, [.ref (V.2.2.1 + 52), .int 0, .int (-1)]), .inl (V.2.1 1, 60, .inr (.inl (fun _ => 0)))] X k_fl_X9_19 (dcl_Ty 2 (by decide)) rfl rfl rfl (by decide) rfl dX9_init_19 ?_
  exact c_vret (pc := 22) X.1 rfl rfl dX9_init_22
def z_53 (V : Ev) : va_E := .inr (6, [.ref (V.2.2.1 + 54), .int 0, .int (-1)])
def z_54 (V : Ev) : va_E := .inl (V.2.1 1, 60, .inr (.inl (fun _ => 0)))
set_option maxRecDepth 100000 in
set_option maxHeartbeats 4000000 in
theorem size {V : Ev} : Rc V 1 M_X9_init [.ref (V.2.2.1 + 53)] [.inr (8, [.int 0, .long 0, .long 1, .ref (V.2.2.1 + 1), .ref (V.2.2.1 + 2), .ref (V.2.2.1 + 7), .ref (V.2.2.1 + 11), .ref (V.2.2.1 + 15), .ref (V.2.2.1 + 22), .ref (V.2.2.1 + 29), .ref (V.2.2.1 + 30), .int 0, .ref (V.2.2.1 + 31), .ref (V.2.2.1 + 35), .ref (V.2.2.1 + 36), .ref (V.2.2.1 + 47), .ref (V.2.2.1 + 49)]), .inl (V.2.1 4, 4, .inr (.inr (.inr (.inr (va_up (fun _ => none) (tn 0) (some (V.2.2.1 + 51))))))), z_2 V, z_3 V, z_4 V, z_5 V, z_6 V, z_7 V, z_8 V, z_9 V, z_10 V, z_11 V, z_12 V, z_13 V, z_14 V, z_15 V, z_16 V, z_17 V, z_18 V, z_19 V, z_20 V, z_21 V, z_22 V, z_23 V, z_24 V, z_25 V, z_26 V, z_27 V, z_28 V, .inl (V.2.1 5, 3, .inr (.inr (.inr (.inr (fun _ => none))))), .inl (V.2.1 6, 3, .inr (.inr (.inr (.inr (fun _ => none))))), z_31 V, z_32 V, z_33 V, z_34 V, z_35 V, z_36 V, z_37 V, z_38 V, z_39 V, z_40 V, z_41 V, z_42 V, z_43 V, z_44 V, z_45 V, z_46 V, z_47 V, z_48 V, z_49 V, z_50 V, z_51 V, z_52 V, .inr (6, [.null, .int 0, .int 0])] [.inr (8, [.int 0, .long 0, .long 1, .ref (V.2.2.1 + 1), .ref (V.2.2.1 + 2), .ref (V.2.2.1 + 7), .ref (V.2.2.1 + 11), .ref (V.2.2.1 + 15), .ref (V.2.2.1 + 22), .ref (V.2.2.1 + 29), .ref (V.2.2.1 + 30), .int 0, .ref (V.2.2.1 + 31), .ref (V.2.2.1 + 35), .ref (V.2.2.1 + 36), .ref (V.2.2.1 + 47), .ref (V.2.2.1 + 49)]), .inl (V.2.1 4, 4, .inr (.inr (.inr (.inr (va_up (fun _ => none) (tn 0) (some (V.2.2.1 + 51))))))), z_2 V, z_3 V, z_4 V, z_5 V, z_6 V, z_7 V, z_8 V, z_9 V, z_10 V, z_11 V, z_12 V, z_13 V, z_14 V, z_15 V, z_16 V, z_17 V, z_18 V, z_19 V, z_20 V, z_21 V, z_22 V, z_23 V, z_24 V, z_25 V, z_26 V, z_27 V, z_28 V, .inl (V.2.1 5, 3, .inr (.inr (.inr (.inr (fun _ => none))))), .inl (V.2.1 6, 3, .inr (.inr (.inr (.inr (fun _ => none))))), z_31 V, z_32 V, z_33 V, z_34 V, z_35 V, z_36 V, z_37 V, z_38 V, z_39 V, z_40 V, z_41 V, z_42 V, z_43 V, z_44 V, z_45 V, z_46 V, z_47 V, z_48 V, z_49 V, z_50 V, z_51 V, z_52 V, z_53 V, z_54 V] 1 60 := by
  refine Rc.of (by decide +kernel) rfl (Nat.le_of_ble_eq_true rfl) (fun Γ X => ?_)

  refine c_aload_n (pc := 0) X.1 0 rfl dX9_init_0 ?_
  refine c_objInit (pc := 1) X.1 k_oi_X9 k_oi2 k_oi3 (Nat.le_of_ble_eq_true rfl) (Nat.le_of_ble_eq_true rfl) dX9_init_1 ?_
  refine c_aload_n (pc := 4) X.1 0 rfl dX9_init_4 ?_
  refine c_bipush (v := 60) (pc := 5) X.1 (by decide) dX9_init_5 ?_
  refine c_newa (ty := .long) (N := 60) (ak := 1) (a0 := .inr (.inl (fun _ => 0))) (pc := 7) X.1 X.2.2 rfl k_arr_1 rfl (fun _ h => by cases h) rfl (fun _ => rfl) (by decide) (by decide) (Nat.le_of_ble_eq_true rfl) (Nat.le_of_ble_eq_true rfl) (Nat.le_of_ble_eq_true rfl) dX9_init_7 ?_
  refine c_put (k := 53) (pc := 9) [.inr (8, [.int 0, .long 0, .long 1, .ref (V.2.2.1 + 1), .ref (V.2.2.1 + 2), .ref (V.2.2.1 + 7), .ref (V.2.2.1 + 11), .ref (V.2.2.1 + 15), .ref (V.2.2.1 + 22), .ref (V.2.2.1 + 29), .ref (V.2.2.1 + 30), .int 0, .ref (V.2.2.1 + 31), .ref (V.2.2.1 + 35), .ref (V.2.2.1 + 36), .ref (V.2.2.1 + 47), .ref (V.2.2.1 + 49)]), .inl (V.2.1 4, 4, .inr (.inr (.inr (.inr (va_up (fun _ => none) (tn 0) (some (V.2.2.1 + 51))))))), z_2 V, z_3 V, z_4 V, z_5 V, z_6 V, z_7 V, z_8 V, z_9 V, z_10 V, z_11 V, z_12 V, z_13 V, z_14 V, z_15 V, z_16 V, z_17 V, z_18 V, z_19 V, z_20 V, z_21 V, z_22 V, z_23 V, z_24 V, z_25 V, z_26 V, z_27 V, z_28 V, .inl (V.2.1 5, 3, .inr (.inr (.inr (.inr (fun _ => none))))), .inl (V.2.1 6, 3, .inr (.inr (.inr (.inr (fun _ => none))))), z_31 V, z_32 V, z_33 V, z_34 V, z_35 V, z_36 V, z_37 V, z_38 V, z_39 V, z_40 V, z_41 V, z_42 V, z_43 V, z_44 V, z_45 V, z_46 V, z_47 V, z_48 V, z_49 V, z_50 V, z_51 V, z_52 V, .inr (6, [.ref (V.2.2.1 + 54), .int 0, .int 0]), .inl (V.2.1 1, 60, .inr (.inl (fun _ => 0)))] X k_fl_X9_9 (dcl_Ty 0 (by decide)) rfl rfl rfl (by decide) rfl dX9_init_9 ?_
  refine c_aload_n (pc := 12) X.1 0 rfl dX9_init_12 ?_
  refine c_iconst (v := 0) (pc := 13) X.1 rfl dX9_init_13 ?_
  refine c_put (k := 53) (pc := 14) [.inr (8, [.int 0, .long 0, .long 1, .ref (V.2.2.1 + 1), .ref (V.2.2.1 + 2), .ref (V.2.2.1 + 7), .ref (V.2.2.1 + 11), .ref (V.2.2.1 + 15), .ref (V.2.2.1 + 22), .ref (V.2.2.1 + 29), .ref (V.2.2.1 + 30), .int 0, .ref (V.2.2.1 + 31), .ref (V.2.2.1 + 35), .ref (V.2.2.1 + 36), .ref (V.2.2.1 + 47), .ref (V.2.2.1 + 49)]), .inl (V.2.1 4, 4, .inr (.inr (.inr (.inr (va_up (fun _ => none) (tn 0) (some (V.2.2.1 + 51))))))), z_2 V, z_3 V, z_4 V, z_5 V, z_6 V, z_7 V, z_8 V, z_9 V, z_10 V, z_11 V, z_12 V, z_13 V, z_14 V, z_15 V, z_16 V, z_17 V, z_18 V, z_19 V, z_20 V, z_21 V, z_22 V, z_23 V, z_24 V, z_25 V, z_26 V, z_27 V, z_28 V, .inl (V.2.1 5, 3, .inr (.inr (.inr (.inr (fun _ => none))))), .inl (V.2.1 6, 3, .inr (.inr (.inr (.inr (fun _ => none))))), z_31 V, z_32 V, z_33 V, z_34 V, z_35 V, z_36 V, z_37 V, z_38 V, z_39 V, z_40 V, z_41 V, z_42 V, z_43 V, z_44 V, z_45 V, z_46 V, z_47 V, z_48 V, z_49 V, z_50 V, z_51 V, z_52 V, .inr (6, [.ref (V.2.2.1 + 54), .int 0, .int 0]), .inl (V.2.1 1, 60, .inr (.inl (fun _ => 0)))] X k_fl_X9_15 (dcl_Ty 1 (by decide)) rfl rfl rfl (by decide) rfl dX9_init_14 ?_
  refine c_aload_n (pc := 17) X.1 0 rfl dX9_init_17 ?_
  refine c_iconst (v := (-1)) (pc := 18) X.1 rfl dX9_init_18 ?_
  refine c_put (k := 53) (pc := 19) [.inr (8, [.int 0, .long 0, .long 1, .ref (V.2.2.1 + 1), .ref (V.2.2.1 + 2), .ref (V.2.2.1 + 7), .ref (V.2.2.1 + 11), .ref (V.2.2.1 + 15), .ref (V.2.2.1 + 22), .ref (V.2.2.1 + 29), .ref (V.2.2.1 + 30), .int 0, .ref (V.2.2.1 + 31), .ref (V.2.2.1 + 35), .ref (V.2.2.1 + 36), .ref (V.2.2.1 + 47), .ref (V.2.2.1 + 49)]), .inl (V.2.1 4, 4, .inr (.inr (.inr (.inr (va_up (fun _ => none) (tn 0) (some (V.2.2.1 + 51))))))), z_2 V, z_3 V, z_4 V, z_5 V, z_6 V, z_7 V, z_8 V, z_9 V, z_10 V, z_11 V, z_12 V, z_13 V, z_14 V, z_15 V, z_16 V, z_17 V, z_18 V, z_19 V, z_20 V, z_21 V, z_22 V, z_23 V, z_24 V, z_25 V, z_26 V, z_27 V, z_28 V, .inl (V.2.1 5, 3, .inr (.inr (.inr (.inr (fun _ => none))))), .inl (V.2.1 6, 3, .inr (.inr (.inr (.inr (fun _ => none))))), z_31 V, z_32 V, z_33 V, z_34 V, z_35 V, z_36 V, z_37 V, z_38 V, z_39 V, z_40 V, z_41 V, z_42 V, z_43 V, z_44 V, z_45 V, z_46 V, z_47 V, z_48 V, z_49 V, z_50 V, z_51 V, z_52 V, .inr (6, [.ref (V.2.2.1 + 54), .int 0, .int (-1)]), .inl (V.2.1 1, 60, .inr (.inl (fun _ => 0)))] X k_fl_X9_19 (dcl_Ty 2 (by decide)) rfl rfl rfl (by decide) rfl dX9_init_19 ?_
  exact c_vret (pc := 22) X.1 rfl rfl dX9_init_22
def z_55 (V : Ev) : va_E := .inr (6, [.ref (V.2.2.1 + 56), .int 0, .int (-1)])
def z_56 (V : Ev) : va_E := .inl (V.2.1 1, 60, .inr (.inl (fun _ => 0)))
set_option maxRecDepth 100000 in
set_option maxHeartbeats 4000000 in
theorem size {V : Ev} : Rc V 1 M_X9_init [.ref (V.2.2.1 + 55)] [.inr (8, [.int 0, .long 0, .long 1, .ref (V.2.2.1 + 1), .ref (V.2.2.1 + 2), .ref (V.2.2.1 + 7), .ref (V.2.2.1 + 11), .ref (V.2.2.1 + 15), .ref (V.2.2.1 + 22), .ref (V.2.2.1 + 29), .ref (V.2.2.1 + 30), .int 0, .ref (V.2.2.1 + 31), .ref (V.2.2.1 + 35), .ref (V.2.2.1 + 36), .ref (V.2.2.1 + 47), .ref (V.2.2.1 + 49)]), .inl (V.2.1 4, 4, .inr (.inr (.inr (.inr (va_up (va_up (fun _ => none) (tn 0) (some (V.2.2.1 + 51))) (tn 1) (some (V.2.2.1 + 53))))))), z_2 V, z_3 V, z_4 V, z_5 V, z_6 V, z_7 V, z_8 V, z_9 V, z_10 V, z_11 V, z_12 V, z_13 V, z_14 V, z_15 V, z_16 V, z_17 V, z_18 V, z_19 V, z_20 V, z_21 V, z_22 V, z_23 V, z_24 V, z_25 V, z_26 V, z_27 V, z_28 V, .inl (V.2.1 5, 3, .inr (.inr (.inr (.inr (fun _ => none))))), .inl (V.2.1 6, 3, .inr (.inr (.inr (.inr (fun _ => none))))), z_31 V, z_32 V, z_33 V, z_34 V, z_35 V, z_36 V, z_37 V, z_38 V, z_39 V, z_40 V, z_41 V, z_42 V, z_43 V, z_44 V, z_45 V, z_46 V, z_47 V, z_48 V, z_49 V, z_50 V, z_51 V, z_52 V, z_53 V, z_54 V, .inr (6, [.null, .int 0, .int 0])] [.inr (8, [.int 0, .long 0, .long 1, .ref (V.2.2.1 + 1), .ref (V.2.2.1 + 2), .ref (V.2.2.1 + 7), .ref (V.2.2.1 + 11), .ref (V.2.2.1 + 15), .ref (V.2.2.1 + 22), .ref (V.2.2.1 + 29), .ref (V.2.2.1 + 30), .int 0, .ref (V.2.2.1 + 31), .ref (V.2.2.1 + 35), .ref (V.2.2.1 + 36), .ref (V.2.2.1 + 47), .ref (V.2.2.1 + 49)]), .inl (V.2.1 4, 4, .inr (.inr (.inr (.inr (va_up (va_up (fun _ => none) (tn 0) (some (V.2.2.1 + 51))) (tn 1) (some (V.2.2.1 + 53))))))), z_2 V, z_3 V, z_4 V, z_5 V, z_6 V, z_7 V, z_8 V, z_9 V, z_10 V, z_11 V, z_12 V, z_13 V, z_14 V, z_15 V, z_16 V, z_17 V, z_18 V, z_19 V, z_20 V, z_21 V, z_22 V, z_23 V, z_24 V, z_25 V, z_26 V, z_27 V, z_28 V, .inl (V.2.1 5, 3, .inr (.inr (.inr (.inr (fun _ => none))))), .inl (V.2.1 6, 3, .inr (.inr (.inr (.inr (fun _ => none))))), z_31 V, z_32 V, z_33 V, z_34 V, z_35 V, z_36 V, z_37 V, z_38 V, z_39 V, z_40 V, z_41 V, z_42 V, z_43 V, z_44 V, z_45 V, z_46 V, z_47 V, z_48 V, z_49 V, z_50 V, z_51 V, z_52 V, z_53 V, z_54 V, z_55 V, z_56 V] 1 60 := by
  refine Rc.of (by decide +kernel) rfl (Nat.le_of_ble_eq_true rfl) (fun Γ X => ?_)

  refine c_aload_n (pc := 0) X.1 0 rfl dX9_init_0 ?_
  refine c_objInit (pc := 1) X.1 k_oi_X9 k_oi2 k_oi3 (Nat.le_of_ble_eq_true rfl) (Nat.le_of_ble_eq_true rfl) dX9_init_1 ?_
  refine c_aload_n (pc := 4) X.1 0 rfl dX9_init_4 ?_
  refine c_bipush (v := 60) (pc := 5) X.1 (by decide) dX9_init_5 ?_
  refine c_newa (ty := .long) (N := 60) (ak := 1) (a0 := .inr (.inl (fun _ => 0))) (pc := 7) X.1 X.2.2 rfl k_arr_1 rfl (fun _ h => by cases h) rfl (fun _ => rfl) (by decide) (by decide) (Nat.le_of_ble_eq_true rfl) (Nat.le_of_ble_eq_true rfl) (Nat.le_of_ble_eq_true rfl) dX9_init_7 ?_
  refine c_put (k := 55) (pc := 9) [.inr (8, [.int 0, .long 0, .long 1, .ref (V.2.2.1 + 1), .ref (V.2.2.1 + 2), .ref (V.2.2.1 + 7), .ref (V.2.2.1 + 11), .ref (V.2.2.1 + 15), .ref (V.2.2.1 + 22), .ref (V.2.2.1 + 29), .ref (V.2.2.1 + 30), .int 0, .ref (V.2.2.1 + 31), .ref (V.2.2.1 + 35), .ref (V.2.2.1 + 36), .ref (V.2.2.1 + 47), .ref (V.2.2.1 + 49)]), .inl (V.2.1 4, 4, .inr (.inr (.inr (.inr (va_up (va_up (fun _ => none) (tn 0) (some (V.2.2.1 + 51))) (tn 1) (some (V.2.2.1 + 53))))))), z_2 V, z_3 V, z_4 V, z_5 V, z_6 V, z_7 V, z_8 V, z_9 V, z_10 V, z_11 V, z_12 V, z_13 V, z_14 V, z_15 V, z_16 V, z_17 V, z_18 V, z_19 V, z_20 V, z_21 V, z_22 V, z_23 V, z_24 V, z_25 V, z_26 V, z_27 V, z_28 V, .inl (V.2.1 5, 3, .inr (.inr (.inr (.inr (fun _ => none))))), .inl (V.2.1 6, 3, .inr (.inr (.inr (.inr (fun _ => none))))), z_31 V, z_32 V, z_33 V, z_34 V, z_35 V, z_36 V, z_37 V, z_38 V, z_39 V, z_40 V, z_41 V, z_42 V, z_43 V, z_44 V, z_45 V, z_46 V, z_47 V, z_48 V, z_49 V, z_50 V, z_51 V, z_52 V, z_53 V, z_54 V, .inr (6, [.ref (V.2.2.1 + 56), .int 0, .int 0]), .inl (V.2.1 1, 60, .inr (.inl (fun _ => 0)))] X k_fl_X9_9 (dcl_Ty 0 (by decide)) rfl rfl rfl (by decide) rfl dX9_init_9 ?_
  refine c_aload_n (pc := 12) X.1 0 rfl dX9_init_12 ?_
  refine c_iconst (v := 0) (pc := 13) X.1 rfl dX9_init_13 ?_
  refine c_put (k := 55) (pc := 14) [.inr (8, [.int 0, .long 0, .long 1, .ref (V.2.2.1 + 1), .ref (V.2.2.1 + 2), .ref (V.2.2.1 + 7), .ref (V.2.2.1 + 11), .ref (V.2.2.1 + 15), .ref (V.2.2.1 + 22), .ref (V.2.2.1 + 29), .ref (V.2.2.1 + 30), .int 0, .ref (V.2.2.1 + 31), .ref (V.2.2.1 + 35), .ref (V.2.2.1 + 36), .ref (V.2.2.1 + 47), .ref (V.2.2.1 + 49)]), .inl (V.2.1 4, 4, .inr (.inr (.inr (.inr (va_up (va_up (fun _ => none) (tn 0) (some (V.2.2.1 + 51))) (tn 1) (some (V.2.2.1 + 53))))))), z_2 V, z_3 V, z_4 V, z_5 V, z_6 V, z_7 V, z_8 V, z_9 V, z_10 V, z_11 V, z_12 V, z_13 V, z_14 V, z_15 V, z_16 V, z_17 V, z_18 V, z_19 V, z_20 V, z_21 V, z_22 V, z_23 V, z_24 V, z_25 V, z_26 V, z_27 V, z_28 V, .inl (V.2.1 5, 3, .inr (.inr (.inr (.inr (fun _ => none))))), .inl (V.2.1 6, 3, .inr (.inr (.inr (.inr (fun _ => none))))), z_31 V, z_32 V, z_33 V, z_34 V, z_35 V, z_36 V, z_37 V, z_38 V, z_39 V, z_40 V, z_41 V, z_42 V, z_43 V, z_44 V, z_45 V, z_46 V, z_47 V, z_48 V, z_49 V, z_50 V, z_51 V, z_52 V, z_53 V, z_54 V, .inr (6, [.ref (V.2.2.1 + 56), .int 0, .int 0]), .inl (V.2.1 1, 60, .inr (.inl (fun _ => 0)))] X k_fl_X9_15 (dcl_Ty 1 (by decide)) rfl rfl rfl (by decide) rfl dX9_init_14 ?_
  refine c_aload_n (pc := 17) X.1 0 rfl dX9_init_17 ?_
  refine c_iconst (v := (-1)) (pc := 18) X.1 rfl dX9_init_18 ?_
  refine c_put (k := 55) (pc := 19) [.inr (8, [.int 0, .long 0, .long 1, .ref (V.2.2.1 + 1), .ref (V.2.2.1 + 2), .ref (V.2.2.1 + 7), .ref (V.2.2.1 + 11), .ref (V.2.2.1 + 15), .ref (V.2.2.1 + 22), .ref (V.2.2.1 + 29), .ref (V.2.2.1 + 30), .int 0, .ref (V.2.2.1 + 31), .ref (V.2.2.1 + 35), .ref (V.2.2.1 + 36), .ref (V.2.2.1 + 47), .ref (V.2.2.1 + 49)]), .inl (V.2.1 4, 4, .inr (.inr (.inr (.inr (va_up (va_up (fun _ => none) (tn 0) (some (V.2.2.1 + 51))) (tn 1) (some (V.2.2.1 + 53))))))), z_2 V, z_3 V, z_4 V, z_5 V, z_6 V, z_7 V, z_8 V, z_9 V, z_10 V, z_11 V, z_12 V, z_13 V, z_14 V, z_15 V, z_16 V, z_17 V, z_18 V, z_19 V, z_20 V, z_21 V, z_22 V, z_23 V, z_24 V, z_25 V, z_26 V, z_27 V, z_28 V, .inl (V.2.1 5, 3, .inr (.inr (.inr (.inr (fun _ => none))))), .inl (V.2.1 6, 3, .inr (.inr (.inr (.inr (fun _ => none))))), z_31 V, z_32 V, z_33 V, z_34 V, z_35 V, z_36 V, z_37 V, z_38 V, z_39 V, z_40 V, z_41 V, z_42 V, z_43 V, z_44 V, z_45 V, z_46 V, z_47 V, z_48 V, z_49 V, z_50 V, z_51 V, z_52 V, z_53 V, z_54 V, .inr (6, [.ref (V.2.2.1 + 56), .int 0, .int (-1)]), .inl (V.2.1 1, 60, .inr (.inl (fun _ => 0)))] X k_fl_X9_19 (dcl_Ty 2 (by decide)) rfl rfl rfl (by decide) rfl dX9_init_19 ?_
  exact c_vret (pc := 22) X.1 rfl rfl dX9_init_22
def z_57 (V : Ev) : va_E := .inr (6, [.ref (V.2.2.1 + 58), .int 0, .int (-1)])
def z_58 (V : Ev) : va_E := .inl (V.2.1 1, 60, .inr (.inl (fun _ => 0)))
set_option maxRecDepth 100000 in
set_option maxHeartbeats 4000000 in
theorem size {V : Ev} : Rc V 1 M_X9_init [.ref (V.2.2.1 + 57)] [.inr (8, [.int 0, .long 0, .long 1, .ref (V.2.2.1 + 1), .ref (V.2.2.1 + 2), .ref (V.2.2.1 + 7), .ref (V.2.2.1 + 11), .ref (V.2.2.1 + 15), .ref (V.2.2.1 + 22), .ref (V.2.2.1 + 29), .ref (V.2.2.1 + 30), .int 0, .ref (V.2.2.1 + 31), .ref (V.2.2.1 + 35), .ref (V.2.2.1 + 36), .ref (V.2.2.1 + 47), .ref (V.2.2.1 + 49)]), .inl (V.2.1 4, 4, .inr (.inr (.inr (.inr (va_up (va_up (va_up (fun _ => none) (tn 0) (some (V.2.2.1 + 51))) (tn 1) (some (V.2.2.1 + 53))) (tn 2) (some (V.2.2.1 + 55))))))), z_2 V, z_3 V, z_4 V, z_5 V, z_6 V, z_7 V, z_8 V, z_9 V, z_10 V, z_11 V, z_12 V, z_13 V, z_14 V, z_15 V, z_16 V, z_17 V, z_18 V, z_19 V, z_20 V, z_21 V, z_22 V, z_23 V, z_24 V, z_25 V, z_26 V, z_27 V, z_28 V, .inl (V.2.1 5, 3, .inr (.inr (.inr (.inr (fun _ => none))))), .inl (V.2.1 6, 3, .inr (.inr (.inr (.inr (fun _ => none))))), z_31 V, z_32 V, z_33 V, z_34 V, z_35 V, z_36 V, z_37 V, z_38 V, z_39 V, z_40 V, z_41 V, z_42 V, z_43 V, z_44 V, z_45 V, z_46 V, z_47 V, z_48 V, z_49 V, z_50 V, z_51 V, z_52 V, z_53 V, z_54 V, z_55 V, z_56 V, .inr (6, [.null, .int 0, .int 0])] [.inr (8, [.int 0, .long 0, .long 1, .ref (V.2.2.1 + 1), .ref (V.2.2.1 + 2), .ref (V.2.2.1 + 7), .ref (V.2.2.1 + 11), .ref (V.2.2.1 + 15), .ref (V.2.2.1 + 22), .ref (V.2.2.1 + 29), .ref (V.2.2.1 + 30), .int 0, .ref (V.2.2.1 + 31), .ref (V.2.2.1 + 35), .ref (V.2.2.1 + 36), .ref (V.2.2.1 + 47), .ref (V.2.2.1 + 49)]), .inl (V.2.1 4, 4, .inr (.inr (.inr (.inr (va_up (va_up (va_up (fun _ => none) (tn 0) (some (V.2.2.1 + 51))) (tn 1) (some (V.2.2.1 + 53))) (tn 2) (some (V.2.2.1 + 55))))))), z_2 V, z_3 V, z_4 V, z_5 V, z_6 V, z_7 V, z_8 V, z_9 V, z_10 V, z_11 V, z_12 V, z_13 V, z_14 V, z_15 V, z_16 V, z_17 V, z_18 V, z_19 V, z_20 V, z_21 V, z_22 V, z_23 V, z_24 V, z_25 V, z_26 V, z_27 V, z_28 V, .inl (V.2.1 5, 3, .inr (.inr (.inr (.inr (fun _ => none))))), .inl (V.2.1 6, 3, .inr (.inr (.inr (.inr (fun _ => none))))), z_31 V, z_32 V, z_33 V, z_34 V, z_35 V, z_36 V, z_37 V, z_38 V, z_39 V, z_40 V, z_41 V, z_42 V, z_43 V, z_44 V, z_45 V, z_46 V, z_47 V, z_48 V, z_49 V, z_50 V, z_51 V, z_52 V, z_53 V, z_54 V, z_55 V, z_56 V, z_57 V, z_58 V] 1 60 := by
  refine Rc.of (by decide +kernel) rfl (Nat.le_of_ble_eq_true rfl) (fun Γ X => ?_)

  refine c_aload_n (pc := 0) X.1 0 rfl dX9_init_0 ?_
  refine c_objInit (pc := 1) X.1 k_oi_X9 k_oi2 k_oi3 (Nat.le_of_ble_eq_true rfl) (Nat.le_of_ble_eq_true rfl) dX9_init_1 ?_
  refine c_aload_n (pc := 4) X.1 0 rfl dX9_init_4 ?_
  refine c_bipush (v := 60) (pc := 5) X.1 (by decide) dX9_init_5 ?_
  refine c_newa (ty := .long) (N := 60) (ak := 1) (a0 := .inr (.inl (fun _ => 0))) (pc := 7) X.1 X.2.2 rfl k_arr_1 rfl (fun _ h => by cases h) rfl (fun _ => rfl) (by decide) (by decide) (Nat.le_of_ble_eq_true rfl) (Nat.le_of_ble_eq_true rfl) (Nat.le_of_ble_eq_true rfl) dX9_init_7 ?_
  refine c_put (k := 57) (pc := 9) [.inr (8, [.int 0, .long 0, .long 1, .ref (V.2.2.1 + 1), .ref (V.2.2.1 + 2), .ref (V.2.2.1 + 7), .ref (V.2.2.1 + 11), .ref (V.2.2.1 + 15), .ref (V.2.2.1 + 22), .ref (V.2.2.1 + 29), .ref (V.2.2.1 + 30), .int 0, .ref (V.2.2.1 + 31), .ref (V.2.2.1 + 35), .ref (V.2.2.1 + 36), .ref (V.2.2.1 + 47), .ref (V.2.2.1 + 49)]), .inl (V.2.1 4, 4, .inr (.inr (.inr (.inr (va_up (va_up (va_up (fun _ => none) (tn 0) (some (V.2.2.1 + 51))) (tn 1) (some (V.2.2.1 + 53))) (tn 2) (some (V.2.2.1 + 55))))))), z_2 V, z_3 V, z_4 V, z_5 V, z_6 V, z_7 V, z_8 V, z_9 V, z_10 V, z_11 V, z_12 V, z_13 V, z_14 V, z_15 V, z_16 V, z_17 V, z_18 V, z_19 V, z_20 V, z_21 V, z_22 V, z_23 V, z_24 V, z_25 V, z_26 V, z_27 V, z_28 V, .inl (V.2.1 5, 3, .inr (.inr (.inr (.inr (fun _ => none))))), .inl (V.2.1 6, 3, .inr (.inr (.inr (.inr (fun _ => none))))), z_31 V, z_32 V, z_33 V, z_34 V, z_35 V, z_36 V, z_37 V, z_38 V, z_39 V, z_40 V, z_41 V, z_42 V, z_43 V, z_44 V, z_45 V, z_46 V, z_47 V, z_48 V, z_49 V, z_50 V, z_51 V, z_52 V, z_53 V, z_54 V, z_55 V, z_56 V, .inr (6, [.ref (V.2.2.1 + 58), .int 0, .int 0]), .inl (V.2.1 1, 60, .inr (.inl (fun _ => 0)))] X k_fl_X9_9 (dcl_Ty 0 (by decide)) rfl rfl rfl (by decide) rfl dX9_init_9 ?_
  refine c_aload_n (pc := 12) X.1 0 rfl dX9_init_12 ?_
  refine c_iconst (v := 0) (pc := 13) X.1 rfl dX9_init_13 ?_
  refine c_put (k := 57) (pc := 14) [.inr (8, [.int 0, .long 0, .long 1, .ref (V.2.2.1 + 1), .ref (V.2.2.1 + 2), .ref (V.2.2.1 + 7), .ref (V.2.2.1 + 11), .ref (V.2.2.1 + 15), .ref (V.2.2.1 + 22), .ref (V.2.2.1 + 29), .ref (V.2.2.1 + 30), .int 0, .ref (V.2.2.1 + 31), .ref (V.2.2.1 + 35), .ref (V.2.2.1 + 36), .ref (V.2.2.1 + 47), .ref (V.2.2.1 + 49)]), .inl (V.2.1 4, 4, .inr (.inr (.inr (.inr (va_up (va_up (va_up (fun _ => none) (tn 0) (some (V.2.2.1 + 51))) (tn 1) (some (V.2.2.1 + 53))) (tn 2) (some (V.2.2.1 + 55))))))), z_2 V, z_3 V, z_4 V, z_5 V, z_6 V, z_7 V, z_8 V, z_9 V, z_10 V, z_11 V, z_12 V, z_13 V, z_14 V, z_15 V, z_16 V, z_17 V, z_18 V, z_19 V, z_20 V, z_21 V, z_22 V, z_23 V, z_24 V, z_25 V, z_26 V, z_27 V, z_28 V, .inl (V.2.1 5, 3, .inr (.inr (.inr (.inr (fun _ => none))))), .inl (V.2.1 6, 3, .inr (.inr (.inr (.inr (fun _ => none))))), z_31 V, z_32 V, z_33 V, z_34 V, z_35 V, z_36 V, z_37 V, z_38 V, z_39 V, z_40 V, z_41 V, z_42 V, z_43 V, z_44 V, z_45 V, z_46 V, z_47 V, z_48 V, z_49 V, z_50 V, z_51 V, z_52 V, z_53 V, z_54 V, z_55 V, z_56 V, .inr (6, [.ref (V.2.2.1 + 58), .int 0, .int 0]), .inl (V.2.1 1, 60, .inr (.inl (fun _ => 0)))] X k_fl_X9_15 (dcl_Ty 1 (by decide)) rfl rfl rfl (by decide) rfl dX9_init_14 ?_
  refine c_aload_n (pc := 17) X.1 0 rfl dX9_init_17 ?_
  refine c_iconst (v := (-1)) (pc := 18) X.1 rfl dX9_init_18 ?_
  refine c_put (k := 57) (pc := 19) [.inr (8, [.int 0, .long 0, .long 1, .ref (V.2.2.1 + 1), .ref (V.2.2.1 + 2), .ref (V.2.2.1 + 7), .ref (V.2.2.1 + 11), .ref (V.2.2.1 + 15), .ref (V.2.2.1 + 22), .ref (V.2.2.1 + 29), .ref (V.2.2.1 + 30), .int 0, .ref (V.2.2.1 + 31), .ref (V.2.2.1 + 35), .ref (V.2.2.1 + 36), .ref (V.2.2.1 + 47), .ref (V.2.2.1 + 49)]), .inl (V.2.1 4, 4, .inr (.inr (.inr (.inr (va_up (va_up (va_up (fun _ => none) (tn 0) (some (V.2.2.1 + 51))) (tn 1) (some (V.2.2.1 + 53))) (tn 2) (some (V.2.2.1 + 55))))))), z_2 V, z_3 V, z_4 V, z_5 V, z_6 V, z_7 V, z_8 V, z_9 V, z_10 V, z_11 V, z_12 V, z_13 V, z_14 V, z_15 V, z_16 V, z_17 V, z_18 V, z_19 V, z_20 V, z_21 V, z_22 V, z_23 V, z_24 V, z_25 V, z_26 V, z_27 V, z_28 V, .inl (V.2.1 5, 3, .inr (.inr (.inr (.inr (fun _ => none))))), .inl (V.2.1 6, 3, .inr (.inr (.inr (.inr (fun _ => none))))), z_31 V, z_32 V, z_33 V, z_34 V, z_35 V, z_36 V, z_37 V, z_38 V, z_39 V, z_40 V, z_41 V, z_42 V, z_43 V, z_44 V, z_45 V, z_46 V, z_47 V, z_48 V, z_49 V, z_50 V, z_51 V, z_52 V, z_53 V, z_54 V, z_55 V, z_56 V, .inr (6, [.ref (V.2.2.1 + 58), .int 0, .int (-1)]), .inl (V.2.1 1, 60, .inr (.inl (fun _ => 0)))] X k_fl_X9_19 (dcl_Ty 2 (by decide)) rfl rfl rfl (by decide) rfl dX9_init_19 ?_
  exact c_vret (pc := 22) X.1 rfl rfl dX9_init_22
def z_59 (V : Ev) : va_E := .inr (1, [.ref (V.2.2.1 + 60), .ref (V.2.2.1 + 61), .ref (V.2.2.1 + 62), .int 0, .int 0, .int 4])
def z_60 (V : Ev) : va_E := .inl (V.2.1 0, 12, .inl (fun _ => 0))
def z_61 (V : Ev) : va_E := .inl (V.2.1 0, 12, .inl (fun _ => 0))
def z_62 (V : Ev) : va_E := .inl (V.2.1 1, 12, .inr (.inl (fun _ => 0)))
set_option maxRecDepth 100000 in
set_option maxHeartbeats 4000000 in
theorem odds {V : Ev} : Rc V 1 M_X1_init [.ref (V.2.2.1 + 59)] [.inr (8, [.int 0, .long 0, .long 1, .ref (V.2.2.1 + 1), .ref (V.2.2.1 + 2), .ref (V.2.2.1 + 7), .ref (V.2.2.1 + 11), .ref (V.2.2.1 + 15), .ref (V.2.2.1 + 22), .ref (V.2.2.1 + 29), .ref (V.2.2.1 + 30), .int 0, .ref (V.2.2.1 + 31), .ref (V.2.2.1 + 35), .ref (V.2.2.1 + 36), .ref (V.2.2.1 + 47), .ref (V.2.2.1 + 49)]), .inl (V.2.1 4, 4, .inr (.inr (.inr (.inr (va_up (va_up (va_up (va_up (fun _ => none) (tn 0) (some (V.2.2.1 + 51))) (tn 1) (some (V.2.2.1 + 53))) (tn 2) (some (V.2.2.1 + 55))) (tn 3) (some (V.2.2.1 + 57))))))), z_2 V, z_3 V, z_4 V, z_5 V, z_6 V, z_7 V, z_8 V, z_9 V, z_10 V, z_11 V, z_12 V, z_13 V, z_14 V, z_15 V, z_16 V, z_17 V, z_18 V, z_19 V, z_20 V, z_21 V, z_22 V, z_23 V, z_24 V, z_25 V, z_26 V, z_27 V, z_28 V, .inl (V.2.1 5, 3, .inr (.inr (.inr (.inr (fun _ => none))))), .inl (V.2.1 6, 3, .inr (.inr (.inr (.inr (fun _ => none))))), z_31 V, z_32 V, z_33 V, z_34 V, z_35 V, z_36 V, z_37 V, z_38 V, z_39 V, z_40 V, z_41 V, z_42 V, z_43 V, z_44 V, z_45 V, z_46 V, z_47 V, z_48 V, z_49 V, z_50 V, z_51 V, z_52 V, z_53 V, z_54 V, z_55 V, z_56 V, z_57 V, z_58 V, .inr (1, [.null, .null, .null, .int 0, .int 0, .int 0])] [.inr (8, [.int 0, .long 0, .long 1, .ref (V.2.2.1 + 1), .ref (V.2.2.1 + 2), .ref (V.2.2.1 + 7), .ref (V.2.2.1 + 11), .ref (V.2.2.1 + 15), .ref (V.2.2.1 + 22), .ref (V.2.2.1 + 29), .ref (V.2.2.1 + 30), .int 0, .ref (V.2.2.1 + 31), .ref (V.2.2.1 + 35), .ref (V.2.2.1 + 36), .ref (V.2.2.1 + 47), .ref (V.2.2.1 + 49)]), .inl (V.2.1 4, 4, .inr (.inr (.inr (.inr (va_up (va_up (va_up (va_up (fun _ => none) (tn 0) (some (V.2.2.1 + 51))) (tn 1) (some (V.2.2.1 + 53))) (tn 2) (some (V.2.2.1 + 55))) (tn 3) (some (V.2.2.1 + 57))))))), z_2 V, z_3 V, z_4 V, z_5 V, z_6 V, z_7 V, z_8 V, z_9 V, z_10 V, z_11 V, z_12 V, z_13 V, z_14 V, z_15 V, z_16 V, z_17 V, z_18 V, z_19 V, z_20 V, z_21 V, z_22 V, z_23 V, z_24 V, z_25 V, z_26 V, z_27 V, z_28 V, .inl (V.2.1 5, 3, .inr (.inr (.inr (.inr (fun _ => none))))), .inl (V.2.1 6, 3, .inr (.inr (.inr (.inr (fun _ => none))))), z_31 V, z_32 V, z_33 V, z_34 V, z_35 V, z_36 V, z_37 V, z_38 V, z_39 V, z_40 V, z_41 V, z_42 V, z_43 V, z_44 V, z_45 V, z_46 V, z_47 V, z_48 V, z_49 V, z_50 V, z_51 V, z_52 V, z_53 V, z_54 V, z_55 V, z_56 V, z_57 V, z_58 V, z_59 V, z_60 V, z_61 V, z_62 V] 3 36 := by
  refine Rc.of (by decide +kernel) rfl (Nat.le_of_ble_eq_true rfl) (fun Γ X => ?_)

  refine c_aload_n (pc := 0) X.1 0 rfl dX1_init_0 ?_
  refine c_objInit (pc := 1) X.1 k_oi_X1 k_oi2 k_oi3 (Nat.le_of_ble_eq_true rfl) (Nat.le_of_ble_eq_true rfl) dX1_init_1 ?_
  refine c_aload_n (pc := 4) X.1 0 rfl dX1_init_4 ?_
  refine c_bipush (v := 12) (pc := 5) X.1 (by decide) dX1_init_5 ?_
  refine c_newa (ty := .int) (N := 12) (ak := 0) (a0 := .inl (fun _ => 0)) (pc := 7) X.1 X.2.2 rfl k_arr_0 rfl (fun _ h => by cases h) rfl (fun _ => rfl) (by decide) (by decide) (Nat.le_of_ble_eq_true rfl) (Nat.le_of_ble_eq_true rfl) (Nat.le_of_ble_eq_true rfl) dX1_init_7 ?_
  refine c_put (k := 59) (pc := 9) [.inr (8, [.int 0, .long 0, .long 1, .ref (V.2.2.1 + 1), .ref (V.2.2.1 + 2), .ref (V.2.2.1 + 7), .ref (V.2.2.1 + 11), .ref (V.2.2.1 + 15), .ref (V.2.2.1 + 22), .ref (V.2.2.1 + 29), .ref (V.2.2.1 + 30), .int 0, .ref (V.2.2.1 + 31), .ref (V.2.2.1 + 35), .ref (V.2.2.1 + 36), .ref (V.2.2.1 + 47), .ref (V.2.2.1 + 49)]), .inl (V.2.1 4, 4, .inr (.inr (.inr (.inr (va_up (va_up (va_up (va_up (fun _ => none) (tn 0) (some (V.2.2.1 + 51))) (tn 1) (some (V.2.2.1 + 53))) (tn 2) (some (V.2.2.1 + 55))) (tn 3) (some (V.2.2.1 + 57))))))), z_2 V, z_3 V, z_4 V, z_5 V, z_6 V, z_7 V, z_8 V, z_9 V, z_10 V, z_11 V, z_12 V, z_13 V, z_14 V, z_15 V, z_16 V, z_17 V, z_18 V, z_19 V, z_20 V, z_21 V, z_22 V, z_23 V, z_24 V, z_25 V, z_26 V, z_27 V, z_28 V, .inl (V.2.1 5, 3, .inr (.inr (.inr (.inr (fun _ => none))))), .inl (V.2.1 6, 3, .inr (.inr (.inr (.inr (fun _ => none))))), z_31 V, z_32 V, z_33 V, z_34 V, z_35 V, z_36 V, z_37 V, z_38 V, z_39 V, z_40 V, z_41 V, z_42 V, z_43 V, z_44 V, z_45 V, z_46 V, z_47 V, z_48 V, z_49 V, z_50 V, z_51 V, z_52 V, z_53 V, z_54 V, z_55 V, z_56 V, z_57 V, z_58 V, .inr (1, [.ref (V.2.2.1 + 60), .null, .null, .int 0, .int 0, .int 0]), .inl (V.2.1 0, 12, .inl (fun _ => 0))] X k_fl_X1_9 (dcl_Cl 0 (by decide)) rfl rfl rfl (by decide) rfl dX1_init_9 ?_
  refine c_aload_n (pc := 12) X.1 0 rfl dX1_init_12 ?_
  refine c_bipush (v := 12) (pc := 13) X.1 (by decide) dX1_init_13 ?_
  refine c_newa (ty := .int) (N := 12) (ak := 0) (a0 := .inl (fun _ => 0)) (pc := 15) X.1 X.2.2 rfl k_arr_0 rfl (fun _ h => by cases h) rfl (fun _ => rfl) (by decide) (by decide) (Nat.le_of_ble_eq_true rfl) (Nat.le_of_ble_eq_true rfl) (Nat.le_of_ble_eq_true rfl) dX1_init_15 ?_
  refine c_put (k := 59) (pc := 17) [.inr (8, [.int 0, .long 0, .long 1, .ref (V.2.2.1 + 1), .ref (V.2.2.1 + 2), .ref (V.2.2.1 + 7), .ref (V.2.2.1 + 11), .ref (V.2.2.1 + 15), .ref (V.2.2.1 + 22), .ref (V.2.2.1 + 29), .ref (V.2.2.1 + 30), .int 0, .ref (V.2.2.1 + 31), .ref (V.2.2.1 + 35), .ref (V.2.2.1 + 36), .ref (V.2.2.1 + 47), .ref (V.2.2.1 + 49)]), .inl (V.2.1 4, 4, .inr (.inr (.inr (.inr (va_up (va_up (va_up (va_up (fun _ => none) (tn 0) (some (V.2.2.1 + 51))) (tn 1) (some (V.2.2.1 + 53))) (tn 2) (some (V.2.2.1 + 55))) (tn 3) (some (V.2.2.1 + 57))))))), z_2 V, z_3 V, z_4 V, z_5 V, z_6 V, z_7 V, z_8 V, z_9 V, z_10 V, z_11 V, z_12 V, z_13 V, z_14 V, z_15 V, z_16 V, z_17 V, z_18 V, z_19 V, z_20 V, z_21 V, z_22 V, z_23 V, z_24 V, z_25 V, z_26 V, z_27 V, z_28 V, .inl (V.2.1 5, 3, .inr (.inr (.inr (.inr (fun _ => none))))), .inl (V.2.1 6, 3, .inr (.inr (.inr (.inr (fun _ => none))))), z_31 V, z_32 V, z_33 V, z_34 V, z_35 V, z_36 V, z_37 V, z_38 V, z_39 V, z_40 V, z_41 V, z_42 V, z_43 V, z_44 V, z_45 V, z_46 V, z_47 V, z_48 V, z_49 V, z_50 V, z_51 V, z_52 V, z_53 V, z_54 V, z_55 V, z_56 V, z_57 V, z_58 V, .inr (1, [.ref (V.2.2.1 + 60), .ref (V.2.2.1 + 61), .null, .int 0, .int 0, .int 0]), .inl (V.2.1 0, 12, .inl (fun _ => 0)), .inl (V.2.1 0, 12, .inl (fun _ => 0))] X k_fl_X1_15 (dcl_Cl 1 (by decide)) rfl rfl rfl (by decide) rfl dX1_init_17 ?_
  refine c_aload_n (pc := 20) X.1 0 rfl dX1_init_20 ?_
  refine c_bipush (v := 12) (pc := 21) X.1 (by decide) dX1_init_21 ?_
  refine c_newa (ty := .long) (N := 12) (ak := 1) (a0 := .inr (.inl (fun _ => 0))) (pc := 23) X.1 X.2.2 rfl k_arr_1 rfl (fun _ h => by cases h) rfl (fun _ => rfl) (by decide) (by decide) (Nat.le_of_ble_eq_true rfl) (Nat.le_of_ble_eq_true rfl) (Nat.le_of_ble_eq_true rfl) dX1_init_23 ?_
  refine c_put (k := 59) (pc := 25) [.inr (8, [.int 0, .long 0, .long 1, .ref (V.2.2.1 + 1), .ref (V.2.2.1 + 2), .ref (V.2.2.1 + 7), .ref (V.2.2.1 + 11), .ref (V.2.2.1 + 15), .ref (V.2.2.1 + 22), .ref (V.2.2.1 + 29), .ref (V.2.2.1 + 30), .int 0, .ref (V.2.2.1 + 31), .ref (V.2.2.1 + 35), .ref (V.2.2.1 + 36), .ref (V.2.2.1 + 47), .ref (V.2.2.1 + 49)]), .inl (V.2.1 4, 4, .inr (.inr (.inr (.inr (va_up (va_up (va_up (va_up (fun _ => none) (tn 0) (some (V.2.2.1 + 51))) (tn 1) (some (V.2.2.1 + 53))) (tn 2) (some (V.2.2.1 + 55))) (tn 3) (some (V.2.2.1 + 57))))))), z_2 V, z_3 V, z_4 V, z_5 V, z_6 V, z_7 V, z_8 V, z_9 V, z_10 V, z_11 V, z_12 V, z_13 V, z_14 V, z_15 V, z_16 V, z_17 V, z_18 V, z_19 V, z_20 V, z_21 V, z_22 V, z_23 V, z_24 V, z_25 V, z_26 V, z_27 V, z_28 V, .inl (V.2.1 5, 3, .inr (.inr (.inr (.inr (fun _ => none))))), .inl (V.2.1 6, 3, .inr (.inr (.inr (.inr (fun _ => none))))), z_31 V, z_32 V, z_33 V, z_34 V, z_35 V, z_36 V, z_37 V, z_38 V, z_39 V, z_40 V, z_41 V, z_42 V, z_43 V, z_44 V, z_45 V, z_46 V, z_47 V, z_48 V, z_49 V, z_50 V, z_51 V, z_52 V, z_53 V, z_54 V, z_55 V, z_56 V, z_57 V, z_58 V, .inr (1, [.ref (V.2.2.1 + 60), .ref (V.2.2.1 + 61), .ref (V.2.2.1 + 62), .int 0, .int 0, .int 0]), .inl (V.2.1 0, 12, .inl (fun _ => 0)), .inl (V.2.1 0, 12, .inl (fun _ => 0)), .inl (V.2.1 1, 12, .inr (.inl (fun _ => 0)))] X k_fl_X1_18 (dcl_Cl 2 (by decide)) rfl rfl rfl (by decide) rfl dX1_init_25 ?_
  refine c_aload_n (pc := 28) X.1 0 rfl dX1_init_28 ?_
  refine c_iconst (v := 0) (pc := 29) X.1 rfl dX1_init_29 ?_
  refine c_put (k := 59) (pc := 30) [.inr (8, [.int 0, .long 0, .long 1, .ref (V.2.2.1 + 1), .ref (V.2.2.1 + 2), .ref (V.2.2.1 + 7), .ref (V.2.2.1 + 11), .ref (V.2.2.1 + 15), .ref (V.2.2.1 + 22), .ref (V.2.2.1 + 29), .ref (V.2.2.1 + 30), .int 0, .ref (V.2.2.1 + 31), .ref (V.2.2.1 + 35), .ref (V.2.2.1 + 36), .ref (V.2.2.1 + 47), .ref (V.2.2.1 + 49)]), .inl (V.2.1 4, 4, .inr (.inr (.inr (.inr (va_up (va_up (va_up (va_up (fun _ => none) (tn 0) (some (V.2.2.1 + 51))) (tn 1) (some (V.2.2.1 + 53))) (tn 2) (some (V.2.2.1 + 55))) (tn 3) (some (V.2.2.1 + 57))))))), z_2 V, z_3 V, z_4 V, z_5 V, z_6 V, z_7 V, z_8 V, z_9 V, z_10 V, z_11 V, z_12 V, z_13 V, z_14 V, z_15 V, z_16 V, z_17 V, z_18 V, z_19 V, z_20 V, z_21 V, z_22 V, z_23 V, z_24 V, z_25 V, z_26 V, z_27 V, z_28 V, .inl (V.2.1 5, 3, .inr (.inr (.inr (.inr (fun _ => none))))), .inl (V.2.1 6, 3, .inr (.inr (.inr (.inr (fun _ => none))))), z_31 V, z_32 V, z_33 V, z_34 V, z_35 V, z_36 V, z_37 V, z_38 V, z_39 V, z_40 V, z_41 V, z_42 V, z_43 V, z_44 V, z_45 V, z_46 V, z_47 V, z_48 V, z_49 V, z_50 V, z_51 V, z_52 V, z_53 V, z_54 V, z_55 V, z_56 V, z_57 V, z_58 V, .inr (1, [.ref (V.2.2.1 + 60), .ref (V.2.2.1 + 61), .ref (V.2.2.1 + 62), .int 0, .int 0, .int 0]), .inl (V.2.1 0, 12, .inl (fun _ => 0)), .inl (V.2.1 0, 12, .inl (fun _ => 0)), .inl (V.2.1 1, 12, .inr (.inl (fun _ => 0)))] X k_fl_X1_22 (dcl_Cl 3 (by decide)) rfl rfl rfl (by decide) rfl dX1_init_30 ?_
  refine c_aload_n (pc := 33) X.1 0 rfl dX1_init_33 ?_
  refine c_iconst (v := 0) (pc := 34) X.1 rfl dX1_init_34 ?_
  refine c_put (k := 59) (pc := 35) [.inr (8, [.int 0, .long 0, .long 1, .ref (V.2.2.1 + 1), .ref (V.2.2.1 + 2), .ref (V.2.2.1 + 7), .ref (V.2.2.1 + 11), .ref (V.2.2.1 + 15), .ref (V.2.2.1 + 22), .ref (V.2.2.1 + 29), .ref (V.2.2.1 + 30), .int 0, .ref (V.2.2.1 + 31), .ref (V.2.2.1 + 35), .ref (V.2.2.1 + 36), .ref (V.2.2.1 + 47), .ref (V.2.2.1 + 49)]), .inl (V.2.1 4, 4, .inr (.inr (.inr (.inr (va_up (va_up (va_up (va_up (fun _ => none) (tn 0) (some (V.2.2.1 + 51))) (tn 1) (some (V.2.2.1 + 53))) (tn 2) (some (V.2.2.1 + 55))) (tn 3) (some (V.2.2.1 + 57))))))), z_2 V, z_3 V, z_4 V, z_5 V, z_6 V, z_7 V, z_8 V, z_9 V, z_10 V, z_11 V, z_12 V, z_13 V, z_14 V, z_15 V, z_16 V, z_17 V, z_18 V, z_19 V, z_20 V, z_21 V, z_22 V, z_23 V, z_24 V, z_25 V, z_26 V, z_27 V, z_28 V, .inl (V.2.1 5, 3, .inr (.inr (.inr (.inr (fun _ => none))))), .inl (V.2.1 6, 3, .inr (.inr (.inr (.inr (fun _ => none))))), z_31 V, z_32 V, z_33 V, z_34 V, z_35 V, z_36 V, z_37 V, z_38 V, z_39 V, z_40 V, z_41 V, z_42 V, z_43 V, z_44 V, z_45 V, z_46 V, z_47 V, z_48 V, z_49 V, z_50 V, z_51 V, z_52 V, z_53 V, z_54 V, z_55 V, z_56 V, z_57 V, z_58 V, .inr (1, [.ref (V.2.2.1 + 60), .ref (V.2.2.1 + 61), .ref (V.2.2.1 + 62), .int 0, .int 0, .int 0]), .inl (V.2.1 0, 12, .inl (fun _ => 0)), .inl (V.2.1 0, 12, .inl (fun _ => 0)), .inl (V.2.1 1, 12, .inr (.inl (fun _ => 0)))] X k_fl_X1_26 (dcl_Cl 4 (by decide)) rfl rfl rfl (by decide) rfl dX1_init_35 ?_
  refine c_aload_n (pc := 38) X.1 0 rfl dX1_init_38 ?_
  refine c_iconst (v := 4) (pc := 39) X.1 rfl dX1_init_39 ?_
  refine c_put (k := 59) (pc := 40) [.inr (8, [.int 0, .long 0, .long 1, .ref (V.2.2.1 + 1), .ref (V.2.2.1 + 2), .ref (V.2.2.1 + 7), .ref (V.2.2.1 + 11), .ref (V.2.2.1 + 15), .ref (V.2.2.1 + 22), .ref (V.2.2.1 + 29), .ref (V.2.2.1 + 30), .int 0, .ref (V.2.2.1 + 31), .ref (V.2.2.1 + 35), .ref (V.2.2.1 + 36), .ref (V.2.2.1 + 47), .ref (V.2.2.1 + 49)]), .inl (V.2.1 4, 4, .inr (.inr (.inr (.inr (va_up (va_up (va_up (va_up (fun _ => none) (tn 0) (some (V.2.2.1 + 51))) (tn 1) (some (V.2.2.1 + 53))) (tn 2) (some (V.2.2.1 + 55))) (tn 3) (some (V.2.2.1 + 57))))))), z_2 V, z_3 V, z_4 V, z_5 V, z_6 V, z_7 V, z_8 V, z_9 V, z_10 V, z_11 V, z_12 V, z_13 V, z_14 V, z_15 V, z_16 V, z_17 V, z_18 V, z_19 V, z_20 V, z_21 V, z_22 V, z_23 V, z_24 V, z_25 V, z_26 V, z_27 V, z_28 V, .inl (V.2.1 5, 3, .inr (.inr (.inr (.inr (fun _ => none))))), .inl (V.2.1 6, 3, .inr (.inr (.inr (.inr (fun _ => none))))), z_31 V, z_32 V, z_33 V, z_34 V, z_35 V, z_36 V, z_37 V, z_38 V, z_39 V, z_40 V, z_41 V, z_42 V, z_43 V, z_44 V, z_45 V, z_46 V, z_47 V, z_48 V, z_49 V, z_50 V, z_51 V, z_52 V, z_53 V, z_54 V, z_55 V, z_56 V, z_57 V, z_58 V, .inr (1, [.ref (V.2.2.1 + 60), .ref (V.2.2.1 + 61), .ref (V.2.2.1 + 62), .int 0, .int 0, .int 4]), .inl (V.2.1 0, 12, .inl (fun _ => 0)), .inl (V.2.1 0, 12, .inl (fun _ => 0)), .inl (V.2.1 1, 12, .inr (.inl (fun _ => 0)))] X k_fl_X1_29 (dcl_Cl 5 (by decide)) rfl rfl rfl (by decide) rfl dX1_init_40 ?_
  exact c_vret (pc := 43) X.1 rfl rfl dX1_init_43
def z_63 (V : Ev) : va_E := .inr (2, [.ref (V.2.2.1 + 64), .ref (V.2.2.1 + 65), .ref (V.2.2.1 + 66), .ref (V.2.2.1 + 67), .ref (V.2.2.1 + 68), .ref (V.2.2.1 + 69), .int 0, .int 0, .int 0])
def z_64 (V : Ev) : va_E := .inl (V.2.1 0, 60, .inl (fun _ => 0))
def z_65 (V : Ev) : va_E := .inl (V.2.1 0, 60, .inl (fun _ => 0))
def z_66 (V : Ev) : va_E := .inl (V.2.1 0, 60, .inl (fun _ => 0))
def z_67 (V : Ev) : va_E := .inl (V.2.1 0, 60, .inl (fun _ => 0))
def z_68 (V : Ev) : va_E := .inl (V.2.1 0, 60, .inl (fun _ => 0))
def z_69 (V : Ev) : va_E := .inl (V.2.1 0, 60, .inl (fun _ => 0))
set_option maxRecDepth 100000 in
set_option maxHeartbeats 4000000 in
theorem there {V : Ev} : Rc V 1 M_X2_init [.ref (V.2.2.1 + 63)] [.inr (8, [.int 0, .long 0, .long 1, .ref (V.2.2.1 + 1), .ref (V.2.2.1 + 2), .ref (V.2.2.1 + 7), .ref (V.2.2.1 + 11), .ref (V.2.2.1 + 15), .ref (V.2.2.1 + 22), .ref (V.2.2.1 + 29), .ref (V.2.2.1 + 30), .int 0, .ref (V.2.2.1 + 31), .ref (V.2.2.1 + 35), .ref (V.2.2.1 + 36), .ref (V.2.2.1 + 47), .ref (V.2.2.1 + 49)]), .inl (V.2.1 4, 4, .inr (.inr (.inr (.inr (va_up (va_up (va_up (va_up (fun _ => none) (tn 0) (some (V.2.2.1 + 51))) (tn 1) (some (V.2.2.1 + 53))) (tn 2) (some (V.2.2.1 + 55))) (tn 3) (some (V.2.2.1 + 57))))))), z_2 V, z_3 V, z_4 V, z_5 V, z_6 V, z_7 V, z_8 V, z_9 V, z_10 V, z_11 V, z_12 V, z_13 V, z_14 V, z_15 V, z_16 V, z_17 V, z_18 V, z_19 V, z_20 V, z_21 V, z_22 V, z_23 V, z_24 V, z_25 V, z_26 V, z_27 V, z_28 V, .inl (V.2.1 5, 3, .inr (.inr (.inr (.inr (va_up (fun _ => none) (tn 0) (some (V.2.2.1 + 59))))))), .inl (V.2.1 6, 3, .inr (.inr (.inr (.inr (fun _ => none))))), z_31 V, z_32 V, z_33 V, z_34 V, z_35 V, z_36 V, z_37 V, z_38 V, z_39 V, z_40 V, z_41 V, z_42 V, z_43 V, z_44 V, z_45 V, z_46 V, z_47 V, z_48 V, z_49 V, z_50 V, z_51 V, z_52 V, z_53 V, z_54 V, z_55 V, z_56 V, z_57 V, z_58 V, z_59 V, z_60 V, z_61 V, z_62 V, .inr (2, [.null, .null, .null, .null, .null, .null, .int 0, .int 0, .int 0])] [.inr (8, [.int 0, .long 0, .long 1, .ref (V.2.2.1 + 1), .ref (V.2.2.1 + 2), .ref (V.2.2.1 + 7), .ref (V.2.2.1 + 11), .ref (V.2.2.1 + 15), .ref (V.2.2.1 + 22), .ref (V.2.2.1 + 29), .ref (V.2.2.1 + 30), .int 0, .ref (V.2.2.1 + 31), .ref (V.2.2.1 + 35), .ref (V.2.2.1 + 36), .ref (V.2.2.1 + 47), .ref (V.2.2.1 + 49)]), .inl (V.2.1 4, 4, .inr (.inr (.inr (.inr (va_up (va_up (va_up (va_up (fun _ => none) (tn 0) (some (V.2.2.1 + 51))) (tn 1) (some (V.2.2.1 + 53))) (tn 2) (some (V.2.2.1 + 55))) (tn 3) (some (V.2.2.1 + 57))))))), z_2 V, z_3 V, z_4 V, z_5 V, z_6 V, z_7 V, z_8 V, z_9 V, z_10 V, z_11 V, z_12 V, z_13 V, z_14 V, z_15 V, z_16 V, z_17 V, z_18 V, z_19 V, z_20 V, z_21 V, z_22 V, z_23 V, z_24 V, z_25 V, z_26 V, z_27 V, z_28 V, .inl (V.2.1 5, 3, .inr (.inr (.inr (.inr (va_up (fun _ => none) (tn 0) (some (V.2.2.1 + 59))))))), .inl (V.2.1 6, 3, .inr (.inr (.inr (.inr (fun _ => none))))), z_31 V, z_32 V, z_33 V, z_34 V, z_35 V, z_36 V, z_37 V, z_38 V, z_39 V, z_40 V, z_41 V, z_42 V, z_43 V, z_44 V, z_45 V, z_46 V, z_47 V, z_48 V, z_49 V, z_50 V, z_51 V, z_52 V, z_53 V, z_54 V, z_55 V, z_56 V, z_57 V, z_58 V, z_59 V, z_60 V, z_61 V, z_62 V, z_63 V, z_64 V, z_65 V, z_66 V, z_67 V, z_68 V, z_69 V] 6 360 := by
  refine Rc.of (by decide +kernel) rfl (Nat.le_of_ble_eq_true rfl) (fun Γ X => ?_)

  refine c_aload_n (pc := 0) X.1 0 rfl dX2_init_0 ?_
  refine c_objInit (pc := 1) X.1 k_oi_X2 k_oi2 k_oi3 (Nat.le_of_ble_eq_true rfl) (Nat.le_of_ble_eq_true rfl) dX2_init_1 ?_
  refine c_aload_n (pc := 4) X.1 0 rfl dX2_init_4 ?_
  refine c_bipush (v := 60) (pc := 5) X.1 (by decide) dX2_init_5 ?_
  refine c_newa (ty := .int) (N := 60) (ak := 0) (a0 := .inl (fun _ => 0)) (pc := 7) X.1 X.2.2 rfl k_arr_0 rfl (fun _ h => by cases h) rfl (fun _ => rfl) (by decide) (by decide) (Nat.le_of_ble_eq_true rfl) (Nat.le_of_ble_eq_true rfl) (Nat.le_of_ble_eq_true rfl) dX2_init_7 ?_
  refine c_put (k := 63) (pc := 9) [.inr (8, [.int 0, .long 0, .long 1, .ref (V.2.2.1 + 1), .ref (V.2.2.1 + 2), .ref (V.2.2.1 + 7), .ref (V.2.2.1 + 11), .ref (V.2.2.1 + 15), .ref (V.2.2.1 + 22), .ref (V.2.2.1 + 29), .ref (V.2.2.1 + 30), .int 0, .ref (V.2.2.1 + 31), .ref (V.2.2.1 + 35), .ref (V.2.2.1 + 36), .ref (V.2.2.1 + 47), .ref (V.2.2.1 + 49)]), .inl (V.2.1 4, 4, .inr (.inr (.inr (.inr (va_up (va_up (va_up (va_up (fun _ => none) (tn 0) (some (V.2.2.1 + 51))) (tn 1) (some (V.2.2.1 + 53))) (tn 2) (some (V.2.2.1 + 55))) (tn 3) (some (V.2.2.1 + 57))))))), z_2 V, z_3 V, z_4 V, z_5 V, z_6 V, z_7 V, z_8 V, z_9 V, z_10 V, z_11 V, z_12 V, z_13 V, z_14 V, z_15 V, z_16 V, z_17 V, z_18 V, z_19 V, z_20 V, z_21 V, z_22 V, z_23 V, z_24 V, z_25 V, z_26 V, z_27 V, z_28 V, .inl (V.2.1 5, 3, .inr (.inr (.inr (.inr (va_up (fun _ => none) (tn 0) (some (V.2.2.1 + 59))))))), .inl (V.2.1 6, 3, .inr (.inr (.inr (.inr (fun _ => none))))), z_31 V, z_32 V, z_33 V, z_34 V, z_35 V, z_36 V, z_37 V, z_38 V, z_39 V, z_40 V, z_41 V, z_42 V, z_43 V, z_44 V, z_45 V, z_46 V, z_47 V, z_48 V, z_49 V, z_50 V, z_51 V, z_52 V, z_53 V, z_54 V, z_55 V, z_56 V, z_57 V, z_58 V, z_59 V, z_60 V, z_61 V, z_62 V, .inr (2, [.ref (V.2.2.1 + 64), .null, .null, .null, .null, .null, .int 0, .int 0, .int 0]), .inl (V.2.1 0, 60, .inl (fun _ => 0))] X k_fl_X2_9 (dcl_Da 0 (by decide)) rfl rfl rfl (by decide) rfl dX2_init_9 ?_
  refine c_aload_n (pc := 12) X.1 0 rfl dX2_init_12 ?_
  refine c_bipush (v := 60) (pc := 13) X.1 (by decide) dX2_init_13 ?_
  refine c_newa (ty := .int) (N := 60) (ak := 0) (a0 := .inl (fun _ => 0)) (pc := 15) X.1 X.2.2 rfl k_arr_0 rfl (fun _ h => by cases h) rfl (fun _ => rfl) (by decide) (by decide) (Nat.le_of_ble_eq_true rfl) (Nat.le_of_ble_eq_true rfl) (Nat.le_of_ble_eq_true rfl) dX2_init_15 ?_
  refine c_put (k := 63) (pc := 17) [.inr (8, [.int 0, .long 0, .long 1, .ref (V.2.2.1 + 1), .ref (V.2.2.1 + 2), .ref (V.2.2.1 + 7), .ref (V.2.2.1 + 11), .ref (V.2.2.1 + 15), .ref (V.2.2.1 + 22), .ref (V.2.2.1 + 29), .ref (V.2.2.1 + 30), .int 0, .ref (V.2.2.1 + 31), .ref (V.2.2.1 + 35), .ref (V.2.2.1 + 36), .ref (V.2.2.1 + 47), .ref (V.2.2.1 + 49)]), .inl (V.2.1 4, 4, .inr (.inr (.inr (.inr (va_up (va_up (va_up (va_up (fun _ => none) (tn 0) (some (V.2.2.1 + 51))) (tn 1) (some (V.2.2.1 + 53))) (tn 2) (some (V.2.2.1 + 55))) (tn 3) (some (V.2.2.1 + 57))))))), z_2 V, z_3 V, z_4 V, z_5 V, z_6 V, z_7 V, z_8 V, z_9 V, z_10 V, z_11 V, z_12 V, z_13 V, z_14 V, z_15 V, z_16 V, z_17 V, z_18 V, z_19 V, z_20 V, z_21 V, z_22 V, z_23 V, z_24 V, z_25 V, z_26 V, z_27 V, z_28 V, .inl (V.2.1 5, 3, .inr (.inr (.inr (.inr (va_up (fun _ => none) (tn 0) (some (V.2.2.1 + 59))))))), .inl (V.2.1 6, 3, .inr (.inr (.inr (.inr (fun _ => none))))), z_31 V, z_32 V, z_33 V, z_34 V, z_35 V, z_36 V, z_37 V, z_38 V, z_39 V, z_40 V, z_41 V, z_42 V, z_43 V, z_44 V, z_45 V, z_46 V, z_47 V, z_48 V, z_49 V, z_50 V, z_51 V, z_52 V, z_53 V, z_54 V, z_55 V, z_56 V, z_57 V, z_58 V, z_59 V, z_60 V, z_61 V, z_62 V, .inr (2, [.ref (V.2.2.1 + 64), .ref (V.2.2.1 + 65), .null, .null, .null, .null, .int 0, .int 0, .int 0]), .inl (V.2.1 0, 60, .inl (fun _ => 0)), .inl (V.2.1 0, 60, .inl (fun _ => 0))] X k_fl_X2_13 (dcl_Da 1 (by decide)) rfl rfl rfl (by decide) rfl dX2_init_17 ?_
  refine c_aload_n (pc := 20) X.1 0 rfl dX2_init_20 ?_
  refine c_bipush (v := 60) (pc := 21) X.1 (by decide) dX2_init_21 ?_
  refine c_newa (ty := .int) (N := 60) (ak := 0) (a0 := .inl (fun _ => 0)) (pc := 23) X.1 X.2.2 rfl k_arr_0 rfl (fun _ h => by cases h) rfl (fun _ => rfl) (by decide) (by decide) (Nat.le_of_ble_eq_true rfl) (Nat.le_of_ble_eq_true rfl) (Nat.le_of_ble_eq_true rfl) dX2_init_23 ?_
  refine c_put (k := 63) (pc := 25) [.inr (8, [.int 0, .long 0, .long 1, .ref (V.2.2.1 + 1), .ref (V.2.2.1 + 2), .ref (V.2.2.1 + 7), .ref (V.2.2.1 + 11), .ref (V.2.2.1 + 15), .ref (V.2.2.1 + 22), .ref (V.2.2.1 + 29), .ref (V.2.2.1 + 30), .int 0, .ref (V.2.2.1 + 31), .ref (V.2.2.1 + 35), .ref (V.2.2.1 + 36), .ref (V.2.2.1 + 47), .ref (V.2.2.1 + 49)]), .inl (V.2.1 4, 4, .inr (.inr (.inr (.inr (va_up (va_up (va_up (va_up (fun _ => none) (tn 0) (some (V.2.2.1 + 51))) (tn 1) (some (V.2.2.1 + 53))) (tn 2) (some (V.2.2.1 + 55))) (tn 3) (some (V.2.2.1 + 57))))))), z_2 V, z_3 V, z_4 V, z_5 V, z_6 V, z_7 V, z_8 V, z_9 V, z_10 V, z_11 V, z_12 V, z_13 V, z_14 V, z_15 V, z_16 V, z_17 V, z_18 V, z_19 V, z_20 V, z_21 V, z_22 V, z_23 V, z_24 V, z_25 V, z_26 V, z_27 V, z_28 V, .inl (V.2.1 5, 3, .inr (.inr (.inr (.inr (va_up (fun _ => none) (tn 0) (some (V.2.2.1 + 59))))))), .inl (V.2.1 6, 3, .inr (.inr (.inr (.inr (fun _ => none))))), z_31 V, z_32 V, z_33 V, z_34 V, z_35 V, z_36 V, z_37 V, z_38 V, z_39 V, z_40 V, z_41 V, z_42 V, z_43 V, z_44 V, z_45 V, z_46 V, z_47 V, z_48 V, z_49 V, z_50 V, z_51 V, z_52 V, z_53 V, z_54 V, z_55 V, z_56 V, z_57 V, z_58 V, z_59 V, z_60 V, z_61 V, z_62 V, .inr (2, [.ref (V.2.2.1 + 64), .ref (V.2.2.1 + 65), .ref (V.2.2.1 + 66), .null, .null, .null, .int 0, .int 0, .int 0]), .inl (V.2.1 0, 60, .inl (fun _ => 0)), .inl (V.2.1 0, 60, .inl (fun _ => 0)), .inl (V.2.1 0, 60, .inl (fun _ => 0))] X k_fl_X2_16 (dcl_Da 2 (by decide)) rfl rfl rfl (by decide) rfl dX2_init_25 ?_
  refine c_aload_n (pc := 28) X.1 0 rfl dX2_init_28 ?_
  refine c_bipush (v := 60) (pc := 29) X.1 (by decide) dX2_init_29 ?_
  refine c_newa (ty := .int) (N := 60) (ak := 0) (a0 := .inl (fun _ => 0)) (pc := 31) X.1 X.2.2 rfl k_arr_0 rfl (fun _ h => by cases h) rfl (fun _ => rfl) (by decide) (by decide) (Nat.le_of_ble_eq_true rfl) (Nat.le_of_ble_eq_true rfl) (Nat.le_of_ble_eq_true rfl) dX2_init_31 ?_
  refine c_put (k := 63) (pc := 33) [.inr (8, [.int 0, .long 0, .long 1, .ref (V.2.2.1 + 1), .ref (V.2.2.1 + 2), .ref (V.2.2.1 + 7), .ref (V.2.2.1 + 11), .ref (V.2.2.1 + 15), .ref (V.2.2.1 + 22), .ref (V.2.2.1 + 29), .ref (V.2.2.1 + 30), .int 0, .ref (V.2.2.1 + 31), .ref (V.2.2.1 + 35), .ref (V.2.2.1 + 36), .ref (V.2.2.1 + 47), .ref (V.2.2.1 + 49)]), .inl (V.2.1 4, 4, .inr (.inr (.inr (.inr (va_up (va_up (va_up (va_up (fun _ => none) (tn 0) (some (V.2.2.1 + 51))) (tn 1) (some (V.2.2.1 + 53))) (tn 2) (some (V.2.2.1 + 55))) (tn 3) (some (V.2.2.1 + 57))))))), z_2 V, z_3 V, z_4 V, z_5 V, z_6 V, z_7 V, z_8 V, z_9 V, z_10 V, z_11 V, z_12 V, z_13 V, z_14 V, z_15 V, z_16 V, z_17 V, z_18 V, z_19 V, z_20 V, z_21 V, z_22 V, z_23 V, z_24 V, z_25 V, z_26 V, z_27 V, z_28 V, .inl (V.2.1 5, 3, .inr (.inr (.inr (.inr (va_up (fun _ => none) (tn 0) (some (V.2.2.1 + 59))))))), .inl (V.2.1 6, 3, .inr (.inr (.inr (.inr (fun _ => none))))), z_31 V, z_32 V, z_33 V, z_34 V, z_35 V, z_36 V, z_37 V, z_38 V, z_39 V, z_40 V, z_41 V, z_42 V, z_43 V, z_44 V, z_45 V, z_46 V, z_47 V, z_48 V, z_49 V, z_50 V, z_51 V, z_52 V, z_53 V, z_54 V, z_55 V, z_56 V, z_57 V, z_58 V, z_59 V, z_60 V, z_61 V, z_62 V, .inr (2, [.ref (V.2.2.1 + 64), .ref (V.2.2.1 + 65), .ref (V.2.2.1 + 66), .ref (V.2.2.1 + 67), .null, .null, .int 0, .int 0, .int 0]), .inl (V.2.1 0, 60, .inl (fun _ => 0)), .inl (V.2.1 0, 60, .inl (fun _ => 0)), .inl (V.2.1 0, 60, .inl (fun _ => 0)), .inl (V.2.1 0, 60, .inl (fun _ => 0))] X k_fl_X2_19 (dcl_Da 3 (by decide)) rfl rfl rfl (by decide) rfl dX2_init_33 ?_
  refine c_aload_n (pc := 36) X.1 0 rfl dX2_init_36 ?_
  refine c_bipush (v := 60) (pc := 37) X.1 (by decide) dX2_init_37 ?_
  refine c_newa (ty := .int) (N := 60) (ak := 0) (a0 := .inl (fun _ => 0)) (pc := 39) X.1 X.2.2 rfl k_arr_0 rfl (fun _ h => by cases h) rfl (fun _ => rfl) (by decide) (by decide) (Nat.le_of_ble_eq_true rfl) (Nat.le_of_ble_eq_true rfl) (Nat.le_of_ble_eq_true rfl) dX2_init_39 ?_
  refine c_put (k := 63) (pc := 41) [.inr (8, [.int 0, .long 0, .long 1, .ref (V.2.2.1 + 1), .ref (V.2.2.1 + 2), .ref (V.2.2.1 + 7), .ref (V.2.2.1 + 11), .ref (V.2.2.1 + 15), .ref (V.2.2.1 + 22), .ref (V.2.2.1 + 29), .ref (V.2.2.1 + 30), .int 0, .ref (V.2.2.1 + 31), .ref (V.2.2.1 + 35), .ref (V.2.2.1 + 36), .ref (V.2.2.1 + 47), .ref (V.2.2.1 + 49)]), .inl (V.2.1 4, 4, .inr (.inr (.inr (.inr (va_up (va_up (va_up (va_up (fun _ => none) (tn 0) (some (V.2.2.1 + 51))) (tn 1) (some (V.2.2.1 + 53))) (tn 2) (some (V.2.2.1 + 55))) (tn 3) (some (V.2.2.1 + 57))))))), z_2 V, z_3 V, z_4 V, z_5 V, z_6 V, z_7 V, z_8 V, z_9 V, z_10 V, z_11 V, z_12 V, z_13 V, z_14 V, z_15 V, z_16 V, z_17 V, z_18 V, z_19 V, z_20 V, z_21 V, z_22 V, z_23 V, z_24 V, z_25 V, z_26 V, z_27 V, z_28 V, .inl (V.2.1 5, 3, .inr (.inr (.inr (.inr (va_up (fun _ => none) (tn 0) (some (V.2.2.1 + 59))))))), .inl (V.2.1 6, 3, .inr (.inr (.inr (.inr (fun _ => none))))), z_31 V, z_32 V, z_33 V, z_34 V, z_35 V, z_36 V, z_37 V, z_38 V, z_39 V, z_40 V, z_41 V, z_42 V, z_43 V, z_44 V, z_45 V, z_46 V, z_47 V, z_48 V, z_49 V, z_50 V, z_51 V, z_52 V, z_53 V, z_54 V, z_55 V, z_56 V, z_57 V, z_58 V, z_59 V, z_60 V, z_61 V, z_62 V, .inr (2, [.ref (V.2.2.1 + 64), .ref (V.2.2.1 + 65), .ref (V.2.2.1 + 66), .ref (V.2.2.1 + 67), .ref (V.2.2.1 + 68), .null, .int 0, .int 0, .int 0]), .inl (V.2.1 0, 60, .inl (fun _ => 0)), .inl (V.2.1 0, 60, .inl (fun _ => 0)), .inl (V.2.1 0, 60, .inl (fun _ => 0)), .inl (V.2.1 0, 60, .inl (fun _ => 0)), .inl (V.2.1 0, 60, .inl (fun _ => 0))] X k_fl_X2_22 (dcl_Da 4 (by decide)) rfl rfl rfl (by decide) rfl dX2_init_41 ?_
  refine c_aload_n (pc := 44) X.1 0 rfl dX2_init_44 ?_
  refine c_bipush (v := 60) (pc := 45) X.1 (by decide) dX2_init_45 ?_
  refine c_newa (ty := .int) (N := 60) (ak := 0) (a0 := .inl (fun _ => 0)) (pc := 47) X.1 X.2.2 rfl k_arr_0 rfl (fun _ h => by cases h) rfl (fun _ => rfl) (by decide) (by decide) (Nat.le_of_ble_eq_true rfl) (Nat.le_of_ble_eq_true rfl) (Nat.le_of_ble_eq_true rfl) dX2_init_47 ?_
  refine c_put (k := 63) (pc := 49) [.inr (8, [.int 0, .long 0, .long 1, .ref (V.2.2.1 + 1), .ref (V.2.2.1 + 2), .ref (V.2.2.1 + 7), .ref (V.2.2.1 + 11), .ref (V.2.2.1 + 15), .ref (V.2.2.1 + 22), .ref (V.2.2.1 + 29), .ref (V.2.2.1 + 30), .int 0, .ref (V.2.2.1 + 31), .ref (V.2.2.1 + 35), .ref (V.2.2.1 + 36), .ref (V.2.2.1 + 47), .ref (V.2.2.1 + 49)]), .inl (V.2.1 4, 4, .inr (.inr (.inr (.inr (va_up (va_up (va_up (va_up (fun _ => none) (tn 0) (some (V.2.2.1 + 51))) (tn 1) (some (V.2.2.1 + 53))) (tn 2) (some (V.2.2.1 + 55))) (tn 3) (some (V.2.2.1 + 57))))))), z_2 V, z_3 V, z_4 V, z_5 V, z_6 V, z_7 V, z_8 V, z_9 V, z_10 V, z_11 V, z_12 V, z_13 V, z_14 V, z_15 V, z_16 V, z_17 V, z_18 V, z_19 V, z_20 V, z_21 V, z_22 V, z_23 V, z_24 V, z_25 V, z_26 V, z_27 V, z_28 V, .inl (V.2.1 5, 3, .inr (.inr (.inr (.inr (va_up (fun _ => none) (tn 0) (some (V.2.2.1 + 59))))))), .inl (V.2.1 6, 3, .inr (.inr (.inr (.inr (fun _ => none))))), z_31 V, z_32 V, z_33 V, z_34 V, z_35 V, z_36 V, z_37 V, z_38 V, z_39 V, z_40 V, z_41 V, z_42 V, z_43 V, z_44 V, z_45 V, z_46 V, z_47 V, z_48 V, z_49 V, z_50 V, z_51 V, z_52 V, z_53 V, z_54 V, z_55 V, z_56 V, z_57 V, z_58 V, z_59 V, z_60 V, z_61 V, z_62 V, .inr (2, [.ref (V.2.2.1 + 64), .ref (V.2.2.1 + 65), .ref (V.2.2.1 + 66), .ref (V.2.2.1 + 67), .ref (V.2.2.1 + 68), .ref (V.2.2.1 + 69), .int 0, .int 0, .int 0]), .inl (V.2.1 0, 60, .inl (fun _ => 0)), .inl (V.2.1 0, 60, .inl (fun _ => 0)), .inl (V.2.1 0, 60, .inl (fun _ => 0)), .inl (V.2.1 0, 60, .inl (fun _ => 0)), .inl (V.2.1 0, 60, .inl (fun _ => 0)), .inl (V.2.1 0, 60, .inl (fun _ => 0))] X k_fl_X2_25 (dcl_Da 5 (by decide)) rfl rfl rfl (by decide) rfl dX2_init_49 ?_
  refine c_aload_n (pc := 52) X.1 0 rfl dX2_init_52 ?_
  refine c_iconst (v := 0) (pc := 53) X.1 rfl dX2_init_53 ?_
  refine c_put (k := 63) (pc := 54) [.inr (8, [.int 0, .long 0, .long 1, .ref (V.2.2.1 + 1), .ref (V.2.2.1 + 2), .ref (V.2.2.1 + 7), .ref (V.2.2.1 + 11), .ref (V.2.2.1 + 15), .ref (V.2.2.1 + 22), .ref (V.2.2.1 + 29), .ref (V.2.2.1 + 30), .int 0, .ref (V.2.2.1 + 31), .ref (V.2.2.1 + 35), .ref (V.2.2.1 + 36), .ref (V.2.2.1 + 47), .ref (V.2.2.1 + 49)]), .inl (V.2.1 4, 4, .inr (.inr (.inr (.inr (va_up (va_up (va_up (va_up (fun _ => none) (tn 0) (some (V.2.2.1 + 51))) (tn 1) (some (V.2.2.1 + 53))) (tn 2) (some (V.2.2.1 + 55))) (tn 3) (some (V.2.2.1 + 57))))))), z_2 V, z_3 V, z_4 V, z_5 V, z_6 V, z_7 V, z_8 V, z_9 V, z_10 V, z_11 V, z_12 V, z_13 V, z_14 V, z_15 V, z_16 V, z_17 V, z_18 V, z_19 V, z_20 V, z_21 V, z_22 V, z_23 V, z_24 V, z_25 V, z_26 V, z_27 V, z_28 V, .inl (V.2.1 5, 3, .inr (.inr (.inr (.inr (va_up (fun _ => none) (tn 0) (some (V.2.2.1 + 59))))))), .inl (V.2.1 6, 3, .inr (.inr (.inr (.inr (fun _ => none))))), z_31 V, z_32 V, z_33 V, z_34 V, z_35 V, z_36 V, z_37 V, z_38 V, z_39 V, z_40 V, z_41 V, z_42 V, z_43 V, z_44 V, z_45 V, z_46 V, z_47 V, z_48 V, z_49 V, z_50 V, z_51 V, z_52 V, z_53 V, z_54 V, z_55 V, z_56 V, z_57 V, z_58 V, z_59 V, z_60 V, z_61 V, z_62 V, .inr (2, [.ref (V.2.2.1 + 64), .ref (V.2.2.1 + 65), .ref (V.2.2.1 + 66), .ref (V.2.2.1 + 67), .ref (V.2.2.1 + 68), .ref (V.2.2.1 + 69), .int 0, .int 0, .int 0]), .inl (V.2.1 0, 60, .inl (fun _ => 0)), .inl (V.2.1 0, 60, .inl (fun _ => 0)), .inl (V.2.1 0, 60, .inl (fun _ => 0)), .inl (V.2.1 0, 60, .inl (fun _ => 0)), .inl (V.2.1 0, 60, .inl (fun _ => 0)), .inl (V.2.1 0, 60, .inl (fun _ => 0))] X k_fl_X2_28 (dcl_Da 6 (by decide)) rfl rfl rfl (by decide) rfl dX2_init_54 ?_
  refine c_aload_n (pc := 57) X.1 0 rfl dX2_init_57 ?_
  refine c_iconst (v := 0) (pc := 58) X.1 rfl dX2_init_58 ?_
  refine c_put (k := 63) (pc := 59) [.inr (8, [.int 0, .long 0, .long 1, .ref (V.2.2.1 + 1), .ref (V.2.2.1 + 2), .ref (V.2.2.1 + 7), .ref (V.2.2.1 + 11), .ref (V.2.2.1 + 15), .ref (V.2.2.1 + 22), .ref (V.2.2.1 + 29), .ref (V.2.2.1 + 30), .int 0, .ref (V.2.2.1 + 31), .ref (V.2.2.1 + 35), .ref (V.2.2.1 + 36), .ref (V.2.2.1 + 47), .ref (V.2.2.1 + 49)]), .inl (V.2.1 4, 4, .inr (.inr (.inr (.inr (va_up (va_up (va_up (va_up (fun _ => none) (tn 0) (some (V.2.2.1 + 51))) (tn 1) (some (V.2.2.1 + 53))) (tn 2) (some (V.2.2.1 + 55))) (tn 3) (some (V.2.2.1 + 57))))))), z_2 V, z_3 V, z_4 V, z_5 V, z_6 V, z_7 V, z_8 V, z_9 V, z_10 V, z_11 V, z_12 V, z_13 V, z_14 V, z_15 V, z_16 V, z_17 V, z_18 V, z_19 V, z_20 V, z_21 V, z_22 V, z_23 V, z_24 V, z_25 V, z_26 V, z_27 V, z_28 V, .inl (V.2.1 5, 3, .inr (.inr (.inr (.inr (va_up (fun _ => none) (tn 0) (some (V.2.2.1 + 59))))))), .inl (V.2.1 6, 3, .inr (.inr (.inr (.inr (fun _ => none))))), z_31 V, z_32 V, z_33 V, z_34 V, z_35 V, z_36 V, z_37 V, z_38 V, z_39 V, z_40 V, z_41 V, z_42 V, z_43 V, z_44 V, z_45 V, z_46 V, z_47 V, z_48 V, z_49 V, z_50 V, z_51 V, z_52 V, z_53 V, z_54 V, z_55 V, z_56 V, z_57 V, z_58 V, z_59 V, z_60 V, z_61 V, z_62 V, .inr (2, [.ref (V.2.2.1 + 64), .ref (V.2.2.1 + 65), .ref (V.2.2.1 + 66), .ref (V.2.2.1 + 67), .ref (V.2.2.1 + 68), .ref (V.2.2.1 + 69), .int 0, .int 0, .int 0]), .inl (V.2.1 0, 60, .inl (fun _ => 0)), .inl (V.2.1 0, 60, .inl (fun _ => 0)), .inl (V.2.1 0, 60, .inl (fun _ => 0)), .inl (V.2.1 0, 60, .inl (fun _ => 0)), .inl (V.2.1 0, 60, .inl (fun _ => 0)), .inl (V.2.1 0, 60, .inl (fun _ => 0))] X k_fl_X2_32 (dcl_Da 7 (by decide)) rfl rfl rfl (by decide) rfl dX2_init_59 ?_
  refine c_aload_n (pc := 62) X.1 0 rfl dX2_init_62 ?_
  refine c_iconst (v := 0) (pc := 63) X.1 rfl dX2_init_63 ?_
  refine c_put (k := 63) (pc := 64) [.inr (8, [.int 0, .long 0, .long 1, .ref (V.2.2.1 + 1), .ref (V.2.2.1 + 2), .ref (V.2.2.1 + 7), .ref (V.2.2.1 + 11), .ref (V.2.2.1 + 15), .ref (V.2.2.1 + 22), .ref (V.2.2.1 + 29), .ref (V.2.2.1 + 30), .int 0, .ref (V.2.2.1 + 31), .ref (V.2.2.1 + 35), .ref (V.2.2.1 + 36), .ref (V.2.2.1 + 47), .ref (V.2.2.1 + 49)]), .inl (V.2.1 4, 4, .inr (.inr (.inr (.inr (va_up (va_up (va_up (va_up (fun _ => none) (tn 0) (some (V.2.2.1 + 51))) (tn 1) (some (V.2.2.1 + 53))) (tn 2) (some (V.2.2.1 + 55))) (tn 3) (some (V.2.2.1 + 57))))))), z_2 V, z_3 V, z_4 V, z_5 V, z_6 V, z_7 V, z_8 V, z_9 V, z_10 V, z_11 V, z_12 V, z_13 V, z_14 V, z_15 V, z_16 V, z_17 V, z_18 V, z_19 V, z_20 V, z_21 V, z_22 V, z_23 V, z_24 V, z_25 V, z_26 V, z_27 V, z_28 V, .inl (V.2.1 5, 3, .inr (.inr (.inr (.inr (va_up (fun _ => none) (tn 0) (some (V.2.2.1 + 59))))))), .inl (V.2.1 6, 3, .inr (.inr (.inr (.inr (fun _ => none))))), z_31 V, z_32 V, z_33 V, z_34 V, z_35 V, z_36 V, z_37 V, z_38 V, z_39 V, z_40 V, z_41 V, z_42 V, z_43 V, z_44 V, z_45 V, z_46 V, z_47 V, z_48 V, z_49 V, z_50 V, z_51 V, z_52 V, z_53 V, z_54 V, z_55 V, z_56 V, z_57 V, z_58 V, z_59 V, z_60 V, z_61 V, z_62 V, .inr (2, [.ref (V.2.2.1 + 64), .ref (V.2.2.1 + 65), .ref (V.2.2.1 + 66), .ref (V.2.2.1 + 67), .ref (V.2.2.1 + 68), .ref (V.2.2.1 + 69), .int 0, .int 0, .int 0]), .inl (V.2.1 0, 60, .inl (fun _ => 0)), .inl (V.2.1 0, 60, .inl (fun _ => 0)), .inl (V.2.1 0, 60, .inl (fun _ => 0)), .inl (V.2.1 0, 60, .inl (fun _ => 0)), .inl (V.2.1 0, 60, .inl (fun _ => 0)), .inl (V.2.1 0, 60, .inl (fun _ => 0))] X k_fl_X2_35 (dcl_Da 8 (by decide)) rfl (by decide +kernel) (by decide +kernel) (by decide) rfl dX2_init_64 ?_
  exact c_vret (pc := 67) X.1 rfl rfl dX2_init_67
def z_70 (V : Ev) : va_E := .inr (1, [.ref (V.2.2.1 + 71), .ref (V.2.2.1 + 72), .ref (V.2.2.1 + 73), .int 0, .int 0, .int 4])
def z_71 (V : Ev) : va_E := .inl (V.2.1 0, 12, .inl (fun _ => 0))
def z_72 (V : Ev) : va_E := .inl (V.2.1 0, 12, .inl (fun _ => 0))
def z_73 (V : Ev) : va_E := .inl (V.2.1 1, 12, .inr (.inl (fun _ => 0)))
set_option maxRecDepth 100000 in
set_option maxHeartbeats 4000000 in
theorem odds {V : Ev} : Rc V 1 M_X1_init [.ref (V.2.2.1 + 70)] [.inr (8, [.int 0, .long 0, .long 1, .ref (V.2.2.1 + 1), .ref (V.2.2.1 + 2), .ref (V.2.2.1 + 7), .ref (V.2.2.1 + 11), .ref (V.2.2.1 + 15), .ref (V.2.2.1 + 22), .ref (V.2.2.1 + 29), .ref (V.2.2.1 + 30), .int 0, .ref (V.2.2.1 + 31), .ref (V.2.2.1 + 35), .ref (V.2.2.1 + 36), .ref (V.2.2.1 + 47), .ref (V.2.2.1 + 49)]), .inl (V.2.1 4, 4, .inr (.inr (.inr (.inr (va_up (va_up (va_up (va_up (fun _ => none) (tn 0) (some (V.2.2.1 + 51))) (tn 1) (some (V.2.2.1 + 53))) (tn 2) (some (V.2.2.1 + 55))) (tn 3) (some (V.2.2.1 + 57))))))), z_2 V, z_3 V, z_4 V, z_5 V, z_6 V, z_7 V, z_8 V, z_9 V, z_10 V, z_11 V, z_12 V, z_13 V, z_14 V, z_15 V, z_16 V, z_17 V, z_18 V, z_19 V, z_20 V, z_21 V, z_22 V, z_23 V, z_24 V, z_25 V, z_26 V, z_27 V, z_28 V, .inl (V.2.1 5, 3, .inr (.inr (.inr (.inr (va_up (fun _ => none) (tn 0) (some (V.2.2.1 + 59))))))), .inl (V.2.1 6, 3, .inr (.inr (.inr (.inr (va_up (fun _ => none) (tn 0) (some (V.2.2.1 + 63))))))), z_31 V, z_32 V, z_33 V, z_34 V, z_35 V, z_36 V, z_37 V, z_38 V, z_39 V, z_40 V, z_41 V, z_42 V, z_43 V, z_44 V, z_45 V, z_46 V, z_47 V, z_48 V, z_49 V, z_50 V, z_51 V, z_52 V, z_53 V, z_54 V, z_55 V, z_56 V, z_57 V, z_58 V, z_59 V, z_60 V, z_61 V, z_62 V, z_63 V, z_64 V, z_65 V, z_66 V, z_67 V, z_68 V, z_69 V, .inr (1, [.null, .null, .null, .int 0, .int 0, .int 0])] [.inr (8, [.int 0, .long 0, .long 1, .ref (V.2.2.1 + 1), .ref (V.2.2.1 + 2), .ref (V.2.2.1 + 7), .ref (V.2.2.1 + 11), .ref (V.2.2.1 + 15), .ref (V.2.2.1 + 22), .ref (V.2.2.1 + 29), .ref (V.2.2.1 + 30), .int 0, .ref (V.2.2.1 + 31), .ref (V.2.2.1 + 35), .ref (V.2.2.1 + 36), .ref (V.2.2.1 + 47), .ref (V.2.2.1 + 49)]), .inl (V.2.1 4, 4, .inr (.inr (.inr (.inr (va_up (va_up (va_up (va_up (fun _ => none) (tn 0) (some (V.2.2.1 + 51))) (tn 1) (some (V.2.2.1 + 53))) (tn 2) (some (V.2.2.1 + 55))) (tn 3) (some (V.2.2.1 + 57))))))), z_2 V, z_3 V, z_4 V, z_5 V, z_6 V, z_7 V, z_8 V, z_9 V, z_10 V, z_11 V, z_12 V, z_13 V, z_14 V, z_15 V, z_16 V, z_17 V, z_18 V, z_19 V, z_20 V, z_21 V, z_22 V, z_23 V, z_24 V, z_25 V, z_26 V, z_27 V, z_28 V, .inl (V.2.1 5, 3, .inr (.inr (.inr (.inr (va_up (fun _ => none) (tn 0) (some (V.2.2.1 + 59))))))), .inl (V.2.1 6, 3, .inr (.inr (.inr (.inr (va_up (fun _ => none) (tn 0) (some (V.2.2.1 + 63))))))), z_31 V, z_32 V, z_33 V, z_34 V, z_35 V, z_36 V, z_37 V, z_38 V, z_39 V, z_40 V, z_41 V, z_42 V, z_43 V, z_44 V, z_45 V, z_46 V, z_47 V, z_48 V, z_49 V, z_50 V, z_51 V, z_52 V, z_53 V, z_54 V, z_55 V, z_56 V, z_57 V, z_58 V, z_59 V, z_60 V, z_61 V, z_62 V, z_63 V, z_64 V, z_65 V, z_66 V, z_67 V, z_68 V, z_69 V, z_70 V, z_71 V, z_72 V, z_73 V] 3 36 := by
  refine Rc.of (by decide +kernel) rfl (Nat.le_of_ble_eq_true rfl) (fun Γ X => ?_)

  refine c_aload_n (pc := 0) X.1 0 rfl dX1_init_0 ?_
  refine c_objInit (pc := 1) X.1 k_oi_X1 k_oi2 k_oi3 (Nat.le_of_ble_eq_true rfl) (Nat.le_of_ble_eq_true rfl) dX1_init_1 ?_
  refine c_aload_n (pc := 4) X.1 0 rfl dX1_init_4 ?_
  refine c_bipush (v := 12) (pc := 5) X.1 (by decide) dX1_init_5 ?_
  refine c_newa (ty := .int) (N := 12) (ak := 0) (a0 := .inl (fun _ => 0)) (pc := 7) X.1 X.2.2 rfl k_arr_0 rfl (fun _ h => by cases h) rfl (fun _ => rfl) (by decide) (by decide) (Nat.le_of_ble_eq_true rfl) (Nat.le_of_ble_eq_true rfl) (Nat.le_of_ble_eq_true rfl) dX1_init_7 ?_
  refine c_put (k := 70) (pc := 9) [.inr (8, [.int 0, .long 0, .long 1, .ref (V.2.2.1 + 1), .ref (V.2.2.1 + 2), .ref (V.2.2.1 + 7), .ref (V.2.2.1 + 11), .ref (V.2.2.1 + 15), .ref (V.2.2.1 + 22), .ref (V.2.2.1 + 29), .ref (V.2.2.1 + 30), .int 0, .ref (V.2.2.1 + 31), .ref (V.2.2.1 + 35), .ref (V.2.2.1 + 36), .ref (V.2.2.1 + 47), .ref (V.2.2.1 + 49)]), .inl (V.2.1 4, 4, .inr (.inr (.inr (.inr (va_up (va_up (va_up (va_up (fun _ => none) (tn 0) (some (V.2.2.1 + 51))) (tn 1) (some (V.2.2.1 + 53))) (tn 2) (some (V.2.2.1 + 55))) (tn 3) (some (V.2.2.1 + 57))))))), z_2 V, z_3 V, z_4 V, z_5 V, z_6 V, z_7 V, z_8 V, z_9 V, z_10 V, z_11 V, z_12 V, z_13 V, z_14 V, z_15 V, z_16 V, z_17 V, z_18 V, z_19 V, z_20 V, z_21 V, z_22 V, z_23 V, z_24 V, z_25 V, z_26 V, z_27 V, z_28 V, .inl (V.2.1 5, 3, .inr (.inr (.inr (.inr (va_up (fun _ => none) (tn 0) (some (V.2.2.1 + 59))))))), .inl (V.2.1 6, 3, .inr (.inr (.inr (.inr (va_up (fun _ => none) (tn 0) (some (V.2.2.1 + 63))))))), z_31 V, z_32 V, z_33 V, z_34 V, z_35 V, z_36 V, z_37 V, z_38 V, z_39 V, z_40 V, z_41 V, z_42 V, z_43 V, z_44 V, z_45 V, z_46 V, z_47 V, z_48 V, z_49 V, z_50 V, z_51 V, z_52 V, z_53 V, z_54 V, z_55 V, z_56 V, z_57 V, z_58 V, z_59 V, z_60 V, z_61 V, z_62 V, z_63 V, z_64 V, z_65 V, z_66 V, z_67 V, z_68 V, z_69 V, .inr (1, [.ref (V.2.2.1 + 71), .null, .null, .int 0, .int 0, .int 0]), .inl (V.2.1 0, 12, .inl (fun _ => 0))] X k_fl_X1_9 (dcl_Cl 0 (by decide)) rfl rfl rfl (by decide) rfl dX1_init_9 ?_
  refine c_aload_n (pc := 12) X.1 0 rfl dX1_init_12 ?_
  refine c_bipush (v := 12) (pc := 13) X.1 (by decide) dX1_init_13 ?_
  refine c_newa (ty := .int) (N := 12) (ak := 0) (a0 := .inl (fun _ => 0)) (pc := 15) X.1 X.2.2 rfl k_arr_0 rfl (fun _ h => by cases h) rfl (fun _ => rfl) (by decide) (by decide) (Nat.le_of_ble_eq_true rfl) (Nat.le_of_ble_eq_true rfl) (Nat.le_of_ble_eq_true rfl) dX1_init_15 ?_
  refine c_put (k := 70) (pc := 17) [.inr (8, [.int 0, .long 0, .long 1, .ref (V.2.2.1 + 1), .ref (V.2.2.1 + 2), .ref (V.2.2.1 + 7), .ref (V.2.2.1 + 11), .ref (V.2.2.1 + 15), .ref (V.2.2.1 + 22), .ref (V.2.2.1 + 29), .ref (V.2.2.1 + 30), .int 0, .ref (V.2.2.1 + 31), .ref (V.2.2.1 + 35), .ref (V.2.2.1 + 36), .ref (V.2.2.1 + 47), .ref (V.2.2.1 + 49)]), .inl (V.2.1 4, 4, .inr (.inr (.inr (.inr (va_up (va_up (va_up (va_up (fun _ => none) (tn 0) (some (V.2.2.1 + 51))) (tn 1) (some (V.2.2.1 + 53))) (tn 2) (some (V.2.2.1 + 55))) (tn 3) (some (V.2.2.1 + 57))))))), z_2 V, z_3 V, z_4 V, z_5 V, z_6 V, z_7 V, z_8 V, z_9 V, z_10 V, z_11 V, z_12 V, z_13 V, z_14 V, z_15 V, z_16 V, z_17 V, z_18 V, z_19 V, z_20 V, z_21 V, z_22 V, z_23 V, z_24 V, z_25 V, z_26 V, z_27 V, z_28 V, .inl (V.2.1 5, 3, .inr (.inr (.inr (.inr (va_up (fun _ => none) (tn 0) (some (V.2.2.1 + 59))))))), .inl (V.2.1 6, 3, .inr (.inr (.inr (.inr (va_up (fun _ => none) (tn 0) (some (V.2.2.1 + 63))))))), z_31 V, z_32 V, z_33 V, z_34 V, z_35 V, z_36 V, z_37 V, z_38 V, z_39 V, z_40 V, z_41 V, z_42 V, z_43 V, z_44 V, z_45 V, z_46 V, z_47 V, z_48 V, z_49 V, z_50 V, z_51 V, z_52 V, z_53 V, z_54 V, z_55 V, z_56 V, z_57 V, z_58 V, z_59 V, z_60 V, z_61 V, z_62 V, z_63 V, z_64 V, z_65 V, z_66 V, z_67 V, z_68 V, z_69 V, .inr (1, [.ref (V.2.2.1 + 71), .ref (V.2.2.1 + 72), .null, .int 0, .int 0, .int 0]), .inl (V.2.1 0, 12, .inl (fun _ => 0)), .inl (V.2.1 0, 12, .inl (fun _ => 0))] X k_fl_X1_15 (dcl_Cl 1 (by decide)) rfl rfl rfl (by decide) rfl dX1_init_17 ?_
  refine c_aload_n (pc := 20) X.1 0 rfl dX1_init_20 ?_
  refine c_bipush (v := 12) (pc := 21) X.1 (by decide) dX1_init_21 ?_
  refine c_newa (ty := .long) (N := 12) (ak := 1) (a0 := .inr (.inl (fun _ => 0))) (pc := 23) X.1 X.2.2 rfl k_arr_1 rfl (fun _ h => by cases h) rfl (fun _ => rfl) (by decide) (by decide) (Nat.le_of_ble_eq_true rfl) (Nat.le_of_ble_eq_true rfl) (Nat.le_of_ble_eq_true rfl) dX1_init_23 ?_
  refine c_put (k := 70) (pc := 25) [.inr (8, [.int 0, .long 0, .long 1, .ref (V.2.2.1 + 1), .ref (V.2.2.1 + 2), .ref (V.2.2.1 + 7), .ref (V.2.2.1 + 11), .ref (V.2.2.1 + 15), .ref (V.2.2.1 + 22), .ref (V.2.2.1 + 29), .ref (V.2.2.1 + 30), .int 0, .ref (V.2.2.1 + 31), .ref (V.2.2.1 + 35), .ref (V.2.2.1 + 36), .ref (V.2.2.1 + 47), .ref (V.2.2.1 + 49)]), .inl (V.2.1 4, 4, .inr (.inr (.inr (.inr (va_up (va_up (va_up (va_up (fun _ => none) (tn 0) (some (V.2.2.1 + 51))) (tn 1) (some (V.2.2.1 + 53))) (tn 2) (some (V.2.2.1 + 55))) (tn 3) (some (V.2.2.1 + 57))))))), z_2 V, z_3 V, z_4 V, z_5 V, z_6 V, z_7 V, z_8 V, z_9 V, z_10 V, z_11 V, z_12 V, z_13 V, z_14 V, z_15 V, z_16 V, z_17 V, z_18 V, z_19 V, z_20 V, z_21 V, z_22 V, z_23 V, z_24 V, z_25 V, z_26 V, z_27 V, z_28 V, .inl (V.2.1 5, 3, .inr (.inr (.inr (.inr (va_up (fun _ => none) (tn 0) (some (V.2.2.1 + 59))))))), .inl (V.2.1 6, 3, .inr (.inr (.inr (.inr (va_up (fun _ => none) (tn 0) (some (V.2.2.1 + 63))))))), z_31 V, z_32 V, z_33 V, z_34 V, z_35 V, z_36 V, z_37 V, z_38 V, z_39 V, z_40 V, z_41 V, z_42 V, z_43 V, z_44 V, z_45 V, z_46 V, z_47 V, z_48 V, z_49 V, z_50 V, z_51 V, z_52 V, z_53 V, z_54 V, z_55 V, z_56 V, z_57 V, z_58 V, z_59 V, z_60 V, z_61 V, z_62 V, z_63 V, z_64 V, z_65 V, z_66 V, z_67 V, z_68 V, z_69 V, .inr (1, [.ref (V.2.2.1 + 71), .ref (V.2.2.1 + 72), .ref (V.2.2.1 + 73), .int 0, .int 0, .int 0]), .inl (V.2.1 0, 12, .inl (fun _ => 0)), .inl (V.2.1 0, 12, .inl (fun _ => 0)), .inl (V.2.1 1, 12, .inr (.inl (fun _ => 0)))] X k_fl_X1_18 (dcl_Cl 2 (by decide)) rfl rfl rfl (by decide) rfl dX1_init_25 ?_
  refine c_aload_n (pc := 28) X.1 0 rfl dX1_init_28 ?_
  refine c_iconst (v := 0) (pc := 29) X.1 rfl dX1_init_29 ?_
  refine c_put (k := 70) (pc := 30) [.inr (8, [.int 0, .long 0, .long 1, .ref (V.2.2.1 + 1), .ref (V.2.2.1 + 2), .ref (V.2.2.1 + 7), .ref (V.2.2.1 + 11), .ref (V.2.2.1 + 15), .ref (V.2.2.1 + 22), .ref (V.2.2.1 + 29), .ref (V.2.2.1 + 30), .int 0, .ref (V.2.2.1 + 31), .ref (V.2.2.1 + 35), .ref (V.2.2.1 + 36), .ref (V.2.2.1 + 47), .ref (V.2.2.1 + 49)]), .inl (V.2.1 4, 4, .inr (.inr (.inr (.inr (va_up (va_up (va_up (va_up (fun _ => none) (tn 0) (some (V.2.2.1 + 51))) (tn 1) (some (V.2.2.1 + 53))) (tn 2) (some (V.2.2.1 + 55))) (tn 3) (some (V.2.2.1 + 57))))))), z_2 V, z_3 V, z_4 V, z_5 V, z_6 V, z_7 V, z_8 V, z_9 V, z_10 V, z_11 V, z_12 V, z_13 V, z_14 V, z_15 V, z_16 V, z_17 V, z_18 V, z_19 V, z_20 V, z_21 V, z_22 V, z_23 V, z_24 V, z_25 V, z_26 V, z_27 V, z_28 V, .inl (V.2.1 5, 3, .inr (.inr (.inr (.inr (va_up (fun _ => none) (tn 0) (some (V.2.2.1 + 59))))))), .inl (V.2.1 6, 3, .inr (.inr (.inr (.inr (va_up (fun _ => none) (tn 0) (some (V.2.2.1 + 63))))))), z_31 V, z_32 V, z_33 V, z_34 V, z_35 V, z_36 V, z_37 V, z_38 V, z_39 V, z_40 V, z_41 V, z_42 V, z_43 V, z_44 V, z_45 V, z_46 V, z_47 V, z_48 V, z_49 V, z_50 V, z_51 V, z_52 V, z_53 V, z_54 V, z_55 V, z_56 V, z_57 V, z_58 V, z_59 V, z_60 V, z_61 V, z_62 V, z_63 V, z_64 V, z_65 V, z_66 V, z_67 V, z_68 V, z_69 V, .inr (1, [.ref (V.2.2.1 + 71), .ref (V.2.2.1 + 72), .ref (V.2.2.1 + 73), .int 0, .int 0, .int 0]), .inl (V.2.1 0, 12, .inl (fun _ => 0)), .inl (V.2.1 0, 12, .inl (fun _ => 0)), .inl (V.2.1 1, 12, .inr (.inl (fun _ => 0)))] X k_fl_X1_22 (dcl_Cl 3 (by decide)) rfl rfl rfl (by decide) rfl dX1_init_30 ?_
  refine c_aload_n (pc := 33) X.1 0 rfl dX1_init_33 ?_
  refine c_iconst (v := 0) (pc := 34) X.1 rfl dX1_init_34 ?_
  refine c_put (k := 70) (pc := 35) [.inr (8, [.int 0, .long 0, .long 1, .ref (V.2.2.1 + 1), .ref (V.2.2.1 + 2), .ref (V.2.2.1 + 7), .ref (V.2.2.1 + 11), .ref (V.2.2.1 + 15), .ref (V.2.2.1 + 22), .ref (V.2.2.1 + 29), .ref (V.2.2.1 + 30), .int 0, .ref (V.2.2.1 + 31), .ref (V.2.2.1 + 35), .ref (V.2.2.1 + 36), .ref (V.2.2.1 + 47), .ref (V.2.2.1 + 49)]), .inl (V.2.1 4, 4, .inr (.inr (.inr (.inr (va_up (va_up (va_up (va_up (fun _ => none) (tn 0) (some (V.2.2.1 + 51))) (tn 1) (some (V.2.2.1 + 53))) (tn 2) (some (V.2.2.1 + 55))) (tn 3) (some (V.2.2.1 + 57))))))), z_2 V, z_3 V, z_4 V, z_5 V, z_6 V, z_7 V, z_8 V, z_9 V, z_10 V, z_11 V, z_12 V, z_13 V, z_14 V, z_15 V, z_16 V, z_17 V, z_18 V, z_19 V, z_20 V, z_21 V, z_22 V, z_23 V, z_24 V, z_25 V, z_26 V, z_27 V, z_28 V, .inl (V.2.1 5, 3, .inr (.inr (.inr (.inr (va_up (fun _ => none) (tn 0) (some (V.2.2.1 + 59))))))), .inl (V.2.1 6, 3, .inr (.inr (.inr (.inr (va_up (fun _ => none) (tn 0) (some (V.2.2.1 + 63))))))), z_31 V, z_32 V, z_33 V, z_34 V, z_35 V, z_36 V, z_37 V, z_38 V, z_39 V, z_40 V, z_41 V, z_42 V, z_43 V, z_44 V, z_45 V, z_46 V, z_47 V, z_48 V, z_49 V, z_50 V, z_51 V, z_52 V, z_53 V, z_54 V, z_55 V, z_56 V, z_57 V, z_58 V, z_59 V, z_60 V, z_61 V, z_62 V, z_63 V, z_64 V, z_65 V, z_66 V, z_67 V, z_68 V, z_69 V, .inr (1, [.ref (V.2.2.1 + 71), .ref (V.2.2.1 + 72), .ref (V.2.2.1 + 73), .int 0, .int 0, .int 0]), .inl (V.2.1 0, 12, .inl (fun _ => 0)), .inl (V.2.1 0, 12, .inl (fun _ => 0)), .inl (V.2.1 1, 12, .inr (.inl (fun _ => 0)))] X k_fl_X1_26 (dcl_Cl 4 (by decide)) rfl rfl rfl (by decide) rfl dX1_init_35 ?_
  refine c_aload_n (pc := 38) X.1 0 rfl dX1_init_38 ?_
  refine c_iconst (v := 4) (pc := 39) X.1 rfl dX1_init_39 ?_
  refine c_put (k := 70) (pc := 40) [.inr (8, [.int 0, .long 0, .long 1, .ref (V.2.2.1 + 1), .ref (V.2.2.1 + 2), .ref (V.2.2.1 + 7), .ref (V.2.2.1 + 11), .ref (V.2.2.1 + 15), .ref (V.2.2.1 + 22), .ref (V.2.2.1 + 29), .ref (V.2.2.1 + 30), .int 0, .ref (V.2.2.1 + 31), .ref (V.2.2.1 + 35), .ref (V.2.2.1 + 36), .ref (V.2.2.1 + 47), .ref (V.2.2.1 + 49)]), .inl (V.2.1 4, 4, .inr (.inr (.inr (.inr (va_up (va_up (va_up (va_up (fun _ => none) (tn 0) (some (V.2.2.1 + 51))) (tn 1) (some (V.2.2.1 + 53))) (tn 2) (some (V.2.2.1 + 55))) (tn 3) (some (V.2.2.1 + 57))))))), z_2 V, z_3 V, z_4 V, z_5 V, z_6 V, z_7 V, z_8 V, z_9 V, z_10 V, z_11 V, z_12 V, z_13 V, z_14 V, z_15 V, z_16 V, z_17 V, z_18 V, z_19 V, z_20 V, z_21 V, z_22 V, z_23 V, z_24 V, z_25 V, z_26 V, z_27 V, z_28 V, .inl (V.2.1 5, 3, .inr (.inr (.inr (.inr (va_up (fun _ => none) (tn 0) (some (V.2.2.1 + 59))))))), .inl (V.2.1 6, 3, .inr (.inr (.inr (.inr (va_up (fun _ => none) (tn 0) (some (V.2.2.1 + 63))))))), z_31 V, z_32 V, z_33 V, z_34 V, z_35 V, z_36 V, z_37 V, z_38 V, z_39 V, z_40 V, z_41 V, z_42 V, z_43 V, z_44 V, z_45 V, z_46 V, z_47 V, z_48 V, z_49 V, z_50 V, z_51 V, z_52 V, z_53 V, z_54 V, z_55 V, z_56 V, z_57 V, z_58 V, z_59 V, z_60 V, z_61 V, z_62 V, z_63 V, z_64 V, z_65 V, z_66 V, z_67 V, z_68 V, z_69 V, .inr (1, [.ref (V.2.2.1 + 71), .ref (V.2.2.1 + 72), .ref (V.2.2.1 + 73), .int 0, .int 0, .int 4]), .inl (V.2.1 0, 12, .inl (fun _ => 0)), .inl (V.2.1 0, 12, .inl (fun _ => 0)), .inl (V.2.1 1, 12, .inr (.inl (fun _ => 0)))] X k_fl_X1_29 (dcl_Cl 5 (by decide)) rfl rfl rfl (by decide) rfl dX1_init_40 ?_
  exact c_vret (pc := 43) X.1 rfl rfl dX1_init_43
def z_74 (V : Ev) : va_E := .inr (2, [.ref (V.2.2.1 + 75), .ref (V.2.2.1 + 76), .ref (V.2.2.1 + 77), .ref (V.2.2.1 + 78), .ref (V.2.2.1 + 79), .ref (V.2.2.1 + 80), .int 0, .int 0, .int 0])
def z_75 (V : Ev) : va_E := .inl (V.2.1 0, 60, .inl (fun _ => 0))
def z_76 (V : Ev) : va_E := .inl (V.2.1 0, 60, .inl (fun _ => 0))
def z_77 (V : Ev) : va_E := .inl (V.2.1 0, 60, .inl (fun _ => 0))
def z_78 (V : Ev) : va_E := .inl (V.2.1 0, 60, .inl (fun _ => 0))
def z_79 (V : Ev) : va_E := .inl (V.2.1 0, 60, .inl (fun _ => 0))
def z_80 (V : Ev) : va_E := .inl (V.2.1 0, 60, .inl (fun _ => 0))
set_option maxRecDepth 100000 in
set_option maxHeartbeats 4000000 in
theorem there {V : Ev} : Rc V 1 M_X2_init [.ref (V.2.2.1 + 74)] [.inr (8, [.int 0, .long 0, .long 1, .ref (V.2.2.1 + 1), .ref (V.2.2.1 + 2), .ref (V.2.2.1 + 7), .ref (V.2.2.1 + 11), .ref (V.2.2.1 + 15), .ref (V.2.2.1 + 22), .ref (V.2.2.1 + 29), .ref (V.2.2.1 + 30), .int 0, .ref (V.2.2.1 + 31), .ref (V.2.2.1 + 35), .ref (V.2.2.1 + 36), .ref (V.2.2.1 + 47), .ref (V.2.2.1 + 49)]), .inl (V.2.1 4, 4, .inr (.inr (.inr (.inr (va_up (va_up (va_up (va_up (fun _ => none) (tn 0) (some (V.2.2.1 + 51))) (tn 1) (some (V.2.2.1 + 53))) (tn 2) (some (V.2.2.1 + 55))) (tn 3) (some (V.2.2.1 + 57))))))), z_2 V, z_3 V, z_4 V, z_5 V, z_6 V, z_7 V, z_8 V, z_9 V, z_10 V, z_11 V, z_12 V, z_13 V, z_14 V, z_15 V, z_16 V, z_17 V, z_18 V, z_19 V, z_20 V, z_21 V, z_22 V, z_23 V, z_24 V, z_25 V, z_26 V, z_27 V, z_28 V, .inl (V.2.1 5, 3, .inr (.inr (.inr (.inr (va_up (va_up (fun _ => none) (tn 0) (some (V.2.2.1 + 59))) (tn 1) (some (V.2.2.1 + 70))))))), .inl (V.2.1 6, 3, .inr (.inr (.inr (.inr (va_up (fun _ => none) (tn 0) (some (V.2.2.1 + 63))))))), z_31 V, z_32 V, z_33 V, z_34 V, z_35 V, z_36 V, z_37 V, z_38 V, z_39 V, z_40 V, z_41 V, z_42 V, z_43 V, z_44 V, z_45 V, z_46 V, z_47 V, z_48 V, z_49 V, z_50 V, z_51 V, z_52 V, z_53 V, z_54 V, z_55 V, z_56 V, z_57 V, z_58 V, z_59 V, z_60 V, z_61 V, z_62 V, z_63 V, z_64 V, z_65 V, z_66 V, z_67 V, z_68 V, z_69 V, z_70 V, z_71 V, z_72 V, z_73 V, .inr (2, [.null, .null, .null, .null, .null, .null, .int 0, .int 0, .int 0])] [.inr (8, [.int 0, .long 0, .long 1, .ref (V.2.2.1 + 1), .ref (V.2.2.1 + 2), .ref (V.2.2.1 + 7), .ref (V.2.2.1 + 11), .ref (V.2.2.1 + 15), .ref (V.2.2.1 + 22), .ref (V.2.2.1 + 29), .ref (V.2.2.1 + 30), .int 0, .ref (V.2.2.1 + 31), .ref (V.2.2.1 + 35), .ref (V.2.2.1 + 36), .ref (V.2.2.1 + 47), .ref (V.2.2.1 + 49)]), .inl (V.2.1 4, 4, .inr (.inr (.inr (.inr (va_up (va_up (va_up (va_up (fun _ => none) (tn 0) (some (V.2.2.1 + 51))) (tn 1) (some (V.2.2.1 + 53))) (tn 2) (some (V.2.2.1 + 55))) (tn 3) (some (V.2.2.1 + 57))))))), z_2 V, z_3 V, z_4 V, z_5 V, z_6 V, z_7 V, z_8 V, z_9 V, z_10 V, z_11 V, z_12 V, z_13 V, z_14 V, z_15 V, z_16 V, z_17 V, z_18 V, z_19 V, z_20 V, z_21 V, z_22 V, z_23 V, z_24 V, z_25 V, z_26 V, z_27 V, z_28 V, .inl (V.2.1 5, 3, .inr (.inr (.inr (.inr (va_up (va_up (fun _ => none) (tn 0) (some (V.2.2.1 + 59))) (tn 1) (some (V.2.2.1 + 70))))))), .inl (V.2.1 6, 3, .inr (.inr (.inr (.inr (va_up (fun _ => none) (tn 0) (some (V.2.2.1 + 63))))))), z_31 V, z_32 V, z_33 V, z_34 V, z_35 V, z_36 V, z_37 V, z_38 V, z_39 V, z_40 V, z_41 V, z_42 V, z_43 V, z_44 V, z_45 V, z_46 V, z_47 V, z_48 V, z_49 V, z_50 V, z_51 V, z_52 V, z_53 V, z_54 V, z_55 V, z_56 V, z_57 V, z_58 V, z_59 V, z_60 V, z_61 V, z_62 V, z_63 V, z_64 V, z_65 V, z_66 V, z_67 V, z_68 V, z_69 V, z_70 V, z_71 V, z_72 V, z_73 V, z_74 V, z_75 V, z_76 V, z_77 V, z_78 V, z_79 V, z_80 V] 6 360 := by
  refine Rc.of (by decide +kernel) rfl (Nat.le_of_ble_eq_true rfl) (fun Γ X => ?_)

  refine c_aload_n (pc := 0) X.1 0 rfl dX2_init_0 ?_
  refine c_objInit (pc := 1) X.1 k_oi_X2 k_oi2 k_oi3 (Nat.le_of_ble_eq_true rfl) (Nat.le_of_ble_eq_true rfl) dX2_init_1 ?_
  refine c_aload_n (pc := 4) X.1 0 rfl dX2_init_4 ?_
  refine c_bipush (v := 60) (pc := 5) X.1 (by decide) dX2_init_5 ?_
  refine c_newa (ty := .int) (N := 60) (ak := 0) (a0 := .inl (fun _ => 0)) (pc := 7) X.1 X.2.2 rfl k_arr_0 rfl (fun _ h => by cases h) rfl (fun _ => rfl) (by decide) (by decide) (Nat.le_of_ble_eq_true rfl) (Nat.le_of_ble_eq_true rfl) (Nat.le_of_ble_eq_true rfl) dX2_init_7 ?_
  refine c_put (k := 74) (pc := 9) [.inr (8, [.int 0, .long 0, .long 1, .ref (V.2.2.1 + 1), .ref (V.2.2.1 + 2), .ref (V.2.2.1 + 7), .ref (V.2.2.1 + 11), .ref (V.2.2.1 + 15), .ref (V.2.2.1 + 22), .ref (V.2.2.1 + 29), .ref (V.2.2.1 + 30), .int 0, .ref (V.2.2.1 + 31), .ref (V.2.2.1 + 35), .ref (V.2.2.1 + 36), .ref (V.2.2.1 + 47), .ref (V.2.2.1 + 49)]), .inl (V.2.1 4, 4, .inr (.inr (.inr (.inr (va_up (va_up (va_up (va_up (fun _ => none) (tn 0) (some (V.2.2.1 + 51))) (tn 1) (some (V.2.2.1 + 53))) (tn 2) (some (V.2.2.1 + 55))) (tn 3) (some (V.2.2.1 + 57))))))), z_2 V, z_3 V, z_4 V, z_5 V, z_6 V, z_7 V, z_8 V, z_9 V, z_10 V, z_11 V, z_12 V, z_13 V, z_14 V, z_15 V, z_16 V, z_17 V, z_18 V, z_19 V, z_20 V, z_21 V, z_22 V, z_23 V, z_24 V, z_25 V, z_26 V, z_27 V, z_28 V, .inl (V.2.1 5, 3, .inr (.inr (.inr (.inr (va_up (va_up (fun _ => none) (tn 0) (some (V.2.2.1 + 59))) (tn 1) (some (V.2.2.1 + 70))))))), .inl (V.2.1 6, 3, .inr (.inr (.inr (.inr (va_up (fun _ => none) (tn 0) (some (V.2.2.1 + 63))))))), z_31 V, z_32 V, z_33 V, z_34 V, z_35 V, z_36 V, z_37 V, z_38 V, z_39 V, z_40 V, z_41 V, z_42 V, z_43 V, z_44 V, z_45 V, z_46 V, z_47 V, z_48 V, z_49 V, z_50 V, z_51 V, z_52 V, z_53 V, z_54 V, z_55 V, z_56 V, z_57 V, z_58 V, z_59 V, z_60 V, z_61 V, z_62 V, z_63 V, z_64 V, z_65 V, z_66 V, z_67 V, z_68 V, z_69 V, z_70 V, z_71 V, z_72 V, z_73 V, .inr (2, [.ref (V.2.2.1 + 75), .null, .null, .null, .null, .null, .int 0, .int 0, .int 0]), .inl (V.2.1 0, 60, .inl (fun _ => 0))] X k_fl_X2_9 (dcl_Da 0 (by decide)) rfl rfl rfl (by decide) rfl dX2_init_9 ?_
  refine c_aload_n (pc := 12) X.1 0 rfl dX2_init_12 ?_
  refine c_bipush (v := 60) (pc := 13) X.1 (by decide) dX2_init_13 ?_
  refine c_newa (ty := .int) (N := 60) (ak := 0) (a0 := .inl (fun _ => 0)) (pc := 15) X.1 X.2.2 rfl k_arr_0 rfl (fun _ h => by cases h) rfl (fun _ => rfl) (by decide) (by decide) (Nat.le_of_ble_eq_true rfl) (Nat.le_of_ble_eq_true rfl) (Nat.le_of_ble_eq_true rfl) dX2_init_15 ?_
  refine c_put (k := 74) (pc := 17) [.inr (8, [.int 0, .long 0, .long 1, .ref (V.2.2.1 + 1), .ref (V.2.2.1 + 2), .ref (V.2.2.1 + 7), .ref (V.2.2.1 + 11), .ref (V.2.2.1 + 15), .ref (V.2.2.1 + 22), .ref (V.2.2.1 + 29), .ref (V.2.2.1 + 30), .int 0, .ref (V.2.2.1 + 31), .ref (V.2.2.1 + 35), .ref (V.2.2.1 + 36), .ref (V.2.2.1 + 47), .ref (V.2.2.1 + 49)]), .inl (V.2.1 4, 4, .inr (.inr (.inr (.inr (va_up (va_up (va_up (va_up (fun _ => none) (tn 0) (some (V.2.2.1 + 51))) (tn 1) (some (V.2.2.1 + 53))) (tn 2) (some (V.2.2.1 + 55))) (tn 3) (some (V.2.2.1 + 57))))))), z_2 V, z_3 V, z_4 V, z_5 V, z_6 V, z_7 V, z_8 V, z_9 V, z_10 V, z_11 V, z_12 V, z_13 V, z_14 V, z_15 V, z_16 V, z_17 V, z_18 V, z_19 V, z_20 V, z_21 V, z_22 V, z_23 V, z_24 V, z_25 V, z_26 V, z_27 V, z_28 V, .inl (V.2.1 5, 3, .inr (.inr (.inr (.inr (va_up (va_up (fun _ => none) (tn 0) (some (V.2.2.1 + 59))) (tn 1) (some (V.2.2.1 + 70))))))), .inl (V.2.1 6, 3, .inr (.inr (.inr (.inr (va_up (fun _ => none) (tn 0) (some (V.2.2.1 + 63))))))), z_31 V, z_32 V, z_33 V, z_34 V, z_35 V, z_36 V, z_37 V, z_38 V, z_39 V, z_40 V, z_41 V, z_42 V, z_43 V, z_44 V, z_45 V, z_46 V, z_47 V, z_48 V, z_49 V, z_50 V, z_51 V, z_52 V, z_53 V, z_54 V, z_55 V, z_56 V, z_57 V, z_58 V, z_59 V, z_60 V, z_61 V, z_62 V, z_63 V, z_64 V, z_65 V, z_66 V, z_67 V, z_68 V, z_69 V, z_70 V, z_71 V, z_72 V, z_73 V, .inr (2, [.ref (V.2.2.1 + 75), .ref (V.2.2.1 + 76), .null, .null, .null, .null, .int 0, .int 0, .int 0]), .inl (V.2.1 0, 60, .inl (fun _ => 0)), .inl (V.2.1 0, 60, .inl (fun _ => 0))] X k_fl_X2_13 (dcl_Da 1 (by decide)) rfl rfl rfl (by decide) rfl dX2_init_17 ?_
  refine c_aload_n (pc := 20) X.1 0 rfl dX2_init_20 ?_
  refine c_bipush (v := 60) (pc := 21) X.1 (by decide) dX2_init_21 ?_
  refine c_newa (ty := .int) (N := 60) (ak := 0) (a0 := .inl (fun _ => 0)) (pc := 23) X.1 X.2.2 rfl k_arr_0 rfl (fun _ h => by cases h) rfl (fun _ => rfl) (by decide) (by decide) (Nat.le_of_ble_eq_true rfl) (Nat.le_of_ble_eq_true rfl) (Nat.le_of_ble_eq_true rfl) dX2_init_23 ?_
  refine c_put (k := 74) (pc := 25) [.inr (8, [.int 0, .long 0, .long 1, .ref (V.2.2.1 + 1), .ref (V.2.2.1 + 2), .ref (V.2.2.1 + 7), .ref (V.2.2.1 + 11), .ref (V.2.2.1 + 15), .ref (V.2.2.1 + 22), .ref (V.2.2.1 + 29), .ref (V.2.2.1 + 30), .int 0, .ref (V.2.2.1 + 31), .ref (V.2.2.1 + 35), .ref (V.2.2.1 + 36), .ref (V.2.2.1 + 47), .ref (V.2.2.1 + 49)]), .inl (V.2.1 4, 4, .inr (.inr (.inr (.inr (va_up (va_up (va_up (va_up (fun _ => none) (tn 0) (some (V.2.2.1 + 51))) (tn 1) (some (V.2.2.1 + 53))) (tn 2) (some (V.2.2.1 + 55))) (tn 3) (some (V.2.2.1 + 57))))))), z_2 V, z_3 V, z_4 V, z_5 V, z_6 V, z_7 V, z_8 V, z_9 V, z_10 V, z_11 V, z_12 V, z_13 V, z_14 V, z_15 V, z_16 V, z_17 V, z_18 V, z_19 V, z_20 V, z_21 V, z_22 V, z_23 V, z_24 V, z_25 V, z_26 V, z_27 V, z_28 V, .inl (V.2.1 5, 3, .inr (.inr (.inr (.inr (va_up (va_up (fun _ => none) (tn 0) (some (V.2.2.1 + 59))) (tn 1) (some (V.2.2.1 + 70))))))), .inl (V.2.1 6, 3, .inr (.inr (.inr (.inr (va_up (fun _ => none) (tn 0) (some (V.2.2.1 + 63))))))), z_31 V, z_32 V, z_33 V, z_34 V, z_35 V, z_36 V, z_37 V, z_38 V, z_39 V, z_40 V, z_41 V, z_42 V, z_43 V, z_44 V, z_45 V, z_46 V, z_47 V, z_48 V, z_49 V, z_50 V, z_51 V, z_52 V, z_53 V, z_54 V, z_55 V, z_56 V, z_57 V, z_58 V, z_59 V, z_60 V, z_61 V, z_62 V, z_63 V, z_64 V, z_65 V, z_66 V, z_67 V, z_68 V, z_69 V, z_70 V, z_71 V, z_72 V, z_73 V, .inr (2, [.ref (V.2.2.1 + 75), .ref (V.2.2.1 + 76), .ref (V.2.2.1 + 77), .null, .null, .null, .int 0, .int 0, .int 0]), .inl (V.2.1 0, 60, .inl (fun _ => 0)), .inl (V.2.1 0, 60, .inl (fun _ => 0)), .inl (V.2.1 0, 60, .inl (fun _ => 0))] X k_fl_X2_16 (dcl_Da 2 (by decide)) rfl rfl rfl (by decide) rfl dX2_init_25 ?_
  refine c_aload_n (pc := 28) X.1 0 rfl dX2_init_28 ?_
  refine c_bipush (v := 60) (pc := 29) X.1 (by decide) dX2_init_29 ?_
  refine c_newa (ty := .int) (N := 60) (ak := 0) (a0 := .inl (fun _ => 0)) (pc := 31) X.1 X.2.2 rfl k_arr_0 rfl (fun _ h => by cases h) rfl (fun _ => rfl) (by decide) (by decide) (Nat.le_of_ble_eq_true rfl) (Nat.le_of_ble_eq_true rfl) (Nat.le_of_ble_eq_true rfl) dX2_init_31 ?_
  refine c_put (k := 74) (pc := 33) [.inr (8, [.int 0, .long 0, .long 1, .ref (V.2.2.1 + 1), .ref (V.2.2.1 + 2), .ref (V.2.2.1 + 7), .ref (V.2.2.1 + 11), .ref (V.2.2.1 + 15), .ref (V.2.2.1 + 22), .ref (V.2.2.1 + 29), .ref (V.2.2.1 + 30), .int 0, .ref (V.2.2.1 + 31), .ref (V.2.2.1 + 35), .ref (V.2.2.1 + 36), .ref (V.2.2.1 + 47), .ref (V.2.2.1 + 49)]), .inl (V.2.1 4, 4, .inr (.inr (.inr (.inr (va_up (va_up (va_up (va_up (fun _ => none) (tn 0) (some (V.2.2.1 + 51))) (tn 1) (some (V.2.2.1 + 53))) (tn 2) (some (V.2.2.1 + 55))) (tn 3) (some (V.2.2.1 + 57))))))), z_2 V, z_3 V, z_4 V, z_5 V, z_6 V, z_7 V, z_8 V, z_9 V, z_10 V, z_11 V, z_12 V, z_13 V, z_14 V, z_15 V, z_16 V, z_17 V, z_18 V, z_19 V, z_20 V, z_21 V, z_22 V, z_23 V, z_24 V, z_25 V, z_26 V, z_27 V, z_28 V, .inl (V.2.1 5, 3, .inr (.inr (.inr (.inr (va_up (va_up (fun _ => none) (tn 0) (some (V.2.2.1 + 59))) (tn 1) (some (V.2.2.1 + 70))))))), .inl (V.2.1 6, 3, .inr (.inr (.inr (.inr (va_up (fun _ => none) (tn 0) (some (V.2.2.1 + 63))))))), z_31 V, z_32 V, z_33 V, z_34 V, z_35 V, z_36 V, z_37 V, z_38 V, z_39 V, z_40 V, z_41 V, z_42 V, z_43 V, z_44 V, z_45 V, z_46 V, z_47 V, z_48 V, z_49 V, z_50 V, z_51 V, z_52 V, z_53 V, z_54 V, z_55 V, z_56 V, z_57 V, z_58 V, z_59 V, z_60 V, z_61 V, z_62 V, z_63 V, z_64 V, z_65 V, z_66 V, z_67 V, z_68 V, z_69 V, z_70 V, z_71 V, z_72 V, z_73 V, .inr (2, [.ref (V.2.2.1 + 75), .ref (V.2.2.1 + 76), .ref (V.2.2.1 + 77), .ref (V.2.2.1 + 78), .null, .null, .int 0, .int 0, .int 0]), .inl (V.2.1 0, 60, .inl (fun _ => 0)), .inl (V.2.1 0, 60, .inl (fun _ => 0)), .inl (V.2.1 0, 60, .inl (fun _ => 0)), .inl (V.2.1 0, 60, .inl (fun _ => 0))] X k_fl_X2_19 (dcl_Da 3 (by decide)) rfl rfl rfl (by decide) rfl dX2_init_33 ?_
  refine c_aload_n (pc := 36) X.1 0 rfl dX2_init_36 ?_
  refine c_bipush (v := 60) (pc := 37) X.1 (by decide) dX2_init_37 ?_
  refine c_newa (ty := .int) (N := 60) (ak := 0) (a0 := .inl (fun _ => 0)) (pc := 39) X.1 X.2.2 rfl k_arr_0 rfl (fun _ h => by cases h) rfl (fun _ => rfl) (by decide) (by decide) (Nat.le_of_ble_eq_true rfl) (Nat.le_of_ble_eq_true rfl) (Nat.le_of_ble_eq_true rfl) dX2_init_39 ?_
  refine c_put (k := 74) (pc := 41) [.inr (8, [.int 0, .long 0, .long 1, .ref (V.2.2.1 + 1), .ref (V.2.2.1 + 2), .ref (V.2.2.1 + 7), .ref (V.2.2.1 + 11), .ref (V.2.2.1 + 15), .ref (V.2.2.1 + 22), .ref (V.2.2.1 + 29), .ref (V.2.2.1 + 30), .int 0, .ref (V.2.2.1 + 31), .ref (V.2.2.1 + 35), .ref (V.2.2.1 + 36), .ref (V.2.2.1 + 47), .ref (V.2.2.1 + 49)]), .inl (V.2.1 4, 4, .inr (.inr (.inr (.inr (va_up (va_up (va_up (va_up (fun _ => none) (tn 0) (some (V.2.2.1 + 51))) (tn 1) (some (V.2.2.1 + 53))) (tn 2) (some (V.2.2.1 + 55))) (tn 3) (some (V.2.2.1 + 57))))))), z_2 V, z_3 V, z_4 V, z_5 V, z_6 V, z_7 V, z_8 V, z_9 V, z_10 V, z_11 V, z_12 V, z_13 V, z_14 V, z_15 V, z_16 V, z_17 V, z_18 V, z_19 V, z_20 V, z_21 V, z_22 V, z_23 V, z_24 V, z_25 V, z_26 V, z_27 V, z_28 V, .inl (V.2.1 5, 3, .inr (.inr (.inr (.inr (va_up (va_up (fun _ => none) (tn 0) (some (V.2.2.1 + 59))) (tn 1) (some (V.2.2.1 + 70))))))), .inl (V.2.1 6, 3, .inr (.inr (.inr (.inr (va_up (fun _ => none) (tn 0) (some (V.2.2.1 + 63))))))), z_31 V, z_32 V, z_33 V, z_34 V, z_35 V, z_36 V, z_37 V, z_38 V, z_39 V, z_40 V, z_41 V, z_42 V, z_43 V, z_44 V, z_45 V, z_46 V, z_47 V, z_48 V, z_49 V, z_50 V, z_51 V, z_52 V, z_53 V, z_54 V, z_55 V, z_56 V, z_57 V, z_58 V, z_59 V, z_60 V, z_61 V, z_62 V, z_63 V, z_64 V, z_65 V, z_66 V, z_67 V, z_68 V, z_69 V, z_70 V, z_71 V, z_72 V, z_73 V, .inr (2, [.ref (V.2.2.1 + 75), .ref (V.2.2.1 + 76), .ref (V.2.2.1 + 77), .ref (V.2.2.1 + 78), .ref (V.2.2.1 + 79), .null, .int 0, .int 0, .int 0]), .inl (V.2.1 0, 60, .inl (fun _ => 0)), .inl (V.2.1 0, 60, .inl (fun _ => 0)), .inl (V.2.1 0, 60, .inl (fun _ => 0)), .inl (V.2.1 0, 60, .inl (fun _ => 0)), .inl (V.2.1 0, 60, .inl (fun _ => 0))] X k_fl_X2_22 (dcl_Da 4 (by decide)) rfl rfl rfl (by decide) rfl dX2_init_41 ?_
  refine c_aload_n (pc := 44) X.1 0 rfl dX2_init_44 ?_
  refine c_bipush (v := 60) (pc := 45) X.1 (by decide) dX2_init_45 ?_
  refine c_newa (ty := .int) (N := 60) (ak := 0) (a0 := .inl (fun _ => 0)) (pc := 47) X.1 X.2.2 rfl k_arr_0 rfl (fun _ h => by cases h) rfl (fun _ => rfl) (by decide) (by decide) (Nat.le_of_ble_eq_true rfl) (Nat.le_of_ble_eq_true rfl) (Nat.le_of_ble_eq_true rfl) dX2_init_47 ?_
  refine c_put (k := 74) (pc := 49) [.inr (8, [.int 0, .long 0, .long 1, .ref (V.2.2.1 + 1), .ref (V.2.2.1 + 2), .ref (V.2.2.1 + 7), .ref (V.2.2.1 + 11), .ref (V.2.2.1 + 15), .ref (V.2.2.1 + 22), .ref (V.2.2.1 + 29), .ref (V.2.2.1 + 30), .int 0, .ref (V.2.2.1 + 31), .ref (V.2.2.1 + 35), .ref (V.2.2.1 + 36), .ref (V.2.2.1 + 47), .ref (V.2.2.1 + 49)]), .inl (V.2.1 4, 4, .inr (.inr (.inr (.inr (va_up (va_up (va_up (va_up (fun _ => none) (tn 0) (some (V.2.2.1 + 51))) (tn 1) (some (V.2.2.1 + 53))) (tn 2) (some (V.2.2.1 + 55))) (tn 3) (some (V.2.2.1 + 57))))))), z_2 V, z_3 V, z_4 V, z_5 V, z_6 V, z_7 V, z_8 V, z_9 V, z_10 V, z_11 V, z_12 V, z_13 V, z_14 V, z_15 V, z_16 V, z_17 V, z_18 V, z_19 V, z_20 V, z_21 V, z_22 V, z_23 V, z_24 V, z_25 V, z_26 V, z_27 V, z_28 V, .inl (V.2.1 5, 3, .inr (.inr (.inr (.inr (va_up (va_up (fun _ => none) (tn 0) (some (V.2.2.1 + 59))) (tn 1) (some (V.2.2.1 + 70))))))), .inl (V.2.1 6, 3, .inr (.inr (.inr (.inr (va_up (fun _ => none) (tn 0) (some (V.2.2.1 + 63))))))), z_31 V, z_32 V, z_33 V, z_34 V, z_35 V, z_36 V, z_37 V, z_38 V, z_39 V, z_40 V, z_41 V, z_42 V, z_43 V, z_44 V, z_45 V, z_46 V, z_47 V, z_48 V, z_49 V, z_50 V, z_51 V, z_52 V, z_53 V, z_54 V, z_55 V, z_56 V, z_57 V, z_58 V, z_59 V, z_60 V, z_61 V, z_62 V, z_63 V, z_64 V, z_65 V, z_66 V, z_67 V, z_68 V, z_69 V, z_70 V, z_71 V, z_72 V, z_73 V, .inr (2, [.ref (V.2.2.1 + 75), .ref (V.2.2.1 + 76), .ref (V.2.2.1 + 77), .ref (V.2.2.1 + 78), .ref (V.2.2.1 + 79), .ref (V.2.2.1 + 80), .int 0, .int 0, .int 0]), .inl (V.2.1 0, 60, .inl (fun _ => 0)), .inl (V.2.1 0, 60, .inl (fun _ => 0)), .inl (V.2.1 0, 60, .inl (fun _ => 0)), .inl (V.2.1 0, 60, .inl (fun _ => 0)), .inl (V.2.1 0, 60, .inl (fun _ => 0)), .inl (V.2.1 0, 60, .inl (fun _ => 0))] X k_fl_X2_25 (dcl_Da 5 (by decide)) rfl rfl rfl (by decide) rfl dX2_init_49 ?_
  refine c_aload_n (pc := 52) X.1 0 rfl dX2_init_52 ?_
  refine c_iconst (v := 0) (pc := 53) X.1 rfl dX2_init_53 ?_
  refine c_put (k := 74) (pc := 54) [.inr (8, [.int 0, .long 0, .long 1, .ref (V.2.2.1 + 1), .ref (V.2.2.1 + 2), .ref (V.2.2.1 + 7), .ref (V.2.2.1 + 11), .ref (V.2.2.1 + 15), .ref (V.2.2.1 + 22), .ref (V.2.2.1 + 29), .ref (V.2.2.1 + 30), .int 0, .ref (V.2.2.1 + 31), .ref (V.2.2.1 + 35), .ref (V.2.2.1 + 36), .ref (V.2.2.1 + 47), .ref (V.2.2.1 + 49)]), .inl (V.2.1 4, 4, .inr (.inr (.inr (.inr (va_up (va_up (va_up (va_up (fun _ => none) (tn 0) (some (V.2.2.1 + 51))) (tn 1) (some (V.2.2.1 + 53))) (tn 2) (some (V.2.2.1 + 55))) (tn 3) (some (V.2.2.1 + 57))))))), z_2 V, z_3 V, z_4 V, z_5 V, z_6 V, z_7 V, z_8 V, z_9 V, z_10 V, z_11 V, z_12 V, z_13 V, z_14 V, z_15 V, z_16 V, z_17 V, z_18 V, z_19 V, z_20 V, z_21 V, z_22 V, z_23 V, z_24 V, z_25 V, z_26 V, z_27 V, z_28 V, .inl (V.2.1 5, 3, .inr (.inr (.inr (.inr (va_up (va_up (fun _ => none) (tn 0) (some (V.2.2.1 + 59))) (tn 1) (some (V.2.2.1 + 70))))))), .inl (V.2.1 6, 3, .inr (.inr (.inr (.inr (va_up (fun _ => none) (tn 0) (some (V.2.2.1 + 63))))))), z_31 V, z_32 V, z_33 V, z_34 V, z_35 V, z_36 V, z_37 V, z_38 V, z_39 V, z_40 V, z_41 V, z_42 V, z_43 V, z_44 V, z_45 V, z_46 V, z_47 V, z_48 V, z_49 V, z_50 V, z_51 V, z_52 V, z_53 V, z_54 V, z_55 V, z_56 V, z_57 V, z_58 V, z_59 V, z_60 V, z_61 V, z_62 V, z_63 V, z_64 V, z_65 V, z_66 V, z_67 V, z_68 V, z_69 V, z_70 V, z_71 V, z_72 V, z_73 V, .inr (2, [.ref (V.2.2.1 + 75), .ref (V.2.2.1 + 76), .ref (V.2.2.1 + 77), .ref (V.2.2.1 + 78), .ref (V.2.2.1 + 79), .ref (V.2.2.1 + 80), .int 0, .int 0, .int 0]), .inl (V.2.1 0, 60, .inl (fun _ => 0)), .inl (V.2.1 0, 60, .inl (fun _ => 0)), .inl (V.2.1 0, 60, .inl (fun _ => 0)), .inl (V.2.1 0, 60, .inl (fun _ => 0)), .inl (V.2.1 0, 60, .inl (fun _ => 0)), .inl (V.2.1 0, 60, .inl (fun _ => 0))] X k_fl_X2_28 (dcl_Da 6 (by decide)) rfl rfl rfl (by decide) rfl dX2_init_54 ?_
  refine c_aload_n (pc := 57) X.1 0 rfl dX2_init_57 ?_
  refine c_iconst (v := 0) (pc := 58) X.1 rfl dX2_init_58 ?_
  refine c_put (k := 74) (pc := 59) [.inr (8, [.int 0, .long 0, .long 1, .ref (V.2.2.1 + 1), .ref (V.2.2.1 + 2), .ref (V.2.2.1 + 7), .ref (V.2.2.1 + 11), .ref (V.2.2.1 + 15), .ref (V.2.2.1 + 22), .ref (V.2.2.1 + 29), .ref (V.2.2.1 + 30), .int 0, .ref (V.2.2.1 + 31), .ref (V.2.2.1 + 35), .ref (V.2.2.1 + 36), .ref (V.2.2.1 + 47), .ref (V.2.2.1 + 49)]), .inl (V.2.1 4, 4, .inr (.inr (.inr (.inr (va_up (va_up (va_up (va_up (fun _ => none) (tn 0) (some (V.2.2.1 + 51))) (tn 1) (some (V.2.2.1 + 53))) (tn 2) (some (V.2.2.1 + 55))) (tn 3) (some (V.2.2.1 + 57))))))), z_2 V, z_3 V, z_4 V, z_5 V, z_6 V, z_7 V, z_8 V, z_9 V, z_10 V, z_11 V, z_12 V, z_13 V, z_14 V, z_15 V, z_16 V, z_17 V, z_18 V, z_19 V, z_20 V, z_21 V, z_22 V, z_23 V, z_24 V, z_25 V, z_26 V, z_27 V, z_28 V, .inl (V.2.1 5, 3, .inr (.inr (.inr (.inr (va_up (va_up (fun _ => none) (tn 0) (some (V.2.2.1 + 59))) (tn 1) (some (V.2.2.1 + 70))))))), .inl (V.2.1 6, 3, .inr (.inr (.inr (.inr (va_up (fun _ => none) (tn 0) (some (V.2.2.1 + 63))))))), z_31 V, z_32 V, z_33 V, z_34 V, z_35 V, z_36 V, z_37 V, z_38 V, z_39 V, z_40 V, z_41 V, z_42 V, z_43 V, z_44 V, z_45 V, z_46 V, z_47 V, z_48 V, z_49 V, z_50 V, z_51 V, z_52 V, z_53 V, z_54 V, z_55 V, z_56 V, z_57 V, z_58 V, z_59 V, z_60 V, z_61 V, z_62 V, z_63 V, z_64 V, z_65 V, z_66 V, z_67 V, z_68 V, z_69 V, z_70 V, z_71 V, z_72 V, z_73 V, .inr (2, [.ref (V.2.2.1 + 75), .ref (V.2.2.1 + 76), .ref (V.2.2.1 + 77), .ref (V.2.2.1 + 78), .ref (V.2.2.1 + 79), .ref (V.2.2.1 + 80), .int 0, .int 0, .int 0]), .inl (V.2.1 0, 60, .inl (fun _ => 0)), .inl (V.2.1 0, 60, .inl (fun _ => 0)), .inl (V.2.1 0, 60, .inl (fun _ => 0)), .inl (V.2.1 0, 60, .inl (fun _ => 0)), .inl (V.2.1 0, 60, .inl (fun _ => 0)), .inl (V.2.1 0, 60, .inl (fun _ => 0))] X k_fl_X2_32 (dcl_Da 7 (by decide)) rfl rfl rfl (by decide) rfl dX2_init_59 ?_
  refine c_aload_n (pc := 62) X.1 0 rfl dX2_init_62 ?_
  refine c_iconst (v := 0) (pc := 63) X.1 rfl dX2_init_63 ?_
  refine c_put (k := 74) (pc := 64) [.inr (8, [.int 0, .long 0, .long 1, .ref (V.2.2.1 + 1), .ref (V.2.2.1 + 2), .ref (V.2.2.1 + 7), .ref (V.2.2.1 + 11), .ref (V.2.2.1 + 15), .ref (V.2.2.1 + 22), .ref (V.2.2.1 + 29), .ref (V.2.2.1 + 30), .int 0, .ref (V.2.2.1 + 31), .ref (V.2.2.1 + 35), .ref (V.2.2.1 + 36), .ref (V.2.2.1 + 47), .ref (V.2.2.1 + 49)]), .inl (V.2.1 4, 4, .inr (.inr (.inr (.inr (va_up (va_up (va_up (va_up (fun _ => none) (tn 0) (some (V.2.2.1 + 51))) (tn 1) (some (V.2.2.1 + 53))) (tn 2) (some (V.2.2.1 + 55))) (tn 3) (some (V.2.2.1 + 57))))))), z_2 V, z_3 V, z_4 V, z_5 V, z_6 V, z_7 V, z_8 V, z_9 V, z_10 V, z_11 V, z_12 V, z_13 V, z_14 V, z_15 V, z_16 V, z_17 V, z_18 V, z_19 V, z_20 V, z_21 V, z_22 V, z_23 V, z_24 V, z_25 V, z_26 V, z_27 V, z_28 V, .inl (V.2.1 5, 3, .inr (.inr (.inr (.inr (va_up (va_up (fun _ => none) (tn 0) (some (V.2.2.1 + 59))) (tn 1) (some (V.2.2.1 + 70))))))), .inl (V.2.1 6, 3, .inr (.inr (.inr (.inr (va_up (fun _ => none) (tn 0) (some (V.2.2.1 + 63))))))), z_31 V, z_32 V, z_33 V, z_34 V, z_35 V, z_36 V, z_37 V, z_38 V, z_39 V, z_40 V, z_41 V, z_42 V, z_43 V, z_44 V, z_45 V, z_46 V, z_47 V, z_48 V, z_49 V, z_50 V, z_51 V, z_52 V, z_53 V, z_54 V, z_55 V, z_56 V, z_57 V, z_58 V, z_59 V, z_60 V, z_61 V, z_62 V, z_63 V, z_64 V, z_65 V, z_66 V, z_67 V, z_68 V, z_69 V, z_70 V, z_71 V, z_72 V, z_73 V, .inr (2, [.ref (V.2.2.1 + 75), .ref (V.2.2.1 + 76), .ref (V.2.2.1 + 77), .ref (V.2.2.1 + 78), .ref (V.2.2.1 + 79), .ref (V.2.2.1 + 80), .int 0, .int 0, .int 0]), .inl (V.2.1 0, 60, .inl (fun _ => 0)), .inl (V.2.1 0, 60, .inl (fun _ => 0)), .inl (V.2.1 0, 60, .inl (fun _ => 0)), .inl (V.2.1 0, 60, .inl (fun _ => 0)), .inl (V.2.1 0, 60, .inl (fun _ => 0)), .inl (V.2.1 0, 60, .inl (fun _ => 0))] X k_fl_X2_35 (dcl_Da 8 (by decide)) rfl (by decide +kernel) (by decide +kernel) (by decide) rfl dX2_init_64 ?_
  exact c_vret (pc := 67) X.1 rfl rfl dX2_init_67
def z_81 (V : Ev) : va_E := .inr (1, [.ref (V.2.2.1 + 82), .ref (V.2.2.1 + 83), .ref (V.2.2.1 + 84), .int 0, .int 0, .int 4])
def z_82 (V : Ev) : va_E := .inl (V.2.1 0, 12, .inl (fun _ => 0))
def z_83 (V : Ev) : va_E := .inl (V.2.1 0, 12, .inl (fun _ => 0))
def z_84 (V : Ev) : va_E := .inl (V.2.1 1, 12, .inr (.inl (fun _ => 0)))
set_option maxRecDepth 100000 in
set_option maxHeartbeats 4000000 in
theorem odds {V : Ev} : Rc V 1 M_X1_init [.ref (V.2.2.1 + 81)] [.inr (8, [.int 0, .long 0, .long 1, .ref (V.2.2.1 + 1), .ref (V.2.2.1 + 2), .ref (V.2.2.1 + 7), .ref (V.2.2.1 + 11), .ref (V.2.2.1 + 15), .ref (V.2.2.1 + 22), .ref (V.2.2.1 + 29), .ref (V.2.2.1 + 30), .int 0, .ref (V.2.2.1 + 31), .ref (V.2.2.1 + 35), .ref (V.2.2.1 + 36), .ref (V.2.2.1 + 47), .ref (V.2.2.1 + 49)]), .inl (V.2.1 4, 4, .inr (.inr (.inr (.inr (va_up (va_up (va_up (va_up (fun _ => none) (tn 0) (some (V.2.2.1 + 51))) (tn 1) (some (V.2.2.1 + 53))) (tn 2) (some (V.2.2.1 + 55))) (tn 3) (some (V.2.2.1 + 57))))))), z_2 V, z_3 V, z_4 V, z_5 V, z_6 V, z_7 V, z_8 V, z_9 V, z_10 V, z_11 V, z_12 V, z_13 V, z_14 V, z_15 V, z_16 V, z_17 V, z_18 V, z_19 V, z_20 V, z_21 V, z_22 V, z_23 V, z_24 V, z_25 V, z_26 V, z_27 V, z_28 V, .inl (V.2.1 5, 3, .inr (.inr (.inr (.inr (va_up (va_up (fun _ => none) (tn 0) (some (V.2.2.1 + 59))) (tn 1) (some (V.2.2.1 + 70))))))), .inl (V.2.1 6, 3, .inr (.inr (.inr (.inr (va_up (va_up (fun _ => none) (tn 0) (some (V.2.2.1 + 63))) (tn 1) (some (V.2.2.1 + 74))))))), z_31 V, z_32 V, z_33 V, z_34 V, z_35 V, z_36 V, z_37 V, z_38 V, z_39 V, z_40 V, z_41 V, z_42 V, z_43 V, z_44 V, z_45 V, z_46 V, z_47 V, z_48 V, z_49 V, z_50 V, z_51 V, z_52 V, z_53 V, z_54 V, z_55 V, z_56 V, z_57 V, z_58 V, z_59 V, z_60 V, z_61 V, z_62 V, z_63 V, z_64 V, z_65 V, z_66 V, z_67 V, z_68 V, z_69 V, z_70 V, z_71 V, z_72 V, z_73 V, z_74 V, z_75 V, z_76 V, z_77 V, z_78 V, z_79 V, z_80 V, .inr (1, [.null, .null, .null, .int 0, .int 0, .int 0])] [.inr (8, [.int 0, .long 0, .long 1, .ref (V.2.2.1 + 1), .ref (V.2.2.1 + 2), .ref (V.2.2.1 + 7), .ref (V.2.2.1 + 11), .ref (V.2.2.1 + 15), .ref (V.2.2.1 + 22), .ref (V.2.2.1 + 29), .ref (V.2.2.1 + 30), .int 0, .ref (V.2.2.1 + 31), .ref (V.2.2.1 + 35), .ref (V.2.2.1 + 36), .ref (V.2.2.1 + 47), .ref (V.2.2.1 + 49)]), .inl (V.2.1 4, 4, .inr (.inr (.inr (.inr (va_up (va_up (va_up (va_up (fun _ => none) (tn 0) (some (V.2.2.1 + 51))) (tn 1) (some (V.2.2.1 + 53))) (tn 2) (some (V.2.2.1 + 55))) (tn 3) (some (V.2.2.1 + 57))))))), z_2 V, z_3 V, z_4 V, z_5 V, z_6 V, z_7 V, z_8 V, z_9 V, z_10 V, z_11 V, z_12 V, z_13 V, z_14 V, z_15 V, z_16 V, z_17 V, z_18 V, z_19 V, z_20 V, z_21 V, z_22 V, z_23 V, z_24 V, z_25 V, z_26 V, z_27 V, z_28 V, .inl (V.2.1 5, 3, .inr (.inr (.inr (.inr (va_up (va_up (fun _ => none) (tn 0) (some (V.2.2.1 + 59))) (tn 1) (some (V.2.2.1 + 70))))))), .inl (V.2.1 6, 3, .inr (.inr (.inr (.inr (va_up (va_up (fun _ => none) (tn 0) (some (V.2.2.1 + 63))) (tn 1) (some (V.2.2.1 + 74))))))), z_31 V, z_32 V, z_33 V, z_34 V, z_35 V, z_36 V, z_37 V, z_38 V, z_39 V, z_40 V, z_41 V, z_42 V, z_43 V, z_44 V, z_45 V, z_46 V, z_47 V, z_48 V, z_49 V, z_50 V, z_51 V, z_52 V, z_53 V, z_54 V, z_55 V, z_56 V, z_57 V, z_58 V, z_59 V, z_60 V, z_61 V, z_62 V, z_63 V, z_64 V, z_65 V, z_66 V, z_67 V, z_68 V, z_69 V, z_70 V, z_71 V, z_72 V, z_73 V, z_74 V, z_75 V, z_76 V, z_77 V, z_78 V, z_79 V, z_80 V, z_81 V, z_82 V, z_83 V, z_84 V] 3 36 := by
  refine Rc.of (by decide +kernel) rfl (Nat.le_of_ble_eq_true rfl) (fun Γ X => ?_)

  refine c_aload_n (pc := 0) X.1 0 rfl dX1_init_0 ?_
  refine c_objInit (pc := 1) X.1 k_oi_X1 k_oi2 k_oi3 (Nat.le_of_ble_eq_true rfl) (Nat.le_of_ble_eq_true rfl) dX1_init_1 ?_
  refine c_aload_n (pc := 4) X.1 0 rfl dX1_init_4 ?_
  refine c_bipush (v := 12) (pc := 5) X.1 (by decide) dX1_init_5 ?_
  refine c_newa (ty := .int) (N := 12) (ak := 0) (a0 := .inl (fun _ => 0)) (pc := 7) X.1 X.2.2 rfl k_arr_0 rfl (fun _ h => by cases h) rfl (fun _ => rfl) (by decide) (by decide) (Nat.le_of_ble_eq_true rfl) (Nat.le_of_ble_eq_true rfl) (Nat.le_of_ble_eq_true rfl) dX1_init_7 ?_
  refine c_put (k := 81) (pc := 9) [.inr (8, [.int 0, .long 0, .long 1, .ref (V.2.2.1 + 1), .ref (V.2.2.1 + 2), .ref (V.2.2.1 + 7), .ref (V.2.2.1 + 11), .ref (V.2.2.1 + 15), .ref (V.2.2.1 + 22), .ref (V.2.2.1 + 29), .ref (V.2.2.1 + 30), .int 0, .ref (V.2.2.1 + 31), .ref (V.2.2.1 + 35), .ref (V.2.2.1 + 36), .ref (V.2.2.1 + 47), .ref (V.2.2.1 + 49)]), .inl (V.2.1 4, 4, .inr (.inr (.inr (.inr (va_up (va_up (va_up (va_up (fun _ => none) (tn 0) (some (V.2.2.1 + 51))) (tn 1) (some (V.2.2.1 + 53))) (tn 2) (some (V.2.2.1 + 55))) (tn 3) (some (V.2.2.1 + 57))))))), z_2 V, z_3 V, z_4 V, z_5 V, z_6 V, z_7 V, z_8 V, z_9 V, z_10 V, z_11 V, z_12 V, z_13 V, z_14 V, z_15 V, z_16 V, z_17 V, z_18 V, z_19 V, z_20 V, z_21 V, z_22 V, z_23 V, z_24 V, z_25 V, z_26 V, z_27 V, z_28 V, .inl (V.2.1 5, 3, .inr (.inr (.inr (.inr (va_up (va_up (fun _ => none) (tn 0) (some (V.2.2.1 + 59))) (tn 1) (some (V.2.2.1 + 70))))))), .inl (V.2.1 6, 3, .inr (.inr (.inr (.inr (va_up (va_up (fun _ => none) (tn 0) (some (V.2.2.1 + 63))) (tn 1) (some (V.2.2.1 + 74))))))), z_31 V, z_32 V, z_33 V, z_34 V, z_35 V, z_36 V, z_37 V, z_38 V, z_39 V, z_40 V, z_41 V, z_42 V, z_43 V, z_44 V, z_45 V, z_46 V, z_47 V, z_48 V, z_49 V, z_50 V, z_51 V, z_52 V, z_53 V, z_54 V, z_55 V, z_56 V, z_57 V, z_58 V, z_59 V, z_60 V, z_61 V, z_62 V, z_63 V, z_64 V, z_65 V, z_66 V, z_67 V, z_68 V, z_69 V, z_70 V, z_71 V, z_72 V, z_73 V, z_74 V, z_75 V, z_76 V, z_77 V, z_78 V, z_79 V, z_80 V, .inr (1, [.ref (V.2.2.1 + 82), .null, .null, .int 0, .int 0, .int 0]), .inl (V.2.1 0, 12, .inl (fun _ => 0))] X k_fl_X1_9 (dcl_Cl 0 (by decide)) rfl rfl rfl (by decide) rfl dX1_init_9 ?_
  refine c_aload_n (pc := 12) X.1 0 rfl dX1_init_12 ?_
  refine c_bipush (v := 12) (pc := 13) X.1 (by decide) dX1_init_13 ?_
  refine c_newa (ty := .int) (N := 12) (ak := 0) (a0 := .inl (fun _ => 0)) (pc := 15) X.1 X.2.2 rfl k_arr_0 rfl (fun _ h => by cases h) rfl (fun _ => rfl) (by decide) (by decide) (Nat.le_of_ble_eq_true rfl) (Nat.le_of_ble_eq_true rfl) (Nat.le_of_ble_eq_true rfl) dX1_init_15 ?_
  refine c_put (k := 81) (pc := 17) [.inr (8, [.int 0, .long 0, .long 1, .ref (V.2.2.1 + 1), .ref (V.2.2.1 + 2), .ref (V.2.2.1 + 7), .ref (V.2.2.1 + 11), .ref (V.2.2.1 + 15), .ref (V.2.2.1 + 22), .ref (V.2.2.1 + 29), .ref (V.2.2.1 + 30), .int 0, .ref (V.2.2.1 + 31), .ref (V.2.2.1 + 35), .ref (V.2.2.1 + 36), .ref (V.2.2.1 + 47), .ref (V.2.2.1 + 49)]), .inl (V.2.1 4, 4, .inr (.inr (.inr (.inr (va_up (va_up (va_up (va_up (fun _ => none) (tn 0) (some (V.2.2.1 + 51))) (tn 1) (some (V.2.2.1 + 53))) (tn 2) (some (V.2.2.1 + 55))) (tn 3) (some (V.2.2.1 + 57))))))), z_2 V, z_3 V, z_4 V, z_5 V, z_6 V, z_7 V, z_8 V, z_9 V, z_10 V, z_11 V, z_12 V, z_13 V, z_14 V, z_15 V, z_16 V, z_17 V, z_18 V, z_19 V, z_20 V, z_21 V, z_22 V, z_23 V, z_24 V, z_25 V, z_26 V, z_27 V, z_28 V, .inl (V.2.1 5, 3, .inr (.inr (.inr (.inr (va_up (va_up (fun _ => none) (tn 0) (some (V.2.2.1 + 59))) (tn 1) (some (V.2.2.1 + 70))))))), .inl (V.2.1 6, 3, .inr (.inr (.inr (.inr (va_up (va_up (fun _ => none) (tn 0) (some (V.2.2.1 + 63))) (tn 1) (some (V.2.2.1 + 74))))))), z_31 V, z_32 V, z_33 V, z_34 V, z_35 V, z_36 V, z_37 V, z_38 V, z_39 V, z_40 V, z_41 V, z_42 V, z_43 V, z_44 V, z_45 V, z_46 V, z_47 V, z_48 V, z_49 V, z_50 V, z_51 V, z_52 V, z_53 V, z_54 V, z_55 V, z_56 V, z_57 V, z_58 V, z_59 V, z_60 V, z_61 V, z_62 V, z_63 V, z_64 V, z_65 V, z_66 V, z_67 V, z_68 V, z_69 V, z_70 V, z_71 V, z_72 V, z_73 V, z_74 V, z_75 V, z_76 V, z_77 V, z_78 V, z_79 V, z_80 V, .inr (1, [.ref (V.2.2.1 + 82), .ref (V.2.2.1 + 83), .null, .int 0, .int 0, .int 0]), .inl (V.2.1 0, 12, .inl (fun _ => 0)), .inl (V.2.1 0, 12, .inl (fun _ => 0))] X k_fl_X1_15 (dcl_Cl 1 (by decide)) rfl rfl rfl (by decide) rfl dX1_init_17 ?_
  refine c_aload_n (pc := 20) X.1 0 rfl dX1_init_20 ?_
  refine c_bipush (v := 12) (pc := 21) X.1 (by decide) dX1_init_21 ?_
  refine c_newa (ty := .long) (N := 12) (ak := 1) (a0 := .inr (.inl (fun _ => 0))) (pc := 23) X.1 X.2.2 rfl k_arr_1 rfl (fun _ h => by cases h) rfl (fun _ => rfl) (by decide) (by decide) (Nat.le_of_ble_eq_true rfl) (Nat.le_of_ble_eq_true rfl) (Nat.le_of_ble_eq_true rfl) dX1_init_23 ?_
  refine c_put (k := 81) (pc := 25) [.inr (8, [.int 0, .long 0, .long 1, .ref (V.2.2.1 + 1), .ref (V.2.2.1 + 2), .ref (V.2.2.1 + 7), .ref (V.2.2.1 + 11), .ref (V.2.2.1 + 15), .ref (V.2.2.1 + 22), .ref (V.2.2.1 + 29), .ref (V.2.2.1 + 30), .int 0, .ref (V.2.2.1 + 31), .ref (V.2.2.1 + 35), .ref (V.2.2.1 + 36), .ref (V.2.2.1 + 47), .ref (V.2.2.1 + 49)]), .inl (V.2.1 4, 4, .inr (.inr (.inr (.inr (va_up (va_up (va_up (va_up (fun _ => none) (tn 0) (some (V.2.2.1 + 51))) (tn 1) (some (V.2.2.1 + 53))) (tn 2) (some (V.2.2.1 + 55))) (tn 3) (some (V.2.2.1 + 57))))))), z_2 V, z_3 V, z_4 V, z_5 V, z_6 V, z_7 V, z_8 V, z_9 V, z_10 V, z_11 V, z_12 V, z_13 V, z_14 V, z_15 V, z_16 V, z_17 V, z_18 V, z_19 V, z_20 V, z_21 V, z_22 V, z_23 V, z_24 V, z_25 V, z_26 V, z_27 V, z_28 V, .inl (V.2.1 5, 3, .inr (.inr (.inr (.inr (va_up (va_up (fun _ => none) (tn 0) (some (V.2.2.1 + 59))) (tn 1) (some (V.2.2.1 + 70))))))), .inl (V.2.1 6, 3, .inr (.inr (.inr (.inr (va_up (va_up (fun _ => none) (tn 0) (some (V.2.2.1 + 63))) (tn 1) (some (V.2.2.1 + 74))))))), z_31 V, z_32 V, z_33 V, z_34 V, z_35 V, z_36 V, z_37 V, z_38 V, z_39 V, z_40 V, z_41 V, z_42 V, z_43 V, z_44 V, z_45 V, z_46 V, z_47 V, z_48 V, z_49 V, z_50 V, z_51 V, z_52 V, z_53 V, z_54 V, z_55 V, z_56 V, z_57 V, z_58 V, z_59 V, z_60 V, z_61 V, z_62 V, z_63 V, z_64 V, z_65 V, z_66 V, z_67 V, z_68 V, z_69 V, z_70 V, z_71 V, z_72 V, z_73 V, z_74 V, z_75 V, z_76 V, z_77 V, z_78 V, z_79 V, z_80 V, .inr (1, [.ref (V.2.2.1 + 82), .ref (V.2.2.1 + 83), .ref (V.2.2.1 + 84), .int 0, .int 0, .int 0]), .inl (V.2.1 0, 12, .inl (fun _ => 0)), .inl (V.2.1 0, 12, .inl (fun _ => 0)), .inl (V.2.1 1, 12, .inr (.inl (fun _ => 0)))] X k_fl_X1_18 (dcl_Cl 2 (by decide)) rfl rfl rfl (by decide) rfl dX1_init_25 ?_
  refine c_aload_n (pc := 28) X.1 0 rfl dX1_init_28 ?_
  refine c_iconst (v := 0) (pc := 29) X.1 rfl dX1_init_29 ?_
  refine c_put (k := 81) (pc := 30) [.inr (8, [.int 0, .long 0, .long 1, .ref (V.2.2.1 + 1), .ref (V.2.2.1 + 2), .ref (V.2.2.1 + 7), .ref (V.2.2.1 + 11), .ref (V.2.2.1 + 15), .ref (V.2.2.1 + 22), .ref (V.2.2.1 + 29), .ref (V.2.2.1 + 30), .int 0, .ref (V.2.2.1 + 31), .ref (V.2.2.1 + 35), .ref (V.2.2.1 + 36), .ref (V.2.2.1 + 47), .ref (V.2.2.1 + 49)]), .inl (V.2.1 4, 4, .inr (.inr (.inr (.inr (va_up (va_up (va_up (va_up (fun _ => none) (tn 0) (some (V.2.2.1 + 51))) (tn 1) (some (V.2.2.1 + 53))) (tn 2) (some (V.2.2.1 + 55))) (tn 3) (some (V.2.2.1 + 57))))))), z_2 V, z_3 V, z_4 V, z_5 V, z_6 V, z_7 V, z_8 V, z_9 V, z_10 V, z_11 V, z_12 V, z_13 V, z_14 V, z_15 V, z_16 V, z_17 V, z_18 V, z_19 V, z_20 V, z_21 V, z_22 V, z_23 V, z_24 V, z_25 V, z_26 V, z_27 V, z_28 V, .inl (V.2.1 5, 3, .inr (.inr (.inr (.inr (va_up (va_up (fun _ => none) (tn 0) (some (V.2.2.1 + 59))) (tn 1) (some (V.2.2.1 + 70))))))), .inl (V.2.1 6, 3, .inr (.inr (.inr (.inr (va_up (va_up (fun _ => none) (tn 0) (some (V.2.2.1 + 63))) (tn 1) (some (V.2.2.1 + 74))))))), z_31 V, z_32 V, z_33 V, z_34 V, z_35 V, z_36 V, z_37 V, z_38 V, z_39 V, z_40 V, z_41 V, z_42 V, z_43 V, z_44 V, z_45 V, z_46 V, z_47 V, z_48 V, z_49 V, z_50 V, z_51 V, z_52 V, z_53 V, z_54 V, z_55 V, z_56 V, z_57 V, z_58 V, z_59 V, z_60 V, z_61 V, z_62 V, z_63 V, z_64 V, z_65 V, z_66 V, z_67 V, z_68 V, z_69 V, z_70 V, z_71 V, z_72 V, z_73 V, z_74 V, z_75 V, z_76 V, z_77 V, z_78 V, z_79 V, z_80 V, .inr (1, [.ref (V.2.2.1 + 82), .ref (V.2.2.1 + 83), .ref (V.2.2.1 + 84), .int 0, .int 0, .int 0]), .inl (V.2.1 0, 12, .inl (fun _ => 0)), .inl (V.2.1 0, 12, .inl (fun _ => 0)), .inl (V.2.1 1, 12, .inr (.inl (fun _ => 0)))] X k_fl_X1_22 (dcl_Cl 3 (by decide)) rfl rfl rfl (by decide) rfl dX1_init_30 ?_
  refine c_aload_n (pc := 33) X.1 0 rfl dX1_init_33 ?_
  refine c_iconst (v := 0) (pc := 34) X.1 rfl dX1_init_34 ?_
  refine c_put (k := 81) (pc := 35) [.inr (8, [.int 0, .long 0, .long 1, .ref (V.2.2.1 + 1), .ref (V.2.2.1 + 2), .ref (V.2.2.1 + 7), .ref (V.2.2.1 + 11), .ref (V.2.2.1 + 15), .ref (V.2.2.1 + 22), .ref (V.2.2.1 + 29), .ref (V.2.2.1 + 30), .int 0, .ref (V.2.2.1 + 31), .ref (V.2.2.1 + 35), .ref (V.2.2.1 + 36), .ref (V.2.2.1 + 47), .ref (V.2.2.1 + 49)]), .inl (V.2.1 4, 4, .inr (.inr (.inr (.inr (va_up (va_up (va_up (va_up (fun _ => none) (tn 0) (some (V.2.2.1 + 51))) (tn 1) (some (V.2.2.1 + 53))) (tn 2) (some (V.2.2.1 + 55))) (tn 3) (some (V.2.2.1 + 57))))))), z_2 V, z_3 V, z_4 V, z_5 V, z_6 V, z_7 V, z_8 V, z_9 V, z_10 V, z_11 V, z_12 V, z_13 V, z_14 V, z_15 V, z_16 V, z_17 V, z_18 V, z_19 V, z_20 V, z_21 V, z_22 V, z_23 V, z_24 V, z_25 V, z_26 V, z_27 V, z_28 V, .inl (V.2.1 5, 3, .inr (.inr (.inr (.inr (va_up (va_up (fun _ => none) (tn 0) (some (V.2.2.1 + 59))) (tn 1) (some (V.2.2.1 + 70))))))), .inl (V.2.1 6, 3, .inr (.inr (.inr (.inr (va_up (va_up (fun _ => none) (tn 0) (some (V.2.2.1 + 63))) (tn 1) (some (V.2.2.1 + 74))))))), z_31 V, z_32 V, z_33 V, z_34 V, z_35 V, z_36 V, z_37 V, z_38 V, z_39 V, z_40 V, z_41 V, z_42 V, z_43 V, z_44 V, z_45 V, z_46 V, z_47 V, z_48 V, z_49 V, z_50 V, z_51 V, z_52 V, z_53 V, z_54 V, z_55 V, z_56 V, z_57 V, z_58 V, z_59 V, z_60 V, z_61 V, z_62 V, z_63 V, z_64 V, z_65 V, z_66 V, z_67 V, z_68 V, z_69 V, z_70 V, z_71 V, z_72 V, z_73 V, z_74 V, z_75 V, z_76 V, z_77 V, z_78 V, z_79 V, z_80 V, .inr (1, [.ref (V.2.2.1 + 82), .ref (V.2.2.1 + 83), .ref (V.2.2.1 + 84), .int 0, .int 0, .int 0]), .inl (V.2.1 0, 12, .inl (fun _ => 0)), .inl (V.2.1 0, 12, .inl (fun _ => 0)), .inl (V.2.1 1, 12, .inr (.inl (fun _ => 0)))] X k_fl_X1_26 (dcl_Cl 4 (by decide)) rfl rfl rfl (by decide) rfl dX1_init_35 ?_
  refine c_aload_n (pc := 38) X.1 0 rfl dX1_init_38 ?_
  refine c_iconst (v := 4) (pc := 39) X.1 rfl dX1_init_39 ?_
  refine c_put (k := 81) (pc := 40) [.inr (8, [.int 0, .long 0, .long 1, .ref (V.2.2.1 + 1), .ref (V.2.2.1 + 2), .ref (V.2.2.1 + 7), .ref (V.2.2.1 + 11), .ref (V.2.2.1 + 15), .ref (V.2.2.1 + 22), .ref (V.2.2.1 + 29), .ref (V.2.2.1 + 30), .int 0, .ref (V.2.2.1 + 31), .ref (V.2.2.1 + 35), .ref (V.2.2.1 + 36), .ref (V.2.2.1 + 47), .ref (V.2.2.1 + 49)]), .inl (V.2.1 4, 4, .inr (.inr (.inr (.inr (va_up (va_up (va_up (va_up (fun _ => none) (tn 0) (some (V.2.2.1 + 51))) (tn 1) (some (V.2.2.1 + 53))) (tn 2) (some (V.2.2.1 + 55))) (tn 3) (some (V.2.2.1 + 57))))))), z_2 V, z_3 V, z_4 V, z_5 V, z_6 V, z_7 V, z_8 V, z_9 V, z_10 V, z_11 V, z_12 V, z_13 V, z_14 V, z_15 V, z_16 V, z_17 V, z_18 V, z_19 V, z_20 V, z_21 V, z_22 V, z_23 V, z_24 V, z_25 V, z_26 V, z_27 V, z_28 V, .inl (V.2.1 5, 3, .inr (.inr (.inr (.inr (va_up (va_up (fun _ => none) (tn 0) (some (V.2.2.1 + 59))) (tn 1) (some (V.2.2.1 + 70))))))), .inl (V.2.1 6, 3, .inr (.inr (.inr (.inr (va_up (va_up (fun _ => none) (tn 0) (some (V.2.2.1 + 63))) (tn 1) (some (V.2.2.1 + 74))))))), z_31 V, z_32 V, z_33 V, z_34 V, z_35 V, z_36 V, z_37 V, z_38 V, z_39 V, z_40 V, z_41 V, z_42 V, z_43 V, z_44 V, z_45 V, z_46 V, z_47 V, z_48 V, z_49 V, z_50 V, z_51 V, z_52 V, z_53 V, z_54 V, z_55 V, z_56 V, z_57 V, z_58 V, z_59 V, z_60 V, z_61 V, z_62 V, z_63 V, z_64 V, z_65 V, z_66 V, z_67 V, z_68 V, z_69 V, z_70 V, z_71 V, z_72 V, z_73 V, z_74 V, z_75 V, z_76 V, z_77 V, z_78 V, z_79 V, z_80 V, .inr (1, [.ref (V.2.2.1 + 82), .ref (V.2.2.1 + 83), .ref (V.2.2.1 + 84), .int 0, .int 0, .int 4]), .inl (V.2.1 0, 12, .inl (fun _ => 0)), .inl (V.2.1 0, 12, .inl (fun _ => 0)), .inl (V.2.1 1, 12, .inr (.inl (fun _ => 0)))] X k_fl_X1_29 (dcl_Cl 5 (by decide)) rfl rfl rfl (by decide) rfl dX1_init_40 ?_
  exact c_vret (pc := 43) X.1 rfl rfl dX1_init_43
def z_85 (V : Ev) : va_E := .inr (2, [.ref (V.2.2.1 + 86), .ref (V.2.2.1 + 87), .ref (V.2.2.1 + 88), .ref (V.2.2.1 + 89), .ref (V.2.2.1 + 90), .ref (V.2.2.1 + 91), .int 0, .int 0, .int 0])
def z_86 (V : Ev) : va_E := .inl (V.2.1 0, 60, .inl (fun _ => 0))
def z_87 (V : Ev) : va_E := .inl (V.2.1 0, 60, .inl (fun _ => 0))
def z_88 (V : Ev) : va_E := .inl (V.2.1 0, 60, .inl (fun _ => 0))
def z_89 (V : Ev) : va_E := .inl (V.2.1 0, 60, .inl (fun _ => 0))
def z_90 (V : Ev) : va_E := .inl (V.2.1 0, 60, .inl (fun _ => 0))
def z_91 (V : Ev) : va_E := .inl (V.2.1 0, 60, .inl (fun _ => 0))
set_option maxRecDepth 100000 in
set_option maxHeartbeats 4000000 in
theorem there {V : Ev} : Rc V 1 M_X2_init [.ref (V.2.2.1 + 85)] [.inr (8, [.int 0, .long 0, .long 1, .ref (V.2.2.1 + 1), .ref (V.2.2.1 + 2), .ref (V.2.2.1 + 7), .ref (V.2.2.1 + 11), .ref (V.2.2.1 + 15), .ref (V.2.2.1 + 22), .ref (V.2.2.1 + 29), .ref (V.2.2.1 + 30), .int 0, .ref (V.2.2.1 + 31), .ref (V.2.2.1 + 35), .ref (V.2.2.1 + 36), .ref (V.2.2.1 + 47), .ref (V.2.2.1 + 49)]), .inl (V.2.1 4, 4, .inr (.inr (.inr (.inr (va_up (va_up (va_up (va_up (fun _ => none) (tn 0) (some (V.2.2.1 + 51))) (tn 1) (some (V.2.2.1 + 53))) (tn 2) (some (V.2.2.1 + 55))) (tn 3) (some (V.2.2.1 + 57))))))), z_2 V, z_3 V, z_4 V, z_5 V, z_6 V, z_7 V, z_8 V, z_9 V, z_10 V, z_11 V, z_12 V, z_13 V, z_14 V, z_15 V, z_16 V, z_17 V, z_18 V, z_19 V, z_20 V, z_21 V, z_22 V, z_23 V, z_24 V, z_25 V, z_26 V, z_27 V, z_28 V, .inl (V.2.1 5, 3, .inr (.inr (.inr (.inr (va_up (va_up (va_up (fun _ => none) (tn 0) (some (V.2.2.1 + 59))) (tn 1) (some (V.2.2.1 + 70))) (tn 2) (some (V.2.2.1 + 81))))))), .inl (V.2.1 6, 3, .inr (.inr (.inr (.inr (va_up (va_up (fun _ => none) (tn 0) (some (V.2.2.1 + 63))) (tn 1) (some (V.2.2.1 + 74))))))), z_31 V, z_32 V, z_33 V, z_34 V, z_35 V, z_36 V, z_37 V, z_38 V, z_39 V, z_40 V, z_41 V, z_42 V, z_43 V, z_44 V, z_45 V, z_46 V, z_47 V, z_48 V, z_49 V, z_50 V, z_51 V, z_52 V, z_53 V, z_54 V, z_55 V, z_56 V, z_57 V, z_58 V, z_59 V, z_60 V, z_61 V, z_62 V, z_63 V, z_64 V, z_65 V, z_66 V, z_67 V, z_68 V, z_69 V, z_70 V, z_71 V, z_72 V, z_73 V, z_74 V, z_75 V, z_76 V, z_77 V, z_78 V, z_79 V, z_80 V, z_81 V, z_82 V, z_83 V, z_84 V, .inr (2, [.null, .null, .null, .null, .null, .null, .int 0, .int 0, .int 0])] [.inr (8, [.int 0, .long 0, .long 1, .ref (V.2.2.1 + 1), .ref (V.2.2.1 + 2), .ref (V.2.2.1 + 7), .ref (V.2.2.1 + 11), .ref (V.2.2.1 + 15), .ref (V.2.2.1 + 22), .ref (V.2.2.1 + 29), .ref (V.2.2.1 + 30), .int 0, .ref (V.2.2.1 + 31), .ref (V.2.2.1 + 35), .ref (V.2.2.1 + 36), .ref (V.2.2.1 + 47), .ref (V.2.2.1 + 49)]), .inl (V.2.1 4, 4, .inr (.inr (.inr (.inr (va_up (va_up (va_up (va_up (fun _ => none) (tn 0) (some (V.2.2.1 + 51))) (tn 1) (some (V.2.2.1 + 53))) (tn 2) (some (V.2.2.1 + 55))) (tn 3) (some (V.2.2.1 + 57))))))), z_2 V, z_3 V, z_4 V, z_5 V, z_6 V, z_7 V, z_8 V, z_9 V, z_10 V, z_11 V, z_12 V, z_13 V, z_14 V, z_15 V, z_16 V, z_17 V, z_18 V, z_19 V, z_20 V, z_21 V, z_22 V, z_23 V, z_24 V, z_25 V, z_26 V, z_27 V, z_28 V, .inl (V.2.1 5, 3, .inr (.inr (.inr (.inr (va_up (va_up (va_up (fun _ => none) (tn 0) (some (V.2.2.1 + 59))) (tn 1) (some (V.2.2.1 + 70))) (tn 2) (some (V.2.2.1 + 81))))))), .inl (V.2.1 6, 3, .inr (.inr (.inr (.inr (va_up (va_up (fun _ => none) (tn 0) (some (V.2.2.1 + 63))) (tn 1) (some (V.2.2.1 + 74))))))), z_31 V, z_32 V, z_33 V, z_34 V, z_35 V, z_36 V, z_37 V, z_38 V, z_39 V, z_40 V, z_41 V, z_42 V, z_43 V, z_44 V, z_45 V, z_46 V, z_47 V, z_48 V, z_49 V, z_50 V, z_51 V, z_52 V, z_53 V, z_54 V, z_55 V, z_56 V, z_57 V, z_58 V, z_59 V, z_60 V, z_61 V, z_62 V, z_63 V, z_64 V, z_65 V, z_66 V, z_67 V, z_68 V, z_69 V, z_70 V, z_71 V, z_72 V, z_73 V, z_74 V, z_75 V, z_76 V, z_77 V, z_78 V, z_79 V, z_80 V, z_81 V, z_82 V, z_83 V, z_84 V, z_85 V, z_86 V, z_87 V, z_88 V, z_89 V, z_90 V, z_91 V] 6 360 := by
  refine Rc.of (by decide +kernel) rfl (Nat.le_of_ble_eq_true rfl) (fun Γ X => ?_)

  refine c_aload_n (pc := 0) X.1 0 rfl dX2_init_0 ?_
  refine c_objInit (pc := 1) X.1 k_oi_X2 k_oi2 k_oi3 (Nat.le_of_ble_eq_true rfl) (Nat.le_of_ble_eq_true rfl) dX2_init_1 ?_
  refine c_aload_n (pc := 4) X.1 0 rfl dX2_init_4 ?_
  refine c_bipush (v := 60) (pc := 5) X.1 (by decide) dX2_init_5 ?_
  refine c_newa (ty := .int) (N := 60) (ak := 0) (a0 := .inl (fun _ => 0)) (pc := 7) X.1 X.2.2 rfl k_arr_0 rfl (fun _ h => by cases h) rfl (fun _ => rfl) (by decide) (by decide) (Nat.le_of_ble_eq_true rfl) (Nat.le_of_ble_eq_true rfl) (Nat.le_of_ble_eq_true rfl) dX2_init_7 ?_
  refine c_put (k := 85) (pc := 9) [.inr (8, [.int 0, .long 0, .long 1, .ref (V.2.2.1 + 1), .ref (V.2.2.1 + 2), .ref (V.2.2.1 + 7), .ref (V.2.2.1 + 11), .ref (V.2.2.1 + 15), .ref (V.2.2.1 + 22), .ref (V.2.2.1 + 29), .ref (V.2.2.1 + 30), .int 0, .ref (V.2.2.1 + 31), .ref (V.2.2.1 + 35), .ref (V.2.2.1 + 36), .ref (V.2.2.1 + 47), .ref (V.2.2.1 + 49)]), .inl (V.2.1 4, 4, .inr (.inr (.inr (.inr (va_up (va_up (va_up (va_up (fun _ => none) (tn 0) (some (V.2.2.1 + 51))) (tn 1) (some (V.2.2.1 + 53))) (tn 2) (some (V.2.2.1 + 55))) (tn 3) (some (V.2.2.1 + 57))))))), z_2 V, z_3 V, z_4 V, z_5 V, z_6 V, z_7 V, z_8 V, z_9 V, z_10 V, z_11 V, z_12 V, z_13 V, z_14 V, z_15 V, z_16 V, z_17 V, z_18 V, z_19 V, z_20 V, z_21 V, z_22 V, z_23 V, z_24 V, z_25 V, z_26 V, z_27 V, z_28 V, .inl (V.2.1 5, 3, .inr (.inr (.inr (.inr (va_up (va_up (va_up (fun _ => none) (tn 0) (some (V.2.2.1 + 59))) (tn 1) (some (V.2.2.1 + 70))) (tn 2) (some (V.2.2.1 + 81))))))), .inl (V.2.1 6, 3, .inr (.inr (.inr (.inr (va_up (va_up (fun _ => none) (tn 0) (some (V.2.2.1 + 63))) (tn 1) (some (V.2.2.1 + 74))))))), z_31 V, z_32 V, z_33 V, z_34 V, z_35 V, z_36 V, z_37 V, z_38 V, z_39 V, z_40 V, z_41 V, z_42 V, z_43 V, z_44 V, z_45 V, z_46 V, z_47 V, z_48 V, z_49 V, z_50 V, z_51 V, z_52 V, z_53 V, z_54 V, z_55 V, z_56 V, z_57 V, z_58 V, z_59 V, z_60 V, z_61 V, z_62 V, z_63 V, z_64 V, z_65 V, z_66 V, z_67 V, z_68 V, z_69 V, z_70 V, z_71 V, z_72 V, z_73 V, z_74 V, z_75 V, z_76 V, z_77 V, z_78 V, z_79 V, z_80 V, z_81 V, z_82 V, z_83 V, z_84 V, .inr (2, [.ref (V.2.2.1 + 86), .null, .null, .null, .null, .null, .int 0, .int 0, .int 0]), .inl (V.2.1 0, 60, .inl (fun _ => 0))] X k_fl_X2_9 (dcl_Da 0 (by decide)) rfl rfl rfl (by decide) rfl dX2_init_9 ?_
  refine c_aload_n (pc := 12) X.1 0 rfl dX2_init_12 ?_
  refine c_bipush (v := 60) (pc := 13) X.1 (by decide) dX2_init_13 ?_
  refine c_newa (ty := .int) (N := 60) (ak := 0) (a0 := .inl (fun _ => 0)) (pc := 15) X.1 X.2.2 rfl k_arr_0 rfl (fun _ h => by cases h) rfl (fun _ => rfl) (by decide) (by decide) (Nat.le_of_ble_eq_true rfl) (Nat.le_of_ble_eq_true rfl) (Nat.le_of_ble_eq_true rfl) dX2_init_15 ?_
  refine c_put (k := 85) (pc := 17) [.inr (8, [.int 0, .long 0, .long 1, .ref (V.2.2.1 + 1), .ref (V.2.2.1 + 2), .ref (V.2.2.1 + 7), .ref (V.2.2.1 + 11), .ref (V.2.2.1 + 15), .ref (V.2.2.1 + 22), .ref (V.2.2.1 + 29), .ref (V.2.2.1 + 30), .int 0, .ref (V.2.2.1 + 31), .ref (V.2.2.1 + 35), .ref (V.2.2.1 + 36), .ref (V.2.2.1 + 47), .ref (V.2.2.1 + 49)]), .inl (V.2.1 4, 4, .inr (.inr (.inr (.inr (va_up (va_up (va_up (va_up (fun _ => none) (tn 0) (some (V.2.2.1 + 51))) (tn 1) (some (V.2.2.1 + 53))) (tn 2) (some (V.2.2.1 + 55))) (tn 3) (some (V.2.2.1 + 57))))))), z_2 V, z_3 V, z_4 V, z_5 V, z_6 V, z_7 V, z_8 V, z_9 V, z_10 V, z_11 V, z_12 V, z_13 V, z_14 V, z_15 V, z_16 V, z_17 V, z_18 V, z_19 V, z_20 V, z_21 V, z_22 V, z_23 V, z_24 V, z_25 V, z_26 V, z_27 V, z_28 V, .inl (V.2.1 5, 3, .inr (.inr (.inr (.inr (va_up (va_up (va_up (fun _ => none) (tn 0) (some (V.2.2.1 + 59))) (tn 1) (some (V.2.2.1 + 70))) (tn 2) (some (V.2.2.1 + 81))))))), .inl (V.2.1 6, 3, .inr (.inr (.inr (.inr (va_up (va_up (fun _ => none) (tn 0) (some (V.2.2.1 + 63))) (tn 1) (some (V.2.2.1 + 74))))))), z_31 V, z_32 V, z_33 V, z_34 V, z_35 V, z_36 V, z_37 V, z_38 V, z_39 V, z_40 V, z_41 V, z_42 V, z_43 V, z_44 V, z_45 V, z_46 V, z_47 V, z_48 V, z_49 V, z_50 V, z_51 V, z_52 V, z_53 V, z_54 V, z_55 V, z_56 V, z_57 V, z_58 V, z_59 V, z_60 V, z_61 V, z_62 V, z_63 V, z_64 V, z_65 V, z_66 V, z_67 V, z_68 V, z_69 V, z_70 V, z_71 V, z_72 V, z_73 V, z_74 V, z_75 V, z_76 V, z_77 V, z_78 V, z_79 V, z_80 V, z_81 V, z_82 V, z_83 V, z_84 V, .inr (2, [.ref (V.2.2.1 + 86), .ref (V.2.2.1 + 87), .null, .null, .null, .null, .int 0, .int 0, .int 0]), .inl (V.2.1 0, 60, .inl (fun _ => 0)), .inl (V.2.1 0, 60, .inl (fun _ => 0))] X k_fl_X2_13 (dcl_Da 1 (by decide)) rfl rfl rfl (by decide) rfl dX2_init_17 ?_
  refine c_aload_n (pc := 20) X.1 0 rfl dX2_init_20 ?_
  refine c_bipush (v := 60) (pc := 21) X.1 (by decide) dX2_init_21 ?_
  refine c_newa (ty := .int) (N := 60) (ak := 0) (a0 := .inl (fun _ => 0)) (pc := 23) X.1 X.2.2 rfl k_arr_0 rfl (fun _ h => by cases h) rfl (fun _ => rfl) (by decide) (by decide) (Nat.le_of_ble_eq_true rfl) (Nat.le_of_ble_eq_true rfl) (Nat.le_of_ble_eq_true rfl) dX2_init_23 ?_
  refine c_put (k := 85) (pc := 25) [.inr (8, [.int 0, .long 0, .long 1, .ref (V.2.2.1 + 1), .ref (V.2.2.1 + 2), .ref (V.2.2.1 + 7), .ref (V.2.2.1 + 11), .ref (V.2.2.1 + 15), .ref (V.2.2.1 + 22), .ref (V.2.2.1 + 29), .ref (V.2.2.1 + 30), .int 0, .ref (V.2.2.1 + 31), .ref (V.2.2.1 + 35), .ref (V.2.2.1 + 36), .ref (V.2.2.1 + 47), .ref (V.2.2.1 + 49)]), .inl (V.2.1 4, 4, .inr (.inr (.inr (.inr (va_up (va_up (va_up (va_up (fun _ => none) (tn 0) (some (V.2.2.1 + 51))) (tn 1) (some (V.2.2.1 + 53))) (tn 2) (some (V.2.2.1 + 55))) (tn 3) (some (V.2.2.1 + 57))))))), z_2 V, z_3 V, z_4 V, z_5 V, z_6 V, z_7 V, z_8 V, z_9 V, z_10 V, z_11 V, z_12 V, z_13 V, z_14 V, z_15 V, z_16 V, z_17 V, z_18 V, z_19 V, z_20 V, z_21 V, z_22 V, z_23 V, z_24 V, z_25 V, z_26 V, z_27 V, z_28 V, .inl (V.2.1 5, 3, .inr (.inr (.inr (.inr (va_up (va_up (va_up (fun _ => none) (tn 0) (some (V.2.2.1 + 59))) (tn 1) (some (V.2.2.1 + 70))) (tn 2) (some (V.2.2.1 + 81))))))), .inl (V.2.1 6, 3, .inr (.inr (.inr (.inr (va_up (va_up (fun _ => none) (tn 0) (some (V.2.2.1 + 63))) (tn 1) (some (V.2.2.1 + 74))))))), z_31 V, z_32 V, z_33 V, z_34 V, z_35 V, z_36 V, z_37 V, z_38 V, z_39 V, z_40 V, z_41 V, z_42 V, z_43 V, z_44 V, z_45 V, z_46 V, z_47 V, z_48 V, z_49 V, z_50 V, z_51 V, z_52 V, z_53 V, z_54 V, z_55 V, z_56 V, z_57 V, z_58 V, z_59 V, z_60 V, z_61 V, z_62 V, z_63 V, z_64 V, z_65 V, z_66 V, z_67 V, z_68 V, z_69 V, z_70 V, z_71 V, z_72 V, z_73 V, z_74 V, z_75 V, z_76 V, z_77 V, z_78 V, z_79 V, z_80 V, z_81 V, z_82 V, z_83 V, z_84 V, .inr (2, [.ref (V.2.2.1 + 86), .ref (V.2.2.1 + 87), .ref (V.2.2.1 + 88), .null, .null, .null, .int 0, .int 0, .int 0]), .inl (V.2.1 0, 60, .inl (fun _ => 0)), .inl (V.2.1 0, 60, .inl (fun _ => 0)), .inl (V.2.1 0, 60, .inl (fun _ => 0))] X k_fl_X2_16 (dcl_Da 2 (by decide)) rfl rfl rfl (by decide) rfl dX2_init_25 ?_
  refine c_aload_n (pc := 28) X.1 0 rfl dX2_init_28 ?_
  refine c_bipush (v := 60) (pc := 29) X.1 (by decide) dX2_init_29 ?_
  refine c_newa (ty := .int) (N := 60) (ak := 0) (a0 := .inl (fun _ => 0)) (pc := 31) X.1 X.2.2 rfl k_arr_0 rfl (fun _ h => by cases h) rfl (fun _ => rfl) (by decide) (by decide) (Nat.le_of_ble_eq_true rfl) (Nat.le_of_ble_eq_true rfl) (Nat.le_of_ble_eq_true rfl) dX2_init_31 ?_
  refine c_put (k := 85) (pc := 33) [.inr (8, [.int 0, .long 0, .long 1, .ref (V.2.2.1 + 1), .ref (V.2.2.1 + 2), .ref (V.2.2.1 + 7), .ref (V.2.2.1 + 11), .ref (V.2.2.1 + 15), .ref (V.2.2.1 + 22), .ref (V.2.2.1 + 29), .ref (V.2.2.1 + 30), .int 0, .ref (V.2.2.1 + 31), .ref (V.2.2.1 + 35), .ref (V.2.2.1 + 36), .ref (V.2.2.1 + 47), .ref (V.2.2.1 + 49)]), .inl (V.2.1 4, 4, .inr (.inr (.inr (.inr (va_up (va_up (va_up (va_up (fun _ => none) (tn 0) (some (V.2.2.1 + 51))) (tn 1) (some (V.2.2.1 + 53))) (tn 2) (some (V.2.2.1 + 55))) (tn 3) (some (V.2.2.1 + 57))))))), z_2 V, z_3 V, z_4 V, z_5 V, z_6 V, z_7 V, z_8 V, z_9 V, z_10 V, z_11 V, z_12 V, z_13 V, z_14 V, z_15 V, z_16 V, z_17 V, z_18 V, z_19 V, z_20 V, z_21 V, z_22 V, z_23 V, z_24 V, z_25 V, z_26 V, z_27 V, z_28 V, .inl (V.2.1 5, 3, .inr (.inr (.inr (.inr (va_up (va_up (va_up (fun _ => none) (tn 0) (some (V.2.2.1 + 59))) (tn 1) (some (V.2.2.1 + 70))) (tn 2) (some (V.2.2.1 + 81))))))), .inl (V.2.1 6, 3, .inr (.inr (.inr (.inr (va_up (va_up (fun _ => none) (tn 0) (some (V.2.2.1 + 63))) (tn 1) (some (V.2.2.1 + 74))))))), z_31 V, z_32 V, z_33 V, z_34 V, z_35 V, z_36 V, z_37 V, z_38 V, z_39 V, z_40 V, z_41 V, z_42 V, z_43 V, z_44 V, z_45 V, z_46 V, z_47 V, z_48 V, z_49 V, z_50 V, z_51 V, z_52 V, z_53 V, z_54 V, z_55 V, z_56 V, z_57 V, z_58 V, z_59 V, z_60 V, z_61 V, z_62 V, z_63 V, z_64 V, z_65 V, z_66 V, z_67 V, z_68 V, z_69 V, z_70 V, z_71 V, z_72 V, z_73 V, z_74 V, z_75 V, z_76 V, z_77 V, z_78 V, z_79 V, z_80 V, z_81 V, z_82 V, z_83 V, z_84 V, .inr (2, [.ref (V.2.2.1 + 86), .ref (V.2.2.1 + 87), .ref (V.2.2.1 + 88), .ref (V.2.2.1 + 89), .null, .null, .int 0, .int 0, .int 0]), .inl (V.2.1 0, 60, .inl (fun _ => 0)), .inl (V.2.1 0, 60, .inl (fun _ => 0)), .inl (V.2.1 0, 60, .inl (fun _ => 0)), .inl (V.2.1 0, 60, .inl (fun _ => 0))] X k_fl_X2_19 (dcl_Da 3 (by decide)) rfl rfl rfl (by decide) rfl dX2_init_33 ?_
  refine c_aload_n (pc := 36) X.1 0 rfl dX2_init_36 ?_
  refine c_bipush (v := 60) (pc := 37) X.1 (by decide) dX2_init_37 ?_
  refine c_newa (ty := .int) (N := 60) (ak := 0) (a0 := .inl (fun _ => 0)) (pc := 39) X.1 X.2.2 rfl k_arr_0 rfl (fun _ h => by cases h) rfl (fun _ => rfl) (by decide) (by decide) (Nat.le_of_ble_eq_true rfl) (Nat.le_of_ble_eq_true rfl) (Nat.le_of_ble_eq_true rfl) dX2_init_39 ?_
  refine c_put (k := 85) (pc := 41) [.inr (8, [.int 0, .long 0, .long 1, .ref (V.2.2.1 + 1), .ref (V.2.2.1 + 2), .ref (V.2.2.1 + 7), .ref (V.2.2.1 + 11), .ref (V.2.2.1 + 15), .ref (V.2.2.1 + 22), .ref (V.2.2.1 + 29), .ref (V.2.2.1 + 30), .int 0, .ref (V.2.2.1 + 31), .ref (V.2.2.1 + 35), .ref (V.2.2.1 + 36), .ref (V.2.2.1 + 47), .ref (V.2.2.1 + 49)]), .inl (V.2.1 4, 4, .inr (.inr (.inr (.inr (va_up (va_up (va_up (va_up (fun _ => none) (tn 0) (some (V.2.2.1 + 51))) (tn 1) (some (V.2.2.1 + 53))) (tn 2) (some (V.2.2.1 + 55))) (tn 3) (some (V.2.2.1 + 57))))))), z_2 V, z_3 V, z_4 V, z_5 V, z_6 V, z_7 V, z_8 V, z_9 V, z_10 V, z_11 V, z_12 V, z_13 V, z_14 V, z_15 V, z_16 V, z_17 V, z_18 V, z_19 V, z_20 V, z_21 V, z_22 V, z_23 V, z_24 V, z_25 V, z_26 V, z_27 V, z_28 V, .inl (V.2.1 5, 3, .inr (.inr (.inr (.inr (va_up (va_up (va_up (fun _ => none) (tn 0) (some (V.2.2.1 + 59))) (tn 1) (some (V.2.2.1 + 70))) (tn 2) (some (V.2.2.1 + 81))))))), .inl (V.2.1 6, 3, .inr (.inr (.inr (.inr (va_up (va_up (fun _ => none) (tn 0) (some (V.2.2.1 + 63))) (tn 1) (some (V.2.2.1 + 74))))))), z_31 V, z_32 V, z_33 V, z_34 V, z_35 V, z_36 V, z_37 V, z_38 V, z_39 V, z_40 V, z_41 V, z_42 V, z_43 V, z_44 V, z_45 V, z_46 V, z_47 V, z_48 V, z_49 V, z_50 V, z_51 V, z_52 V, z_53 V, z_54 V, z_55 V, z_56 V, z_57 V, z_58 V, z_59 V, z_60 V, z_61 V, z_62 V, z_63 V, z_64 V, z_65 V, z_66 V, z_67 V, z_68 V, z_69 V, z_70 V, z_71 V, z_72 V, z_73 V, z_74 V, z_75 V, z_76 V, z_77 V, z_78 V, z_79 V, z_80 V, z_81 V, z_82 V, z_83 V, z_84 V, .inr (2, [.ref (V.2.2.1 + 86), .ref (V.2.2.1 + 87), .ref (V.2.2.1 + 88), .ref (V.2.2.1 + 89), .ref (V.2.2.1 + 90), .null, .int 0, .int 0, .int 0]), .inl (V.2.1 0, 60, .inl (fun _ => 0)), .inl (V.2.1 0, 60, .inl (fun _ => 0)), .inl (V.2.1 0, 60, .inl (fun _ => 0)), .inl (V.2.1 0, 60, .inl (fun _ => 0)), .inl (V.2.1 0, 60, .inl (fun _ => 0))] X k_fl_X2_22 (dcl_Da 4 (by decide)) rfl rfl rfl (by decide) rfl dX2_init_41 ?_
  refine c_aload_n (pc := 44) X.1 0 rfl dX2_init_44 ?_
  refine c_bipush (v := 60) (pc := 45) X.1 (by decide) dX2_init_45 ?_
  refine c_newa (ty := .int) (N := 60) (ak := 0) (a0 := .inl (fun _ => 0)) (pc := 47) X.1 X.2.2 rfl k_arr_0 rfl (fun _ h => by cases h) rfl (fun _ => rfl) (by decide) (by decide) (Nat.le_of_ble_eq_true rfl) (Nat.le_of_ble_eq_true rfl) (Nat.le_of_ble_eq_true rfl) dX2_init_47 ?_
  refine c_put (k := 85) (pc := 49) [.inr (8, [.int 0, .long 0, .long 1, .ref (V.2.2.1 + 1), .ref (V.2.2.1 + 2), .ref (V.2.2.1 + 7), .ref (V.2.2.1 + 11), .ref (V.2.2.1 + 15), .ref (V.2.2.1 + 22), .ref (V.2.2.1 + 29), .ref (V.2.2.1 + 30), .int 0, .ref (V.2.2.1 + 31), .ref (V.2.2.1 + 35), .ref (V.2.2.1 + 36), .ref (V.2.2.1 + 47), .ref (V.2.2.1 + 49)]), .inl (V.2.1 4, 4, .inr (.inr (.inr (.inr (va_up (va_up (va_up (va_up (fun _ => none) (tn 0) (some (V.2.2.1 + 51))) (tn 1) (some (V.2.2.1 + 53))) (tn 2) (some (V.2.2.1 + 55))) (tn 3) (some (V.2.2.1 + 57))))))), z_2 V, z_3 V, z_4 V, z_5 V, z_6 V, z_7 V, z_8 V, z_9 V, z_10 V, z_11 V, z_12 V, z_13 V, z_14 V, z_15 V, z_16 V, z_17 V, z_18 V, z_19 V, z_20 V, z_21 V, z_22 V, z_23 V, z_24 V, z_25 V, z_26 V, z_27 V, z_28 V, .inl (V.2.1 5, 3, .inr (.inr (.inr (.inr (va_up (va_up (va_up (fun _ => none) (tn 0) (some (V.2.2.1 + 59))) (tn 1) (some (V.2.2.1 + 70))) (tn 2) (some (V.2.2.1 + 81))))))), .inl (V.2.1 6, 3, .inr (.inr (.inr (.inr (va_up (va_up (fun _ => none) (tn 0) (some (V.2.2.1 + 63))) (tn 1) (some (V.2.2.1 + 74))))))), z_31 V, z_32 V, z_33 V, z_34 V, z_35 V, z_36 V, z_37 V, z_38 V, z_39 V, z_40 V, z_41 V, z_42 V, z_43 V, z_44 V, z_45 V, z_46 V, z_47 V, z_48 V, z_49 V, z_50 V, z_51 V, z_52 V, z_53 V, z_54 V, z_55 V, z_56 V, z_57 V, z_58 V, z_59 V, z_60 V, z_61 V, z_62 V, z_63 V, z_64 V, z_65 V, z_66 V, z_67 V, z_68 V, z_69 V, z_70 V, z_71 V, z_72 V, z_73 V, z_74 V, z_75 V, z_76 V, z_77 V, z_78 V, z_79 V, z_80 V, z_81 V, z_82 V, z_83 V, z_84 V, .inr (2, [.ref (V.2.2.1 + 86), .ref (V.2.2.1 + 87), .ref (V.2.2.1 + 88), .ref (V.2.2.1 + 89), .ref (V.2.2.1 + 90), .ref (V.2.2.1 + 91), .int 0, .int 0, .int 0]), .inl (V.2.1 0, 60, .inl (fun _ => 0)), .inl (V.2.1 0, 60, .inl (fun _ => 0)), .inl (V.2.1 0, 60, .inl (fun _ => 0)), .inl (V.2.1 0, 60, .inl (fun _ => 0)), .inl (V.2.1 0, 60, .inl (fun _ => 0)), .inl (V.2.1 0, 60, .inl (fun _ => 0))] X k_fl_X2_25 (dcl_Da 5 (by decide)) rfl rfl rfl (by decide) rfl dX2_init_49 ?_
  refine c_aload_n (pc := 52) X.1 0 rfl dX2_init_52 ?_
  refine c_iconst (v := 0) (pc := 53) X.1 rfl dX2_init_53 ?_
  refine c_put (k := 85) (pc := 54) [.inr (8, [.int 0, .long 0, .long 1, .ref (V.2.2.1 + 1), .ref (V.2.2.1 + 2), .ref (V.2.2.1 + 7), .ref (V.2.2.1 + 11), .ref (V.2.2.1 + 15), .ref (V.2.2.1 + 22), .ref (V.2.2.1 + 29), .ref (V.2.2.1 + 30), .int 0, .ref (V.2.2.1 + 31), .ref (V.2.2.1 + 35), .ref (V.2.2.1 + 36), .ref (V.2.2.1 + 47), .ref (V.2.2.1 + 49)]), .inl (V.2.1 4, 4, .inr (.inr (.inr (.inr (va_up (va_up (va_up (va_up (fun _ => none) (tn 0) (some (V.2.2.1 + 51))) (tn 1) (some (V.2.2.1 + 53))) (tn 2) (some (V.2.2.1 + 55))) (tn 3) (some (V.2.2.1 + 57))))))), z_2 V, z_3 V, z_4 V, z_5 V, z_6 V, z_7 V, z_8 V, z_9 V, z_10 V, z_11 V, z_12 V, z_13 V, z_14 V, z_15 V, z_16 V, z_17 V, z_18 V, z_19 V, z_20 V, z_21 V, z_22 V, z_23 V, z_24 V, z_25 V, z_26 V, z_27 V, z_28 V, .inl (V.2.1 5, 3, .inr (.inr (.inr (.inr (va_up (va_up (va_up (fun _ => none) (tn 0) (some (V.2.2.1 + 59))) (tn 1) (some (V.2.2.1 + 70))) (tn 2) (some (V.2.2.1 + 81))))))), .inl (V.2.1 6, 3, .inr (.inr (.inr (.inr (va_up (va_up (fun _ => none) (tn 0) (some (V.2.2.1 + 63))) (tn 1) (some (V.2.2.1 + 74))))))), z_31 V, z_32 V, z_33 V, z_34 V, z_35 V, z_36 V, z_37 V, z_38 V, z_39 V, z_40 V, z_41 V, z_42 V, z_43 V, z_44 V, z_45 V, z_46 V, z_47 V, z_48 V, z_49 V, z_50 V, z_51 V, z_52 V, z_53 V, z_54 V, z_55 V, z_56 V, z_57 V, z_58 V, z_59 V, z_60 V, z_61 V, z_62 V, z_63 V, z_64 V, z_65 V, z_66 V, z_67 V, z_68 V, z_69 V, z_70 V, z_71 V, z_72 V, z_73 V, z_74 V, z_75 V, z_76 V, z_77 V, z_78 V, z_79 V, z_80 V, z_81 V, z_82 V, z_83 V, z_84 V, .inr (2, [.ref (V.2.2.1 + 86), .ref (V.2.2.1 + 87), .ref (V.2.2.1 + 88), .ref (V.2.2.1 + 89), .ref (V.2.2.1 + 90), .ref (V.2.2.1 + 91), .int 0, .int 0, .int 0]), .inl (V.2.1 0, 60, .inl (fun _ => 0)), .inl (V.2.1 0, 60, .inl (fun _ => 0)), .inl (V.2.1 0, 60, .inl (fun _ => 0)), .inl (V.2.1 0, 60, .inl (fun _ => 0)), .inl (V.2.1 0, 60, .inl (fun _ => 0)), .inl (V.2.1 0, 60, .inl (fun _ => 0))] X k_fl_X2_28 (dcl_Da 6 (by decide)) rfl rfl rfl (by decide) rfl dX2_init_54 ?_
  refine c_aload_n (pc := 57) X.1 0 rfl dX2_init_57 ?_
  refine c_iconst (v := 0) (pc := 58) X.1 rfl dX2_init_58 ?_
  refine c_put (k := 85) (pc := 59) [.inr (8, [.int 0, .long 0, .long 1, .ref (V.2.2.1 + 1), .ref (V.2.2.1 + 2), .ref (V.2.2.1 + 7), .ref (V.2.2.1 + 11), .ref (V.2.2.1 + 15), .ref (V.2.2.1 + 22), .ref (V.2.2.1 + 29), .ref (V.2.2.1 + 30), .int 0, .ref (V.2.2.1 + 31), .ref (V.2.2.1 + 35), .ref (V.2.2.1 + 36), .ref (V.2.2.1 + 47), .ref (V.2.2.1 + 49)]), .inl (V.2.1 4, 4, .inr (.inr (.inr (.inr (va_up (va_up (va_up (va_up (fun _ => none) (tn 0) (some (V.2.2.1 + 51))) (tn 1) (some (V.2.2.1 + 53))) (tn 2) (some (V.2.2.1 + 55))) (tn 3) (some (V.2.2.1 + 57))))))), z_2 V, z_3 V, z_4 V, z_5 V, z_6 V, z_7 V, z_8 V, z_9 V, z_10 V, z_11 V, z_12 V, z_13 V, z_14 V, z_15 V, z_16 V, z_17 V, z_18 V, z_19 V, z_20 V, z_21 V, z_22 V, z_23 V, z_24 V, z_25 V, z_26 V, z_27 V, z_28 V, .inl (V.2.1 5, 3, .inr (.inr (.inr (.inr (va_up (va_up (va_up (fun _ => none) (tn 0) (some (V.2.2.1 + 59))) (tn 1) (some (V.2.2.1 + 70))) (tn 2) (some (V.2.2.1 + 81))))))), .inl (V.2.1 6, 3, .inr (.inr (.inr (.inr (va_up (va_up (fun _ => none) (tn 0) (some (V.2.2.1 + 63))) (tn 1) (some (V.2.2.1 + 74))))))), z_31 V, z_32 V, z_33 V, z_34 V, z_35 V, z_36 V, z_37 V, z_38 V, z_39 V, z_40 V, z_41 V, z_42 V, z_43 V, z_44 V, z_45 V, z_46 V, z_47 V, z_48 V, z_49 V, z_50 V, z_51 V, z_52 V, z_53 V, z_54 V, z_55 V, z_56 V, z_57 V, z_58 V, z_59 V, z_60 V, z_61 V, z_62 V, z_63 V, z_64 V, z_65 V, z_66 V, z_67 V, z_68 V, z_69 V, z_70 V, z_71 V, z_72 V, z_73 V, z_74 V, z_75 V, z_76 V, z_77 V, z_78 V, z_79 V, z_80 V, z_81 V, z_82 V, z_83 V, z_84 V, .inr (2, [.ref (V.2.2.1 + 86), .ref (V.2.2.1 + 87), .ref (V.2.2.1 + 88), .ref (V.2.2.1 + 89), .ref (V.2.2.1 + 90), .ref (V.2.2.1 + 91), .int 0, .int 0, .int 0]), .inl (V.2.1 0, 60, .inl (fun _ => 0)), .inl (V.2.1 0, 60, .inl (fun _ => 0)), .inl (V.2.1 0, 60, .inl (fun _ => 0)), .inl (V.2.1 0, 60, .inl (fun _ => 0)), .inl (V.2.1 0, 60, .inl (fun _ => 0)), .inl (V.2.1 0, 60, .inl (fun _ => 0))] X k_fl_X2_32 (dcl_Da 7 (by decide)) rfl rfl rfl (by decide) rfl dX2_init_59 ?_
  refine c_aload_n (pc := 62) X.1 0 rfl dX2_init_62 ?_
  refine c_iconst (v := 0) (pc := 63) X.1 rfl dX2_init_63 ?_
  refine c_put (k := 85) (pc := 64) [.inr (8, [.int 0, .long 0, .long 1, .ref (V.2.2.1 + 1), .ref (V.2.2.1 + 2), .ref (V.2.2.1 + 7), .ref (V.2.2.1 + 11), .ref (V.2.2.1 + 15), .ref (V.2.2.1 + 22), .ref (V.2.2.1 + 29), .ref (V.2.2.1 + 30), .int 0, .ref (V.2.2.1 + 31), .ref (V.2.2.1 + 35), .ref (V.2.2.1 + 36), .ref (V.2.2.1 + 47), .ref (V.2.2.1 + 49)]), .inl (V.2.1 4, 4, .inr (.inr (.inr (.inr (va_up (va_up (va_up (va_up (fun _ => none) (tn 0) (some (V.2.2.1 + 51))) (tn 1) (some (V.2.2.1 + 53))) (tn 2) (some (V.2.2.1 + 55))) (tn 3) (some (V.2.2.1 + 57))))))), z_2 V, z_3 V, z_4 V, z_5 V, z_6 V, z_7 V, z_8 V, z_9 V, z_10 V, z_11 V, z_12 V, z_13 V, z_14 V, z_15 V, z_16 V, z_17 V, z_18 V, z_19 V, z_20 V, z_21 V, z_22 V, z_23 V, z_24 V, z_25 V, z_26 V, z_27 V, z_28 V, .inl (V.2.1 5, 3, .inr (.inr (.inr (.inr (va_up (va_up (va_up (fun _ => none) (tn 0) (some (V.2.2.1 + 59))) (tn 1) (some (V.2.2.1 + 70))) (tn 2) (some (V.2.2.1 + 81))))))), .inl (V.2.1 6, 3, .inr (.inr (.inr (.inr (va_up (va_up (fun _ => none) (tn 0) (some (V.2.2.1 + 63))) (tn 1) (some (V.2.2.1 + 74))))))), z_31 V, z_32 V, z_33 V, z_34 V, z_35 V, z_36 V, z_37 V, z_38 V, z_39 V, z_40 V, z_41 V, z_42 V, z_43 V, z_44 V, z_45 V, z_46 V, z_47 V, z_48 V, z_49 V, z_50 V, z_51 V, z_52 V, z_53 V, z_54 V, z_55 V, z_56 V, z_57 V, z_58 V, z_59 V, z_60 V, z_61 V, z_62 V, z_63 V, z_64 V, z_65 V, z_66 V, z_67 V, z_68 V, z_69 V, z_70 V, z_71 V, z_72 V, z_73 V, z_74 V, z_75 V, z_76 V, z_77 V, z_78 V, z_79 V, z_80 V, z_81 V, z_82 V, z_83 V, z_84 V, .inr (2, [.ref (V.2.2.1 + 86), .ref (V.2.2.1 + 87), .ref (V.2.2.1 + 88), .ref (V.2.2.1 + 89), .ref (V.2.2.1 + 90), .ref (V.2.2.1 + 91), .int 0, .int 0, .int 0]), .inl (V.2.1 0, 60, .inl (fun _ => 0)), .inl (V.2.1 0, 60, .inl (fun _ => 0)), .inl (V.2.1 0, 60, .inl (fun _ => 0)), .inl (V.2.1 0, 60, .inl (fun _ => 0)), .inl (V.2.1 0, 60, .inl (fun _ => 0)), .inl (V.2.1 0, 60, .inl (fun _ => 0))] X k_fl_X2_35 (dcl_Da 8 (by decide)) rfl (by decide +kernel) (by decide +kernel) (by decide) rfl dX2_init_64 ?_
  exact c_vret (pc := 67) X.1 rfl rfl dX2_init_67
def z_0 (V : Ev) : va_E := .inr (8, [.int 0, .long 0, .long 1, .ref (V.2.2.1 + 1), .ref (V.2.2.1 + 2), .ref (V.2.2.1 + 7), .ref (V.2.2.1 + 11), .ref (V.2.2.1 + 15), .ref (V.2.2.1 + 22), .ref (V.2.2.1 + 29), .ref (V.2.2.1 + 30), .int 0, .ref (V.2.2.1 + 31), .ref (V.2.2.1 + 35), .ref (V.2.2.1 + 36), .ref (V.2.2.1 + 47), .ref (V.2.2.1 + 49)])
def z_1 (V : Ev) : va_E := .inl (V.2.1 4, 4, .inr (.inr (.inr (.inr (fun j => some (V.2.2.1 + rfs 1 j))))))
def z_29 (V : Ev) : va_E := .inl (V.2.1 5, 3, .inr (.inr (.inr (.inr (fun j => some (V.2.2.1 + rfs 29 j))))))
def z_30 (V : Ev) : va_E := .inl (V.2.1 6, 3, .inr (.inr (.inr (.inr (fun j => some (V.2.2.1 + rfs 30 j))))))
set_option maxRecDepth 100000 in
set_option maxHeartbeats 4000000 in
theorem keptDays {V : Ev} (hv4 : va_Aov (.object "ResidueCover$Tray") V) (hv5 : va_Aov (.object "ResidueCover$Classes") V) (hv6 : va_Aov (.object "ResidueCover$Days") V) (hv7 : va_Aov (.array .long) V) : Rc V 3 M_X11_init [.ref (V.2.2.1 + 0)] [.inr (8, [.int 0, .long 0, .long 0, .null, .null, .null, .null, .null, .null, .null, .null, .int 0, .null, .null, .null, .null, .null])] [z_0 V, z_1 V, z_2 V, z_3 V, z_4 V, z_5 V, z_6 V, z_7 V, z_8 V, z_9 V, z_10 V, z_11 V, z_12 V, z_13 V, z_14 V, z_15 V, z_16 V, z_17 V, z_18 V, z_19 V, z_20 V, z_21 V, z_22 V, z_23 V, z_24 V, z_25 V, z_26 V, z_27 V, z_28 V, z_29 V, z_30 V, z_31 V, z_32 V, z_33 V, z_34 V, z_35 V, z_36 V, z_37 V, z_38 V, z_39 V, z_40 V, z_41 V, z_42 V, z_43 V, z_44 V, z_45 V, z_46 V, z_47 V, z_48 V, z_49 V, z_50 V, z_51 V, z_52 V, z_53 V, z_54 V, z_55 V, z_56 V, z_57 V, z_58 V, z_59 V, z_60 V, z_61 V, z_62 V, z_63 V, z_64 V, z_65 V, z_66 V, z_67 V, z_68 V, z_69 V, z_70 V, z_71 V, z_72 V, z_73 V, z_74 V, z_75 V, z_76 V, z_77 V, z_78 V, z_79 V, z_80 V, z_81 V, z_82 V, z_83 V, z_84 V, z_85 V, z_86 V, z_87 V, z_88 V, z_89 V, z_90 V, z_91 V] 91 6878 := by
  refine Rc.of (by decide +kernel) rfl (Nat.le_of_ble_eq_true rfl) (fun Γ X => ?_)
  have hov4 := hv4 Γ.2.2.2.1 Γ.2.2.2.2.2.1 X.1.2.2.2.2.2.2.2
  have hov5 := hv5 Γ.2.2.2.1 Γ.2.2.2.2.2.1 X.1.2.2.2.2.2.2.2
  have hov6 := hv6 Γ.2.2.2.1 Γ.2.2.2.2.2.1 X.1.2.2.2.2.2.2.2
  refine c_aload_n (pc := 0) X.1 0 rfl dX11_init_0 ?_
  refine c_objInit (pc := 1) X.1 k_oi_X11 k_oi2 k_oi3 (Nat.le_of_ble_eq_true rfl) (Nat.le_of_ble_eq_true rfl) dX11_init_1 ?_
  refine c_aload_n (pc := 4) X.1 0 rfl dX11_init_4 ?_
  refine c_iconst (v := 0) (pc := 5) X.1 rfl dX11_init_5 ?_
  refine c_put (k := 0) (pc := 6) [.inr (8, [.int 0, .long 0, .long 0, .null, .null, .null, .null, .null, .null, .null, .null, .int 0, .null, .null, .null, .null, .null])] X k_fl_X11_9 (dcl_RC 0 (by decide)) rfl rfl rfl (by decide) rfl dX11_init_6 ?_
  refine c_aload_n (pc := 9) X.1 0 rfl dX11_init_9 ?_
  refine c_lconst (v := 0) (pc := 10) X.1 rfl dX11_init_10 ?_
  refine c_put (k := 0) (pc := 11) [.inr (8, [.int 0, .long 0, .long 0, .null, .null, .null, .null, .null, .null, .null, .null, .int 0, .null, .null, .null, .null, .null])] X k_fl_X11_13 (dcl_RC 1 (by decide)) rfl rfl rfl (by decide) rfl dX11_init_11 ?_
  refine c_aload_n (pc := 14) X.1 0 rfl dX11_init_14 ?_
  refine c_lconst (v := 1) (pc := 15) X.1 rfl dX11_init_15 ?_
  refine c_put (k := 0) (pc := 16) [.inr (8, [.int 0, .long 0, .long 1, .null, .null, .null, .null, .null, .null, .null, .null, .int 0, .null, .null, .null, .null, .null])] X k_fl_X11_17 (dcl_RC 2 (by decide)) rfl rfl rfl (by decide) rfl dX11_init_16 ?_
  refine c_aload_n (pc := 19) X.1 0 rfl dX11_init_19 ?_
  refine c_iconst (v := 4) (pc := 20) X.1 rfl dX11_init_20 ?_
  refine c_anew (Cn9 := "ResidueCover$Tray") (N := 4) (ak := 4) (pc := 21) X.1 X.2.2 rfl k_cl_X11_20 hov4 rfl (by decide) (by decide) (Nat.le_of_ble_eq_true rfl) (Nat.le_of_ble_eq_true rfl) (Nat.le_of_ble_eq_true rfl) dX11_init_21 ?_
  refine c_put (k := 0) (pc := 24) [.inr (8, [.int 0, .long 0, .long 1, .ref (V.2.2.1 + 1), .null, .null, .null, .null, .null, .null, .null, .int 0, .null, .null, .null, .null, .null]), .inl (V.2.1 4, 4, .inr (.inr (.inr (.inr (fun _ => none)))))] X k_fl_X11_22 (dcl_RC 3 (by decide)) rfl rfl rfl (by decide) rfl dX11_init_24 ?_
  refine c_aload_n (pc := 27) X.1 0 rfl dX11_init_27 ?_
  refine c_new (fs := [.null, .int 0, .int 0, .null, .null, .null, .int 0, .int 0, .long 0, .int 0, .int 0]) (pc := 28) X.1 X.2.2 rfl k_kl_X11_26 (df_Re) (Nat.le_of_ble_eq_true rfl) (Nat.le_of_ble_eq_true rfl) dX11_init_28 ?_
  refine c_dup (pc := 31) X.1 rfl dX11_init_31 ?_
  refine c_call (k := 2) (pc := 32) X.1 X.2.2 rfl k_ct_X11_28 ok2_X6_init (gi_X6_init) rfl rfl (faultPlace ) ⟨Nat.le_of_ble_eq_true rfl, Nat.le_of_ble_eq_true rfl⟩ ⟨Nat.le_of_ble_eq_true rfl, Nat.le_of_ble_eq_true rfl⟩ (Nat.le_of_ble_eq_true rfl) dX11_init_32 ?_
  refine c_put (k := 0) (pc := 35) [.inr (8, [.int 0, .long 0, .long 1, .ref (V.2.2.1 + 1), .ref (V.2.2.1 + 2), .null, .null, .null, .null, .null, .null, .int 0, .null, .null, .null, .null, .null]), .inl (V.2.1 4, 4, .inr (.inr (.inr (.inr (fun _ => none))))), z_2 V, z_3 V, z_4 V, z_5 V, z_6 V] X k_fl_X11_29 (dcl_RC 4 (by decide)) rfl rfl rfl (by decide) rfl dX11_init_35 ?_
  refine c_aload_n (pc := 38) X.1 0 rfl dX11_init_38 ?_
  refine c_new (fs := [.null, .null, .null, .int 0, .int 0, .int 0]) (pc := 39) X.1 X.2.2 rfl k_kl_X11_33 (df_Cl) (Nat.le_of_ble_eq_true rfl) (Nat.le_of_ble_eq_true rfl) dX11_init_39 ?_
  refine c_dup (pc := 42) X.1 rfl dX11_init_42 ?_
  refine c_call (k := 7) (pc := 43) X.1 X.2.2 rfl k_ct_X11_35 ok2_X1_init (gi_X1_init) rfl rfl (odds ) ⟨Nat.le_of_ble_eq_true rfl, Nat.le_of_ble_eq_true rfl⟩ ⟨Nat.le_of_ble_eq_true rfl, Nat.le_of_ble_eq_true rfl⟩ (Nat.le_of_ble_eq_true rfl) dX11_init_43 ?_
  refine c_put (k := 0) (pc := 46) [.inr (8, [.int 0, .long 0, .long 1, .ref (V.2.2.1 + 1), .ref (V.2.2.1 + 2), .ref (V.2.2.1 + 7), .null, .null, .null, .null, .null, .int 0, .null, .null, .null, .null, .null]), .inl (V.2.1 4, 4, .inr (.inr (.inr (.inr (fun _ => none))))), z_2 V, z_3 V, z_4 V, z_5 V, z_6 V, z_7 V, z_8 V, z_9 V, z_10 V] X k_fl_X11_36 (dcl_RC 5 (by decide)) rfl rfl rfl (by decide) rfl dX11_init_46 ?_
  refine c_aload_n (pc := 49) X.1 0 rfl dX11_init_49 ?_
  refine c_new (fs := [.null, .null, .null, .int 0, .int 0, .int 0]) (pc := 50) X.1 X.2.2 rfl k_kl_X11_33 (df_Cl) (Nat.le_of_ble_eq_true rfl) (Nat.le_of_ble_eq_true rfl) dX11_init_50 ?_
  refine c_dup (pc := 53) X.1 rfl dX11_init_53 ?_
  refine c_call (k := 11) (pc := 54) X.1 X.2.2 rfl k_ct_X11_35 ok2_X1_init (gi_X1_init) rfl rfl (odds ) ⟨Nat.le_of_ble_eq_true rfl, Nat.le_of_ble_eq_true rfl⟩ ⟨Nat.le_of_ble_eq_true rfl, Nat.le_of_ble_eq_true rfl⟩ (Nat.le_of_ble_eq_true rfl) dX11_init_54 ?_
  refine c_put (k := 0) (pc := 57) [.inr (8, [.int 0, .long 0, .long 1, .ref (V.2.2.1 + 1), .ref (V.2.2.1 + 2), .ref (V.2.2.1 + 7), .ref (V.2.2.1 + 11), .null, .null, .null, .null, .int 0, .null, .null, .null, .null, .null]), .inl (V.2.1 4, 4, .inr (.inr (.inr (.inr (fun _ => none))))), z_2 V, z_3 V, z_4 V, z_5 V, z_6 V, z_7 V, z_8 V, z_9 V, z_10 V, z_11 V, z_12 V, z_13 V, z_14 V] X k_fl_X11_40 (dcl_RC 6 (by decide)) rfl rfl rfl (by decide) rfl dX11_init_57 ?_
  refine c_aload_n (pc := 60) X.1 0 rfl dX11_init_60 ?_
  refine c_new (fs := [.null, .null, .null, .null, .null, .null, .int 0, .int 0, .int 0]) (pc := 61) X.1 X.2.2 rfl k_kl_X11_43 (df_Da) (Nat.le_of_ble_eq_true rfl) (Nat.le_of_ble_eq_true rfl) dX11_init_61 ?_
  refine c_dup (pc := 64) X.1 rfl dX11_init_64 ?_
  refine c_call (k := 15) (pc := 65) X.1 X.2.2 rfl k_ct_X11_45 ok2_X2_init (gi_X2_init) rfl rfl (there ) ⟨Nat.le_of_ble_eq_true rfl, Nat.le_of_ble_eq_true rfl⟩ ⟨Nat.le_of_ble_eq_true rfl, Nat.le_of_ble_eq_true rfl⟩ (Nat.le_of_ble_eq_true rfl) dX11_init_65 ?_
  refine c_put (k := 0) (pc := 68) [.inr (8, [.int 0, .long 0, .long 1, .ref (V.2.2.1 + 1), .ref (V.2.2.1 + 2), .ref (V.2.2.1 + 7), .ref (V.2.2.1 + 11), .ref (V.2.2.1 + 15), .null, .null, .null, .int 0, .null, .null, .null, .null, .null]), .inl (V.2.1 4, 4, .inr (.inr (.inr (.inr (fun _ => none))))), z_2 V, z_3 V, z_4 V, z_5 V, z_6 V, z_7 V, z_8 V, z_9 V, z_10 V, z_11 V, z_12 V, z_13 V, z_14 V, z_15 V, z_16 V, z_17 V, z_18 V, z_19 V, z_20 V, z_21 V] X k_fl_X11_46 (dcl_RC 7 (by decide)) rfl rfl rfl (by decide) rfl dX11_init_68 ?_
  refine c_aload_n (pc := 71) X.1 0 rfl dX11_init_71 ?_
  refine c_new (fs := [.null, .null, .null, .null, .null, .null, .int 0, .int 0, .int 0]) (pc := 72) X.1 X.2.2 rfl k_kl_X11_43 (df_Da) (Nat.le_of_ble_eq_true rfl) (Nat.le_of_ble_eq_true rfl) dX11_init_72 ?_
  refine c_dup (pc := 75) X.1 rfl dX11_init_75 ?_
  refine c_call (k := 22) (pc := 76) X.1 X.2.2 rfl k_ct_X11_45 ok2_X2_init (gi_X2_init) rfl rfl (there ) ⟨Nat.le_of_ble_eq_true rfl, Nat.le_of_ble_eq_true rfl⟩ ⟨Nat.le_of_ble_eq_true rfl, Nat.le_of_ble_eq_true rfl⟩ (Nat.le_of_ble_eq_true rfl) dX11_init_76 ?_
  refine c_put (k := 0) (pc := 79) [.inr (8, [.int 0, .long 0, .long 1, .ref (V.2.2.1 + 1), .ref (V.2.2.1 + 2), .ref (V.2.2.1 + 7), .ref (V.2.2.1 + 11), .ref (V.2.2.1 + 15), .ref (V.2.2.1 + 22), .null, .null, .int 0, .null, .null, .null, .null, .null]), .inl (V.2.1 4, 4, .inr (.inr (.inr (.inr (fun _ => none))))), z_2 V, z_3 V, z_4 V, z_5 V, z_6 V, z_7 V, z_8 V, z_9 V, z_10 V, z_11 V, z_12 V, z_13 V, z_14 V, z_15 V, z_16 V, z_17 V, z_18 V, z_19 V, z_20 V, z_21 V, z_22 V, z_23 V, z_24 V, z_25 V, z_26 V, z_27 V, z_28 V] X k_fl_X11_50 (dcl_RC 8 (by decide)) rfl rfl rfl (by decide) rfl dX11_init_79 ?_
  refine c_aload_n (pc := 82) X.1 0 rfl dX11_init_82 ?_
  refine c_iconst (v := 3) (pc := 83) X.1 rfl dX11_init_83 ?_
  refine c_anew (Cn9 := "ResidueCover$Classes") (N := 3) (ak := 5) (pc := 84) X.1 X.2.2 rfl k_cl_X11_33 hov5 rfl (by decide) (by decide) (Nat.le_of_ble_eq_true rfl) (Nat.le_of_ble_eq_true rfl) (Nat.le_of_ble_eq_true rfl) dX11_init_84 ?_
  refine c_put (k := 0) (pc := 87) [.inr (8, [.int 0, .long 0, .long 1, .ref (V.2.2.1 + 1), .ref (V.2.2.1 + 2), .ref (V.2.2.1 + 7), .ref (V.2.2.1 + 11), .ref (V.2.2.1 + 15), .ref (V.2.2.1 + 22), .ref (V.2.2.1 + 29), .null, .int 0, .null, .null, .null, .null, .null]), .inl (V.2.1 4, 4, .inr (.inr (.inr (.inr (fun _ => none))))), z_2 V, z_3 V, z_4 V, z_5 V, z_6 V, z_7 V, z_8 V, z_9 V, z_10 V, z_11 V, z_12 V, z_13 V, z_14 V, z_15 V, z_16 V, z_17 V, z_18 V, z_19 V, z_20 V, z_21 V, z_22 V, z_23 V, z_24 V, z_25 V, z_26 V, z_27 V, z_28 V, .inl (V.2.1 5, 3, .inr (.inr (.inr (.inr (fun _ => none)))))] X k_fl_X11_53 (dcl_RC 9 (by decide)) rfl rfl rfl (by decide) rfl dX11_init_87 ?_
  refine c_aload_n (pc := 90) X.1 0 rfl dX11_init_90 ?_
  refine c_iconst (v := 3) (pc := 91) X.1 rfl dX11_init_91 ?_
  refine c_anew (Cn9 := "ResidueCover$Days") (N := 3) (ak := 6) (pc := 92) X.1 X.2.2 rfl k_cl_X11_43 hov6 rfl (by decide) (by decide) (Nat.le_of_ble_eq_true rfl) (Nat.le_of_ble_eq_true rfl) (Nat.le_of_ble_eq_true rfl) dX11_init_92 ?_
  refine c_put (k := 0) (pc := 95) [.inr (8, [.int 0, .long 0, .long 1, .ref (V.2.2.1 + 1), .ref (V.2.2.1 + 2), .ref (V.2.2.1 + 7), .ref (V.2.2.1 + 11), .ref (V.2.2.1 + 15), .ref (V.2.2.1 + 22), .ref (V.2.2.1 + 29), .ref (V.2.2.1 + 30), .int 0, .null, .null, .null, .null, .null]), .inl (V.2.1 4, 4, .inr (.inr (.inr (.inr (fun _ => none))))), z_2 V, z_3 V, z_4 V, z_5 V, z_6 V, z_7 V, z_8 V, z_9 V, z_10 V, z_11 V, z_12 V, z_13 V, z_14 V, z_15 V, z_16 V, z_17 V, z_18 V, z_19 V, z_20 V, z_21 V, z_22 V, z_23 V, z_24 V, z_25 V, z_26 V, z_27 V, z_28 V, .inl (V.2.1 5, 3, .inr (.inr (.inr (.inr (fun _ => none))))), .inl (V.2.1 6, 3, .inr (.inr (.inr (.inr (fun _ => none)))))] X k_fl_X11_57 (dcl_RC 10 (by decide)) rfl rfl rfl (by decide) rfl dX11_init_95 ?_
  refine c_aload_n (pc := 98) X.1 0 rfl dX11_init_98 ?_
  refine c_iconst (v := 0) (pc := 99) X.1 rfl dX11_init_99 ?_
  refine c_put (k := 0) (pc := 100) [.inr (8, [.int 0, .long 0, .long 1, .ref (V.2.2.1 + 1), .ref (V.2.2.1 + 2), .ref (V.2.2.1 + 7), .ref (V.2.2.1 + 11), .ref (V.2.2.1 + 15), .ref (V.2.2.1 + 22), .ref (V.2.2.1 + 29), .ref (V.2.2.1 + 30), .int 0, .null, .null, .null, .null, .null]), .inl (V.2.1 4, 4, .inr (.inr (.inr (.inr (fun _ => none))))), z_2 V, z_3 V, z_4 V, z_5 V, z_6 V, z_7 V, z_8 V, z_9 V, z_10 V, z_11 V, z_12 V, z_13 V, z_14 V, z_15 V, z_16 V, z_17 V, z_18 V, z_19 V, z_20 V, z_21 V, z_22 V, z_23 V, z_24 V, z_25 V, z_26 V, z_27 V, z_28 V, .inl (V.2.1 5, 3, .inr (.inr (.inr (.inr (fun _ => none))))), .inl (V.2.1 6, 3, .inr (.inr (.inr (.inr (fun _ => none)))))] X k_fl_X11_61 (dcl_RC 11 (by decide)) rfl rfl rfl (by decide) rfl dX11_init_100 ?_
  refine c_aload_n (pc := 103) X.1 0 rfl dX11_init_103 ?_
  refine c_new (fs := [.null, .null, .null, .int 0, .int 0]) (pc := 104) X.1 X.2.2 rfl k_kl_X11_64 (df_Si) (Nat.le_of_ble_eq_true rfl) (Nat.le_of_ble_eq_true rfl) dX11_init_104 ?_
  refine c_dup (pc := 107) X.1 rfl dX11_init_107 ?_
  refine c_call (k := 31) (pc := 108) X.1 X.2.2 rfl k_ct_X11_66 ok2_X7_init (gi_X7_init) rfl rfl (words ) ⟨Nat.le_of_ble_eq_true rfl, Nat.le_of_ble_eq_true rfl⟩ ⟨Nat.le_of_ble_eq_true rfl, Nat.le_of_ble_eq_true rfl⟩ (Nat.le_of_ble_eq_true rfl) dX11_init_108 ?_
  refine c_put (k := 0) (pc := 111) [.inr (8, [.int 0, .long 0, .long 1, .ref (V.2.2.1 + 1), .ref (V.2.2.1 + 2), .ref (V.2.2.1 + 7), .ref (V.2.2.1 + 11), .ref (V.2.2.1 + 15), .ref (V.2.2.1 + 22), .ref (V.2.2.1 + 29), .ref (V.2.2.1 + 30), .int 0, .ref (V.2.2.1 + 31), .null, .null, .null, .null]), .inl (V.2.1 4, 4, .inr (.inr (.inr (.inr (fun _ => none))))), z_2 V, z_3 V, z_4 V, z_5 V, z_6 V, z_7 V, z_8 V, z_9 V, z_10 V, z_11 V, z_12 V, z_13 V, z_14 V, z_15 V, z_16 V, z_17 V, z_18 V, z_19 V, z_20 V, z_21 V, z_22 V, z_23 V, z_24 V, z_25 V, z_26 V, z_27 V, z_28 V, .inl (V.2.1 5, 3, .inr (.inr (.inr (.inr (fun _ => none))))), .inl (V.2.1 6, 3, .inr (.inr (.inr (.inr (fun _ => none))))), z_31 V, z_32 V, z_33 V, z_34 V] X k_fl_X11_67 (dcl_RC 12 (by decide)) rfl rfl rfl (by decide) rfl dX11_init_111 ?_
  refine c_aload_n (pc := 114) X.1 0 rfl dX11_init_114 ?_
  refine c_new (fs := [.int 0, .int 0, .int 0, .int 0]) (pc := 115) X.1 X.2.2 rfl k_kl_X11_71 (df_Tr) (Nat.le_of_ble_eq_true rfl) (Nat.le_of_ble_eq_true rfl) dX11_init_115 ?_
  refine c_dup (pc := 118) X.1 rfl dX11_init_118 ?_
  refine c_call (k := 35) (pc := 119) X.1 X.2.2 rfl k_ct_X11_73 ok2_X10_init (gi_X10_init) rfl rfl (widest ) ⟨Nat.le_of_ble_eq_true rfl, Nat.le_of_ble_eq_true rfl⟩ ⟨Nat.le_of_ble_eq_true rfl, Nat.le_of_ble_eq_true rfl⟩ (Nat.le_of_ble_eq_true rfl) dX11_init_119 ?_
  refine c_put (k := 0) (pc := 122) [.inr (8, [.int 0, .long 0, .long 1, .ref (V.2.2.1 + 1), .ref (V.2.2.1 + 2), .ref (V.2.2.1 + 7), .ref (V.2.2.1 + 11), .ref (V.2.2.1 + 15), .ref (V.2.2.1 + 22), .ref (V.2.2.1 + 29), .ref (V.2.2.1 + 30), .int 0, .ref (V.2.2.1 + 31), .ref (V.2.2.1 + 35), .null, .null, .null]), .inl (V.2.1 4, 4, .inr (.inr (.inr (.inr (fun _ => none))))), z_2 V, z_3 V, z_4 V, z_5 V, z_6 V, z_7 V, z_8 V, z_9 V, z_10 V, z_11 V, z_12 V, z_13 V, z_14 V, z_15 V, z_16 V, z_17 V, z_18 V, z_19 V, z_20 V, z_21 V, z_22 V, z_23 V, z_24 V, z_25 V, z_26 V, z_27 V, z_28 V, .inl (V.2.1 5, 3, .inr (.inr (.inr (.inr (fun _ => none))))), .inl (V.2.1 6, 3, .inr (.inr (.inr (.inr (fun _ => none))))), z_31 V, z_32 V, z_33 V, z_34 V, z_35 V] X k_fl_X11_74 (dcl_RC 13 (by decide)) rfl rfl rfl (by decide) rfl dX11_init_122 ?_
  refine c_aload_n (pc := 125) X.1 0 rfl dX11_init_125 ?_
  refine c_new (fs := [.null, .null, .null, .int 0, .int 0, .int 0]) (pc := 126) X.1 X.2.2 rfl k_kl_X11_78 (df_Ch) (Nat.le_of_ble_eq_true rfl) (Nat.le_of_ble_eq_true rfl) dX11_init_126 ?_
  refine c_dup (pc := 129) X.1 rfl dX11_init_129 ?_
  refine c_call (k := 36) (pc := 130) X.1 X.2.2 rfl k_ct_X11_80 ok2_X0_init (gi_X0_init) rfl rfl (span hv7) ⟨Nat.le_of_ble_eq_true rfl, Nat.le_of_ble_eq_true rfl⟩ ⟨Nat.le_of_ble_eq_true rfl, Nat.le_of_ble_eq_true rfl⟩ (Nat.le_of_ble_eq_true rfl) dX11_init_130 ?_
  refine c_put (k := 0) (pc := 133) [.inr (8, [.int 0, .long 0, .long 1, .ref (V.2.2.1 + 1), .ref (V.2.2.1 + 2), .ref (V.2.2.1 + 7), .ref (V.2.2.1 + 11), .ref (V.2.2.1 + 15), .ref (V.2.2.1 + 22), .ref (V.2.2.1 + 29), .ref (V.2.2.1 + 30), .int 0, .ref (V.2.2.1 + 31), .ref (V.2.2.1 + 35), .ref (V.2.2.1 + 36), .null, .null]), .inl (V.2.1 4, 4, .inr (.inr (.inr (.inr (fun _ => none))))), z_2 V, z_3 V, z_4 V, z_5 V, z_6 V, z_7 V, z_8 V, z_9 V, z_10 V, z_11 V, z_12 V, z_13 V, z_14 V, z_15 V, z_16 V, z_17 V, z_18 V, z_19 V, z_20 V, z_21 V, z_22 V, z_23 V, z_24 V, z_25 V, z_26 V, z_27 V, z_28 V, .inl (V.2.1 5, 3, .inr (.inr (.inr (.inr (fun _ => none))))), .inl (V.2.1 6, 3, .inr (.inr (.inr (.inr (fun _ => none))))), z_31 V, z_32 V, z_33 V, z_34 V, z_35 V, z_36 V, z_37 V, z_38 V, z_39 V, z_40 V, z_41 V, z_42 V, z_43 V, z_44 V, z_45 V, z_46 V] X k_fl_X11_81 (dcl_RC 14 (by decide)) rfl rfl rfl (by decide) rfl dX11_init_133 ?_
  refine c_aload_n (pc := 136) X.1 0 rfl dX11_init_136 ?_
  refine c_new (fs := [.null, .int 0, .int 0, .int 0, .int 0, .int 0, .int 0, .int 0, .int 0]) (pc := 137) X.1 X.2.2 rfl k_kl_X11_85 (df_Li) (Nat.le_of_ble_eq_true rfl) (Nat.le_of_ble_eq_true rfl) dX11_init_137 ?_
  refine c_dup (pc := 140) X.1 rfl dX11_init_140 ?_
  refine c_call (k := 47) (pc := 141) X.1 X.2.2 rfl k_ct_X11_87 ok2_X5_init (gi_X5_init) rfl rfl (seed ) ⟨Nat.le_of_ble_eq_true rfl, Nat.le_of_ble_eq_true rfl⟩ ⟨Nat.le_of_ble_eq_true rfl, Nat.le_of_ble_eq_true rfl⟩ (Nat.le_of_ble_eq_true rfl) dX11_init_141 ?_
  refine c_put (k := 0) (pc := 144) [.inr (8, [.int 0, .long 0, .long 1, .ref (V.2.2.1 + 1), .ref (V.2.2.1 + 2), .ref (V.2.2.1 + 7), .ref (V.2.2.1 + 11), .ref (V.2.2.1 + 15), .ref (V.2.2.1 + 22), .ref (V.2.2.1 + 29), .ref (V.2.2.1 + 30), .int 0, .ref (V.2.2.1 + 31), .ref (V.2.2.1 + 35), .ref (V.2.2.1 + 36), .ref (V.2.2.1 + 47), .null]), .inl (V.2.1 4, 4, .inr (.inr (.inr (.inr (fun _ => none))))), z_2 V, z_3 V, z_4 V, z_5 V, z_6 V, z_7 V, z_8 V, z_9 V, z_10 V, z_11 V, z_12 V, z_13 V, z_14 V, z_15 V, z_16 V, z_17 V, z_18 V, z_19 V, z_20 V, z_21 V, z_22 V, z_23 V, z_24 V, z_25 V, z_26 V, z_27 V, z_28 V, .inl (V.2.1 5, 3, .inr (.inr (.inr (.inr (fun _ => none))))), .inl (V.2.1 6, 3, .inr (.inr (.inr (.inr (fun _ => none))))), z_31 V, z_32 V, z_33 V, z_34 V, z_35 V, z_36 V, z_37 V, z_38 V, z_39 V, z_40 V, z_41 V, z_42 V, z_43 V, z_44 V, z_45 V, z_46 V, z_47 V, z_48 V] X k_fl_X11_88 (dcl_RC 15 (by decide)) rfl rfl rfl (by decide) rfl dX11_init_144 ?_
  refine c_aload_n (pc := 147) X.1 0 rfl dX11_init_147 ?_
  refine c_new (fs := [.null, .int 0, .int 0, .int 0, .int 0, .int 0, .int 0, .int 0, .int 0]) (pc := 148) X.1 X.2.2 rfl k_kl_X11_85 (df_Li) (Nat.le_of_ble_eq_true rfl) (Nat.le_of_ble_eq_true rfl) dX11_init_148 ?_
  refine c_dup (pc := 151) X.1 rfl dX11_init_151 ?_
  refine c_call (k := 49) (pc := 152) X.1 X.2.2 rfl k_ct_X11_87 ok2_X5_init (gi_X5_init) rfl rfl (seed ) ⟨Nat.le_of_ble_eq_true rfl, Nat.le_of_ble_eq_true rfl⟩ ⟨Nat.le_of_ble_eq_true rfl, Nat.le_of_ble_eq_true rfl⟩ (Nat.le_of_ble_eq_true rfl) dX11_init_152 ?_
  refine c_put (k := 0) (pc := 155) [.inr (8, [.int 0, .long 0, .long 1, .ref (V.2.2.1 + 1), .ref (V.2.2.1 + 2), .ref (V.2.2.1 + 7), .ref (V.2.2.1 + 11), .ref (V.2.2.1 + 15), .ref (V.2.2.1 + 22), .ref (V.2.2.1 + 29), .ref (V.2.2.1 + 30), .int 0, .ref (V.2.2.1 + 31), .ref (V.2.2.1 + 35), .ref (V.2.2.1 + 36), .ref (V.2.2.1 + 47), .ref (V.2.2.1 + 49)]), .inl (V.2.1 4, 4, .inr (.inr (.inr (.inr (fun _ => none))))), z_2 V, z_3 V, z_4 V, z_5 V, z_6 V, z_7 V, z_8 V, z_9 V, z_10 V, z_11 V, z_12 V, z_13 V, z_14 V, z_15 V, z_16 V, z_17 V, z_18 V, z_19 V, z_20 V, z_21 V, z_22 V, z_23 V, z_24 V, z_25 V, z_26 V, z_27 V, z_28 V, .inl (V.2.1 5, 3, .inr (.inr (.inr (.inr (fun _ => none))))), .inl (V.2.1 6, 3, .inr (.inr (.inr (.inr (fun _ => none))))), z_31 V, z_32 V, z_33 V, z_34 V, z_35 V, z_36 V, z_37 V, z_38 V, z_39 V, z_40 V, z_41 V, z_42 V, z_43 V, z_44 V, z_45 V, z_46 V, z_47 V, z_48 V, z_49 V, z_50 V] X k_fl_X11_92 (dcl_RC 16 (by decide)) rfl rfl rfl (by decide) rfl dX11_init_155 ?_
  refine c_iconst (v := 0) (pc := 158) X.1 rfl dX11_init_158 ?_
  refine c_istore_n (pc := 159) X.1 [(1, .int 0), (0, .ref (V.2.2.1 + 0))] rfl (Nat.le_of_ble_eq_true rfl) rfl dX11_init_159 ?_
  refine c_iload_n (pc := 160) X.1 0 rfl dX11_init_160 ?_
  refine c_iconst (v := 4) (pc := 161) X.1 rfl dX11_init_161 ?_
  refine c_icmp_ge (pc := 162) (tgt := 184) X.1 dX11_init_162 rfl (fun c => absurd c (by decide)) (fun _ => ?_)
  refine c_aload_n (pc := 165) X.1 1 rfl dX11_init_165 ?_
  refine c_get (k := 0) (pc := 166) X.1 k_fl_X11_22 rfl rfl dX11_init_166 ?_
  refine c_iload_n (pc := 169) X.1 0 rfl dX11_init_169 ?_
  refine c_new (fs := [.null, .int 0, .int 0]) (pc := 170) X.1 X.2.2 rfl k_kl_X11_20 (df_Ty) (Nat.le_of_ble_eq_true rfl) (Nat.le_of_ble_eq_true rfl) dX11_init_170 ?_
  refine c_dup (pc := 173) X.1 rfl dX11_init_173 ?_
  refine c_call (k := 51) (pc := 174) X.1 X.2.2 rfl k_ct_X11_95 ok2_X9_init (gi_X9_init) rfl rfl (size ) ⟨Nat.le_of_ble_eq_true rfl, Nat.le_of_ble_eq_true rfl⟩ ⟨Nat.le_of_ble_eq_true rfl, Nat.le_of_ble_eq_true rfl⟩ (Nat.le_of_ble_eq_true rfl) dX11_init_174 ?_
  refine c_aast (k := 1) (v := 51) (ci := 6) (pc := 177) [.inr (8, [.int 0, .long 0, .long 1, .ref (V.2.2.1 + 1), .ref (V.2.2.1 + 2), .ref (V.2.2.1 + 7), .ref (V.2.2.1 + 11), .ref (V.2.2.1 + 15), .ref (V.2.2.1 + 22), .ref (V.2.2.1 + 29), .ref (V.2.2.1 + 30), .int 0, .ref (V.2.2.1 + 31), .ref (V.2.2.1 + 35), .ref (V.2.2.1 + 36), .ref (V.2.2.1 + 47), .ref (V.2.2.1 + 49)]), .inl (V.2.1 4, 4, .inr (.inr (.inr (.inr (va_up (fun _ => none) (tn 0) (some (V.2.2.1 + 51))))))), z_2 V, z_3 V, z_4 V, z_5 V, z_6 V, z_7 V, z_8 V, z_9 V, z_10 V, z_11 V, z_12 V, z_13 V, z_14 V, z_15 V, z_16 V, z_17 V, z_18 V, z_19 V, z_20 V, z_21 V, z_22 V, z_23 V, z_24 V, z_25 V, z_26 V, z_27 V, z_28 V, .inl (V.2.1 5, 3, .inr (.inr (.inr (.inr (fun _ => none))))), .inl (V.2.1 6, 3, .inr (.inr (.inr (.inr (fun _ => none))))), z_31 V, z_32 V, z_33 V, z_34 V, z_35 V, z_36 V, z_37 V, z_38 V, z_39 V, z_40 V, z_41 V, z_42 V, z_43 V, z_44 V, z_45 V, z_46 V, z_47 V, z_48 V, z_49 V, z_50 V, z_51 V, z_52 V] X.1 rfl rfl rfl rfl rfl rfl dX11_init_177 ?_
  refine c_iinc (v := 1) (pc := 178) X.1 [(1, .int 1), (0, .ref (V.2.2.1 + 0))] 0 rfl (by decide) (Nat.le_of_ble_eq_true rfl) rfl dX11_init_178 ?_
  refine c_goto (pc := 181) (tgt := 160) X.1 dX11_init_181 rfl ?_
  refine c_iload_n (pc := 160) X.1 0 rfl dX11_init_160 ?_
  refine c_iconst (v := 4) (pc := 161) X.1 rfl dX11_init_161 ?_
  refine c_icmp_ge (pc := 162) (tgt := 184) X.1 dX11_init_162 rfl (fun c => absurd c (by decide)) (fun _ => ?_)
  refine c_aload_n (pc := 165) X.1 1 rfl dX11_init_165 ?_
  refine c_get (k := 0) (pc := 166) X.1 k_fl_X11_22 rfl rfl dX11_init_166 ?_
  refine c_iload_n (pc := 169) X.1 0 rfl dX11_init_169 ?_
  refine c_new (fs := [.null, .int 0, .int 0]) (pc := 170) X.1 X.2.2 rfl k_kl_X11_20 (df_Ty) (Nat.le_of_ble_eq_true rfl) (Nat.le_of_ble_eq_true rfl) dX11_init_170 ?_
  refine c_dup (pc := 173) X.1 rfl dX11_init_173 ?_
  refine c_call (k := 53) (pc := 174) X.1 X.2.2 rfl k_ct_X11_95 ok2_X9_init (gi_X9_init) rfl rfl (size ) ⟨Nat.le_of_ble_eq_true rfl, Nat.le_of_ble_eq_true rfl⟩ ⟨Nat.le_of_ble_eq_true rfl, Nat.le_of_ble_eq_true rfl⟩ (Nat.le_of_ble_eq_true rfl) dX11_init_174 ?_
  refine c_aast (k := 1) (v := 53) (ci := 6) (pc := 177) [.inr (8, [.int 0, .long 0, .long 1, .ref (V.2.2.1 + 1), .ref (V.2.2.1 + 2), .ref (V.2.2.1 + 7), .ref (V.2.2.1 + 11), .ref (V.2.2.1 + 15), .ref (V.2.2.1 + 22), .ref (V.2.2.1 + 29), .ref (V.2.2.1 + 30), .int 0, .ref (V.2.2.1 + 31), .ref (V.2.2.1 + 35), .ref (V.2.2.1 + 36), .ref (V.2.2.1 + 47), .ref (V.2.2.1 + 49)]), .inl (V.2.1 4, 4, .inr (.inr (.inr (.inr (va_up (va_up (fun _ => none) (tn 0) (some (V.2.2.1 + 51))) (tn 1) (some (V.2.2.1 + 53))))))), z_2 V, z_3 V, z_4 V, z_5 V, z_6 V, z_7 V, z_8 V, z_9 V, z_10 V, z_11 V, z_12 V, z_13 V, z_14 V, z_15 V, z_16 V, z_17 V, z_18 V, z_19 V, z_20 V, z_21 V, z_22 V, z_23 V, z_24 V, z_25 V, z_26 V, z_27 V, z_28 V, .inl (V.2.1 5, 3, .inr (.inr (.inr (.inr (fun _ => none))))), .inl (V.2.1 6, 3, .inr (.inr (.inr (.inr (fun _ => none))))), z_31 V, z_32 V, z_33 V, z_34 V, z_35 V, z_36 V, z_37 V, z_38 V, z_39 V, z_40 V, z_41 V, z_42 V, z_43 V, z_44 V, z_45 V, z_46 V, z_47 V, z_48 V, z_49 V, z_50 V, z_51 V, z_52 V, z_53 V, z_54 V] X.1 rfl rfl rfl rfl rfl rfl dX11_init_177 ?_
  refine c_iinc (v := 2) (pc := 178) X.1 [(1, .int 2), (0, .ref (V.2.2.1 + 0))] 0 rfl (by decide) (Nat.le_of_ble_eq_true rfl) rfl dX11_init_178 ?_
  refine c_goto (pc := 181) (tgt := 160) X.1 dX11_init_181 rfl ?_
  refine c_iload_n (pc := 160) X.1 0 rfl dX11_init_160 ?_
  refine c_iconst (v := 4) (pc := 161) X.1 rfl dX11_init_161 ?_
  refine c_icmp_ge (pc := 162) (tgt := 184) X.1 dX11_init_162 rfl (fun c => absurd c (by decide)) (fun _ => ?_)
  refine c_aload_n (pc := 165) X.1 1 rfl dX11_init_165 ?_
  refine c_get (k := 0) (pc := 166) X.1 k_fl_X11_22 rfl rfl dX11_init_166 ?_
  refine c_iload_n (pc := 169) X.1 0 rfl dX11_init_169 ?_
  refine c_new (fs := [.null, .int 0, .int 0]) (pc := 170) X.1 X.2.2 rfl k_kl_X11_20 (df_Ty) (Nat.le_of_ble_eq_true rfl) (Nat.le_of_ble_eq_true rfl) dX11_init_170 ?_
  refine c_dup (pc := 173) X.1 rfl dX11_init_173 ?_
  refine c_call (k := 55) (pc := 174) X.1 X.2.2 rfl k_ct_X11_95 ok2_X9_init (gi_X9_init) rfl rfl (size ) ⟨Nat.le_of_ble_eq_true rfl, Nat.le_of_ble_eq_true rfl⟩ ⟨Nat.le_of_ble_eq_true rfl, Nat.le_of_ble_eq_true rfl⟩ (Nat.le_of_ble_eq_true rfl) dX11_init_174 ?_
  refine c_aast (k := 1) (v := 55) (ci := 6) (pc := 177) [.inr (8, [.int 0, .long 0, .long 1, .ref (V.2.2.1 + 1), .ref (V.2.2.1 + 2), .ref (V.2.2.1 + 7), .ref (V.2.2.1 + 11), .ref (V.2.2.1 + 15), .ref (V.2.2.1 + 22), .ref (V.2.2.1 + 29), .ref (V.2.2.1 + 30), .int 0, .ref (V.2.2.1 + 31), .ref (V.2.2.1 + 35), .ref (V.2.2.1 + 36), .ref (V.2.2.1 + 47), .ref (V.2.2.1 + 49)]), .inl (V.2.1 4, 4, .inr (.inr (.inr (.inr (va_up (va_up (va_up (fun _ => none) (tn 0) (some (V.2.2.1 + 51))) (tn 1) (some (V.2.2.1 + 53))) (tn 2) (some (V.2.2.1 + 55))))))), z_2 V, z_3 V, z_4 V, z_5 V, z_6 V, z_7 V, z_8 V, z_9 V, z_10 V, z_11 V, z_12 V, z_13 V, z_14 V, z_15 V, z_16 V, z_17 V, z_18 V, z_19 V, z_20 V, z_21 V, z_22 V, z_23 V, z_24 V, z_25 V, z_26 V, z_27 V, z_28 V, .inl (V.2.1 5, 3, .inr (.inr (.inr (.inr (fun _ => none))))), .inl (V.2.1 6, 3, .inr (.inr (.inr (.inr (fun _ => none))))), z_31 V, z_32 V, z_33 V, z_34 V, z_35 V, z_36 V, z_37 V, z_38 V, z_39 V, z_40 V, z_41 V, z_42 V, z_43 V, z_44 V, z_45 V, z_46 V, z_47 V, z_48 V, z_49 V, z_50 V, z_51 V, z_52 V, z_53 V, z_54 V, z_55 V, z_56 V] X.1 rfl rfl rfl rfl rfl rfl dX11_init_177 ?_
  refine c_iinc (v := 3) (pc := 178) X.1 [(1, .int 3), (0, .ref (V.2.2.1 + 0))] 0 rfl (by decide) (Nat.le_of_ble_eq_true rfl) rfl dX11_init_178 ?_
  refine c_goto (pc := 181) (tgt := 160) X.1 dX11_init_181 rfl ?_
  refine c_iload_n (pc := 160) X.1 0 rfl dX11_init_160 ?_
  refine c_iconst (v := 4) (pc := 161) X.1 rfl dX11_init_161 ?_
  refine c_icmp_ge (pc := 162) (tgt := 184) X.1 dX11_init_162 rfl (fun c => absurd c (by decide)) (fun _ => ?_)
  refine c_aload_n (pc := 165) X.1 1 rfl dX11_init_165 ?_
  refine c_get (k := 0) (pc := 166) X.1 k_fl_X11_22 rfl rfl dX11_init_166 ?_
  refine c_iload_n (pc := 169) X.1 0 rfl dX11_init_169 ?_
  refine c_new (fs := [.null, .int 0, .int 0]) (pc := 170) X.1 X.2.2 rfl k_kl_X11_20 (df_Ty) (Nat.le_of_ble_eq_true rfl) (Nat.le_of_ble_eq_true rfl) dX11_init_170 ?_
  refine c_dup (pc := 173) X.1 rfl dX11_init_173 ?_
  refine c_call (k := 57) (pc := 174) X.1 X.2.2 rfl k_ct_X11_95 ok2_X9_init (gi_X9_init) rfl rfl (size ) ⟨Nat.le_of_ble_eq_true rfl, Nat.le_of_ble_eq_true rfl⟩ ⟨Nat.le_of_ble_eq_true rfl, Nat.le_of_ble_eq_true rfl⟩ (Nat.le_of_ble_eq_true rfl) dX11_init_174 ?_
  refine c_aast (k := 1) (v := 57) (ci := 6) (pc := 177) [.inr (8, [.int 0, .long 0, .long 1, .ref (V.2.2.1 + 1), .ref (V.2.2.1 + 2), .ref (V.2.2.1 + 7), .ref (V.2.2.1 + 11), .ref (V.2.2.1 + 15), .ref (V.2.2.1 + 22), .ref (V.2.2.1 + 29), .ref (V.2.2.1 + 30), .int 0, .ref (V.2.2.1 + 31), .ref (V.2.2.1 + 35), .ref (V.2.2.1 + 36), .ref (V.2.2.1 + 47), .ref (V.2.2.1 + 49)]), .inl (V.2.1 4, 4, .inr (.inr (.inr (.inr (va_up (va_up (va_up (va_up (fun _ => none) (tn 0) (some (V.2.2.1 + 51))) (tn 1) (some (V.2.2.1 + 53))) (tn 2) (some (V.2.2.1 + 55))) (tn 3) (some (V.2.2.1 + 57))))))), z_2 V, z_3 V, z_4 V, z_5 V, z_6 V, z_7 V, z_8 V, z_9 V, z_10 V, z_11 V, z_12 V, z_13 V, z_14 V, z_15 V, z_16 V, z_17 V, z_18 V, z_19 V, z_20 V, z_21 V, z_22 V, z_23 V, z_24 V, z_25 V, z_26 V, z_27 V, z_28 V, .inl (V.2.1 5, 3, .inr (.inr (.inr (.inr (fun _ => none))))), .inl (V.2.1 6, 3, .inr (.inr (.inr (.inr (fun _ => none))))), z_31 V, z_32 V, z_33 V, z_34 V, z_35 V, z_36 V, z_37 V, z_38 V, z_39 V, z_40 V, z_41 V, z_42 V, z_43 V, z_44 V, z_45 V, z_46 V, z_47 V, z_48 V, z_49 V, z_50 V, z_51 V, z_52 V, z_53 V, z_54 V, z_55 V, z_56 V, z_57 V, z_58 V] X.1 rfl rfl rfl rfl rfl rfl dX11_init_177 ?_
  refine c_iinc (v := 4) (pc := 178) X.1 [(1, .int 4), (0, .ref (V.2.2.1 + 0))] 0 rfl (by decide) (Nat.le_of_ble_eq_true rfl) rfl dX11_init_178 ?_
  refine c_goto (pc := 181) (tgt := 160) X.1 dX11_init_181 rfl ?_
  refine c_iload_n (pc := 160) X.1 0 rfl dX11_init_160 ?_
  refine c_iconst (v := 4) (pc := 161) X.1 rfl dX11_init_161 ?_
  refine c_icmp_ge (pc := 162) (tgt := 184) X.1 dX11_init_162 rfl (fun _ => ?_) (fun c => absurd c (by decide))
  refine c_iconst (v := 0) (pc := 184) X.1 rfl dX11_init_184 ?_
  refine c_istore_n (pc := 185) X.1 [(1, .int 0), (0, .ref (V.2.2.1 + 0))] rfl (Nat.le_of_ble_eq_true rfl) rfl dX11_init_185 ?_
  refine c_iload_n (pc := 186) X.1 0 rfl dX11_init_186 ?_
  refine c_iconst (v := 3) (pc := 187) X.1 rfl dX11_init_187 ?_
  refine c_icmp_ge (pc := 188) (tgt := 223) X.1 dX11_init_188 rfl (fun c => absurd c (by decide)) (fun _ => ?_)
  refine c_aload_n (pc := 191) X.1 1 rfl dX11_init_191 ?_
  refine c_get (k := 0) (pc := 192) X.1 k_fl_X11_53 rfl rfl dX11_init_192 ?_
  refine c_iload_n (pc := 195) X.1 0 rfl dX11_init_195 ?_
  refine c_new (fs := [.null, .null, .null, .int 0, .int 0, .int 0]) (pc := 196) X.1 X.2.2 rfl k_kl_X11_33 (df_Cl) (Nat.le_of_ble_eq_true rfl) (Nat.le_of_ble_eq_true rfl) dX11_init_196 ?_
  refine c_dup (pc := 199) X.1 rfl dX11_init_199 ?_
  refine c_call (k := 59) (pc := 200) X.1 X.2.2 rfl k_ct_X11_35 ok2_X1_init (gi_X1_init) rfl rfl (odds ) ⟨Nat.le_of_ble_eq_true rfl, Nat.le_of_ble_eq_true rfl⟩ ⟨Nat.le_of_ble_eq_true rfl, Nat.le_of_ble_eq_true rfl⟩ (Nat.le_of_ble_eq_true rfl) dX11_init_200 ?_
  refine c_aast (k := 29) (v := 59) (ci := 1) (pc := 203) [.inr (8, [.int 0, .long 0, .long 1, .ref (V.2.2.1 + 1), .ref (V.2.2.1 + 2), .ref (V.2.2.1 + 7), .ref (V.2.2.1 + 11), .ref (V.2.2.1 + 15), .ref (V.2.2.1 + 22), .ref (V.2.2.1 + 29), .ref (V.2.2.1 + 30), .int 0, .ref (V.2.2.1 + 31), .ref (V.2.2.1 + 35), .ref (V.2.2.1 + 36), .ref (V.2.2.1 + 47), .ref (V.2.2.1 + 49)]), .inl (V.2.1 4, 4, .inr (.inr (.inr (.inr (va_up (va_up (va_up (va_up (fun _ => none) (tn 0) (some (V.2.2.1 + 51))) (tn 1) (some (V.2.2.1 + 53))) (tn 2) (some (V.2.2.1 + 55))) (tn 3) (some (V.2.2.1 + 57))))))), z_2 V, z_3 V, z_4 V, z_5 V, z_6 V, z_7 V, z_8 V, z_9 V, z_10 V, z_11 V, z_12 V, z_13 V, z_14 V, z_15 V, z_16 V, z_17 V, z_18 V, z_19 V, z_20 V, z_21 V, z_22 V, z_23 V, z_24 V, z_25 V, z_26 V, z_27 V, z_28 V, .inl (V.2.1 5, 3, .inr (.inr (.inr (.inr (va_up (fun _ => none) (tn 0) (some (V.2.2.1 + 59))))))), .inl (V.2.1 6, 3, .inr (.inr (.inr (.inr (fun _ => none))))), z_31 V, z_32 V, z_33 V, z_34 V, z_35 V, z_36 V, z_37 V, z_38 V, z_39 V, z_40 V, z_41 V, z_42 V, z_43 V, z_44 V, z_45 V, z_46 V, z_47 V, z_48 V, z_49 V, z_50 V, z_51 V, z_52 V, z_53 V, z_54 V, z_55 V, z_56 V, z_57 V, z_58 V, z_59 V, z_60 V, z_61 V, z_62 V] X.1 rfl rfl rfl rfl rfl rfl dX11_init_203 ?_
  refine c_aload_n (pc := 204) X.1 1 rfl dX11_init_204 ?_
  refine c_get (k := 0) (pc := 205) X.1 k_fl_X11_57 rfl rfl dX11_init_205 ?_
  refine c_iload_n (pc := 208) X.1 0 rfl dX11_init_208 ?_
  refine c_new (fs := [.null, .null, .null, .null, .null, .null, .int 0, .int 0, .int 0]) (pc := 209) X.1 X.2.2 rfl k_kl_X11_43 (df_Da) (Nat.le_of_ble_eq_true rfl) (Nat.le_of_ble_eq_true rfl) dX11_init_209 ?_
  refine c_dup (pc := 212) X.1 rfl dX11_init_212 ?_
  refine c_call (k := 63) (pc := 213) X.1 X.2.2 rfl k_ct_X11_45 ok2_X2_init (gi_X2_init) rfl rfl (there ) ⟨Nat.le_of_ble_eq_true rfl, Nat.le_of_ble_eq_true rfl⟩ ⟨Nat.le_of_ble_eq_true rfl, Nat.le_of_ble_eq_true rfl⟩ (Nat.le_of_ble_eq_true rfl) dX11_init_213 ?_
  refine c_aast (k := 30) (v := 63) (ci := 2) (pc := 216) [.inr (8, [.int 0, .long 0, .long 1, .ref (V.2.2.1 + 1), .ref (V.2.2.1 + 2), .ref (V.2.2.1 + 7), .ref (V.2.2.1 + 11), .ref (V.2.2.1 + 15), .ref (V.2.2.1 + 22), .ref (V.2.2.1 + 29), .ref (V.2.2.1 + 30), .int 0, .ref (V.2.2.1 + 31), .ref (V.2.2.1 + 35), .ref (V.2.2.1 + 36), .ref (V.2.2.1 + 47), .ref (V.2.2.1 + 49)]), .inl (V.2.1 4, 4, .inr (.inr (.inr (.inr (va_up (va_up (va_up (va_up (fun _ => none) (tn 0) (some (V.2.2.1 + 51))) (tn 1) (some (V.2.2.1 + 53))) (tn 2) (some (V.2.2.1 + 55))) (tn 3) (some (V.2.2.1 + 57))))))), z_2 V, z_3 V, z_4 V, z_5 V, z_6 V, z_7 V, z_8 V, z_9 V, z_10 V, z_11 V, z_12 V, z_13 V, z_14 V, z_15 V, z_16 V, z_17 V, z_18 V, z_19 V, z_20 V, z_21 V, z_22 V, z_23 V, z_24 V, z_25 V, z_26 V, z_27 V, z_28 V, .inl (V.2.1 5, 3, .inr (.inr (.inr (.inr (va_up (fun _ => none) (tn 0) (some (V.2.2.1 + 59))))))), .inl (V.2.1 6, 3, .inr (.inr (.inr (.inr (va_up (fun _ => none) (tn 0) (some (V.2.2.1 + 63))))))), z_31 V, z_32 V, z_33 V, z_34 V, z_35 V, z_36 V, z_37 V, z_38 V, z_39 V, z_40 V, z_41 V, z_42 V, z_43 V, z_44 V, z_45 V, z_46 V, z_47 V, z_48 V, z_49 V, z_50 V, z_51 V, z_52 V, z_53 V, z_54 V, z_55 V, z_56 V, z_57 V, z_58 V, z_59 V, z_60 V, z_61 V, z_62 V, z_63 V, z_64 V, z_65 V, z_66 V, z_67 V, z_68 V, z_69 V] X.1 rfl rfl rfl rfl rfl rfl dX11_init_216 ?_
  refine c_iinc (v := 1) (pc := 217) X.1 [(1, .int 1), (0, .ref (V.2.2.1 + 0))] 0 rfl (by decide) (Nat.le_of_ble_eq_true rfl) rfl dX11_init_217 ?_
  refine c_goto (pc := 220) (tgt := 186) X.1 dX11_init_220 rfl ?_
  refine c_iload_n (pc := 186) X.1 0 rfl dX11_init_186 ?_
  refine c_iconst (v := 3) (pc := 187) X.1 rfl dX11_init_187 ?_
  refine c_icmp_ge (pc := 188) (tgt := 223) X.1 dX11_init_188 rfl (fun c => absurd c (by decide)) (fun _ => ?_)
  refine c_aload_n (pc := 191) X.1 1 rfl dX11_init_191 ?_
  refine c_get (k := 0) (pc := 192) X.1 k_fl_X11_53 rfl rfl dX11_init_192 ?_
  refine c_iload_n (pc := 195) X.1 0 rfl dX11_init_195 ?_
  refine c_new (fs := [.null, .null, .null, .int 0, .int 0, .int 0]) (pc := 196) X.1 X.2.2 rfl k_kl_X11_33 (df_Cl) (Nat.le_of_ble_eq_true rfl) (Nat.le_of_ble_eq_true rfl) dX11_init_196 ?_
  refine c_dup (pc := 199) X.1 rfl dX11_init_199 ?_
  refine c_call (k := 70) (pc := 200) X.1 X.2.2 rfl k_ct_X11_35 ok2_X1_init (gi_X1_init) rfl rfl (odds ) ⟨Nat.le_of_ble_eq_true rfl, Nat.le_of_ble_eq_true rfl⟩ ⟨Nat.le_of_ble_eq_true rfl, Nat.le_of_ble_eq_true rfl⟩ (Nat.le_of_ble_eq_true rfl) dX11_init_200 ?_
  refine c_aast (k := 29) (v := 70) (ci := 1) (pc := 203) [.inr (8, [.int 0, .long 0, .long 1, .ref (V.2.2.1 + 1), .ref (V.2.2.1 + 2), .ref (V.2.2.1 + 7), .ref (V.2.2.1 + 11), .ref (V.2.2.1 + 15), .ref (V.2.2.1 + 22), .ref (V.2.2.1 + 29), .ref (V.2.2.1 + 30), .int 0, .ref (V.2.2.1 + 31), .ref (V.2.2.1 + 35), .ref (V.2.2.1 + 36), .ref (V.2.2.1 + 47), .ref (V.2.2.1 + 49)]), .inl (V.2.1 4, 4, .inr (.inr (.inr (.inr (va_up (va_up (va_up (va_up (fun _ => none) (tn 0) (some (V.2.2.1 + 51))) (tn 1) (some (V.2.2.1 + 53))) (tn 2) (some (V.2.2.1 + 55))) (tn 3) (some (V.2.2.1 + 57))))))), z_2 V, z_3 V, z_4 V, z_5 V, z_6 V, z_7 V, z_8 V, z_9 V, z_10 V, z_11 V, z_12 V, z_13 V, z_14 V, z_15 V, z_16 V, z_17 V, z_18 V, z_19 V, z_20 V, z_21 V, z_22 V, z_23 V, z_24 V, z_25 V, z_26 V, z_27 V, z_28 V, .inl (V.2.1 5, 3, .inr (.inr (.inr (.inr (va_up (va_up (fun _ => none) (tn 0) (some (V.2.2.1 + 59))) (tn 1) (some (V.2.2.1 + 70))))))), .inl (V.2.1 6, 3, .inr (.inr (.inr (.inr (va_up (fun _ => none) (tn 0) (some (V.2.2.1 + 63))))))), z_31 V, z_32 V, z_33 V, z_34 V, z_35 V, z_36 V, z_37 V, z_38 V, z_39 V, z_40 V, z_41 V, z_42 V, z_43 V, z_44 V, z_45 V, z_46 V, z_47 V, z_48 V, z_49 V, z_50 V, z_51 V, z_52 V, z_53 V, z_54 V, z_55 V, z_56 V, z_57 V, z_58 V, z_59 V, z_60 V, z_61 V, z_62 V, z_63 V, z_64 V, z_65 V, z_66 V, z_67 V, z_68 V, z_69 V, z_70 V, z_71 V, z_72 V, z_73 V] X.1 rfl rfl rfl rfl rfl rfl dX11_init_203 ?_
  refine c_aload_n (pc := 204) X.1 1 rfl dX11_init_204 ?_
  refine c_get (k := 0) (pc := 205) X.1 k_fl_X11_57 rfl rfl dX11_init_205 ?_
  refine c_iload_n (pc := 208) X.1 0 rfl dX11_init_208 ?_
  refine c_new (fs := [.null, .null, .null, .null, .null, .null, .int 0, .int 0, .int 0]) (pc := 209) X.1 X.2.2 rfl k_kl_X11_43 (df_Da) (Nat.le_of_ble_eq_true rfl) (Nat.le_of_ble_eq_true rfl) dX11_init_209 ?_
  refine c_dup (pc := 212) X.1 rfl dX11_init_212 ?_
  refine c_call (k := 74) (pc := 213) X.1 X.2.2 rfl k_ct_X11_45 ok2_X2_init (gi_X2_init) rfl rfl (there ) ⟨Nat.le_of_ble_eq_true rfl, Nat.le_of_ble_eq_true rfl⟩ ⟨Nat.le_of_ble_eq_true rfl, Nat.le_of_ble_eq_true rfl⟩ (Nat.le_of_ble_eq_true rfl) dX11_init_213 ?_
  refine c_aast (k := 30) (v := 74) (ci := 2) (pc := 216) [.inr (8, [.int 0, .long 0, .long 1, .ref (V.2.2.1 + 1), .ref (V.2.2.1 + 2), .ref (V.2.2.1 + 7), .ref (V.2.2.1 + 11), .ref (V.2.2.1 + 15), .ref (V.2.2.1 + 22), .ref (V.2.2.1 + 29), .ref (V.2.2.1 + 30), .int 0, .ref (V.2.2.1 + 31), .ref (V.2.2.1 + 35), .ref (V.2.2.1 + 36), .ref (V.2.2.1 + 47), .ref (V.2.2.1 + 49)]), .inl (V.2.1 4, 4, .inr (.inr (.inr (.inr (va_up (va_up (va_up (va_up (fun _ => none) (tn 0) (some (V.2.2.1 + 51))) (tn 1) (some (V.2.2.1 + 53))) (tn 2) (some (V.2.2.1 + 55))) (tn 3) (some (V.2.2.1 + 57))))))), z_2 V, z_3 V, z_4 V, z_5 V, z_6 V, z_7 V, z_8 V, z_9 V, z_10 V, z_11 V, z_12 V, z_13 V, z_14 V, z_15 V, z_16 V, z_17 V, z_18 V, z_19 V, z_20 V, z_21 V, z_22 V, z_23 V, z_24 V, z_25 V, z_26 V, z_27 V, z_28 V, .inl (V.2.1 5, 3, .inr (.inr (.inr (.inr (va_up (va_up (fun _ => none) (tn 0) (some (V.2.2.1 + 59))) (tn 1) (some (V.2.2.1 + 70))))))), .inl (V.2.1 6, 3, .inr (.inr (.inr (.inr (va_up (va_up (fun _ => none) (tn 0) (some (V.2.2.1 + 63))) (tn 1) (some (V.2.2.1 + 74))))))), z_31 V, z_32 V, z_33 V, z_34 V, z_35 V, z_36 V, z_37 V, z_38 V, z_39 V, z_40 V, z_41 V, z_42 V, z_43 V, z_44 V, z_45 V, z_46 V, z_47 V, z_48 V, z_49 V, z_50 V, z_51 V, z_52 V, z_53 V, z_54 V, z_55 V, z_56 V, z_57 V, z_58 V, z_59 V, z_60 V, z_61 V, z_62 V, z_63 V, z_64 V, z_65 V, z_66 V, z_67 V, z_68 V, z_69 V, z_70 V, z_71 V, z_72 V, z_73 V, z_74 V, z_75 V, z_76 V, z_77 V, z_78 V, z_79 V, z_80 V] X.1 rfl rfl rfl rfl rfl rfl dX11_init_216 ?_
  refine c_iinc (v := 2) (pc := 217) X.1 [(1, .int 2), (0, .ref (V.2.2.1 + 0))] 0 rfl (by decide) (Nat.le_of_ble_eq_true rfl) rfl dX11_init_217 ?_
  refine c_goto (pc := 220) (tgt := 186) X.1 dX11_init_220 rfl ?_
  refine c_iload_n (pc := 186) X.1 0 rfl dX11_init_186 ?_
  refine c_iconst (v := 3) (pc := 187) X.1 rfl dX11_init_187 ?_
  refine c_icmp_ge (pc := 188) (tgt := 223) X.1 dX11_init_188 rfl (fun c => absurd c (by decide)) (fun _ => ?_)
  refine c_aload_n (pc := 191) X.1 1 rfl dX11_init_191 ?_
  refine c_get (k := 0) (pc := 192) X.1 k_fl_X11_53 rfl rfl dX11_init_192 ?_
  refine c_iload_n (pc := 195) X.1 0 rfl dX11_init_195 ?_
  refine c_new (fs := [.null, .null, .null, .int 0, .int 0, .int 0]) (pc := 196) X.1 X.2.2 rfl k_kl_X11_33 (df_Cl) (Nat.le_of_ble_eq_true rfl) (Nat.le_of_ble_eq_true rfl) dX11_init_196 ?_
  refine c_dup (pc := 199) X.1 rfl dX11_init_199 ?_
  refine c_call (k := 81) (pc := 200) X.1 X.2.2 rfl k_ct_X11_35 ok2_X1_init (gi_X1_init) rfl rfl (odds ) ⟨Nat.le_of_ble_eq_true rfl, Nat.le_of_ble_eq_true rfl⟩ ⟨Nat.le_of_ble_eq_true rfl, Nat.le_of_ble_eq_true rfl⟩ (Nat.le_of_ble_eq_true rfl) dX11_init_200 ?_
  refine c_aast (k := 29) (v := 81) (ci := 1) (pc := 203) [.inr (8, [.int 0, .long 0, .long 1, .ref (V.2.2.1 + 1), .ref (V.2.2.1 + 2), .ref (V.2.2.1 + 7), .ref (V.2.2.1 + 11), .ref (V.2.2.1 + 15), .ref (V.2.2.1 + 22), .ref (V.2.2.1 + 29), .ref (V.2.2.1 + 30), .int 0, .ref (V.2.2.1 + 31), .ref (V.2.2.1 + 35), .ref (V.2.2.1 + 36), .ref (V.2.2.1 + 47), .ref (V.2.2.1 + 49)]), .inl (V.2.1 4, 4, .inr (.inr (.inr (.inr (va_up (va_up (va_up (va_up (fun _ => none) (tn 0) (some (V.2.2.1 + 51))) (tn 1) (some (V.2.2.1 + 53))) (tn 2) (some (V.2.2.1 + 55))) (tn 3) (some (V.2.2.1 + 57))))))), z_2 V, z_3 V, z_4 V, z_5 V, z_6 V, z_7 V, z_8 V, z_9 V, z_10 V, z_11 V, z_12 V, z_13 V, z_14 V, z_15 V, z_16 V, z_17 V, z_18 V, z_19 V, z_20 V, z_21 V, z_22 V, z_23 V, z_24 V, z_25 V, z_26 V, z_27 V, z_28 V, .inl (V.2.1 5, 3, .inr (.inr (.inr (.inr (va_up (va_up (va_up (fun _ => none) (tn 0) (some (V.2.2.1 + 59))) (tn 1) (some (V.2.2.1 + 70))) (tn 2) (some (V.2.2.1 + 81))))))), .inl (V.2.1 6, 3, .inr (.inr (.inr (.inr (va_up (va_up (fun _ => none) (tn 0) (some (V.2.2.1 + 63))) (tn 1) (some (V.2.2.1 + 74))))))), z_31 V, z_32 V, z_33 V, z_34 V, z_35 V, z_36 V, z_37 V, z_38 V, z_39 V, z_40 V, z_41 V, z_42 V, z_43 V, z_44 V, z_45 V, z_46 V, z_47 V, z_48 V, z_49 V, z_50 V, z_51 V, z_52 V, z_53 V, z_54 V, z_55 V, z_56 V, z_57 V, z_58 V, z_59 V, z_60 V, z_61 V, z_62 V, z_63 V, z_64 V, z_65 V, z_66 V, z_67 V, z_68 V, z_69 V, z_70 V, z_71 V, z_72 V, z_73 V, z_74 V, z_75 V, z_76 V, z_77 V, z_78 V, z_79 V, z_80 V, z_81 V, z_82 V, z_83 V, z_84 V] X.1 rfl rfl rfl rfl rfl rfl dX11_init_203 ?_
  refine c_aload_n (pc := 204) X.1 1 rfl dX11_init_204 ?_
  refine c_get (k := 0) (pc := 205) X.1 k_fl_X11_57 rfl rfl dX11_init_205 ?_
  refine c_iload_n (pc := 208) X.1 0 rfl dX11_init_208 ?_
  refine c_new (fs := [.null, .null, .null, .null, .null, .null, .int 0, .int 0, .int 0]) (pc := 209) X.1 X.2.2 rfl k_kl_X11_43 (df_Da) (Nat.le_of_ble_eq_true rfl) (Nat.le_of_ble_eq_true rfl) dX11_init_209 ?_
  refine c_dup (pc := 212) X.1 rfl dX11_init_212 ?_
  refine c_call (k := 85) (pc := 213) X.1 X.2.2 rfl k_ct_X11_45 ok2_X2_init (gi_X2_init) rfl rfl (there ) ⟨Nat.le_of_ble_eq_true rfl, Nat.le_of_ble_eq_true rfl⟩ ⟨Nat.le_of_ble_eq_true rfl, Nat.le_of_ble_eq_true rfl⟩ (Nat.le_of_ble_eq_true rfl) dX11_init_213 ?_
  refine c_aast (k := 30) (v := 85) (ci := 2) (pc := 216) [.inr (8, [.int 0, .long 0, .long 1, .ref (V.2.2.1 + 1), .ref (V.2.2.1 + 2), .ref (V.2.2.1 + 7), .ref (V.2.2.1 + 11), .ref (V.2.2.1 + 15), .ref (V.2.2.1 + 22), .ref (V.2.2.1 + 29), .ref (V.2.2.1 + 30), .int 0, .ref (V.2.2.1 + 31), .ref (V.2.2.1 + 35), .ref (V.2.2.1 + 36), .ref (V.2.2.1 + 47), .ref (V.2.2.1 + 49)]), .inl (V.2.1 4, 4, .inr (.inr (.inr (.inr (va_up (va_up (va_up (va_up (fun _ => none) (tn 0) (some (V.2.2.1 + 51))) (tn 1) (some (V.2.2.1 + 53))) (tn 2) (some (V.2.2.1 + 55))) (tn 3) (some (V.2.2.1 + 57))))))), z_2 V, z_3 V, z_4 V, z_5 V, z_6 V, z_7 V, z_8 V, z_9 V, z_10 V, z_11 V, z_12 V, z_13 V, z_14 V, z_15 V, z_16 V, z_17 V, z_18 V, z_19 V, z_20 V, z_21 V, z_22 V, z_23 V, z_24 V, z_25 V, z_26 V, z_27 V, z_28 V, .inl (V.2.1 5, 3, .inr (.inr (.inr (.inr (va_up (va_up (va_up (fun _ => none) (tn 0) (some (V.2.2.1 + 59))) (tn 1) (some (V.2.2.1 + 70))) (tn 2) (some (V.2.2.1 + 81))))))), .inl (V.2.1 6, 3, .inr (.inr (.inr (.inr (va_up (va_up (va_up (fun _ => none) (tn 0) (some (V.2.2.1 + 63))) (tn 1) (some (V.2.2.1 + 74))) (tn 2) (some (V.2.2.1 + 85))))))), z_31 V, z_32 V, z_33 V, z_34 V, z_35 V, z_36 V, z_37 V, z_38 V, z_39 V, z_40 V, z_41 V, z_42 V, z_43 V, z_44 V, z_45 V, z_46 V, z_47 V, z_48 V, z_49 V, z_50 V, z_51 V, z_52 V, z_53 V, z_54 V, z_55 V, z_56 V, z_57 V, z_58 V, z_59 V, z_60 V, z_61 V, z_62 V, z_63 V, z_64 V, z_65 V, z_66 V, z_67 V, z_68 V, z_69 V, z_70 V, z_71 V, z_72 V, z_73 V, z_74 V, z_75 V, z_76 V, z_77 V, z_78 V, z_79 V, z_80 V, z_81 V, z_82 V, z_83 V, z_84 V, z_85 V, z_86 V, z_87 V, z_88 V, z_89 V, z_90 V, z_91 V] X.1 rfl rfl rfl rfl rfl rfl dX11_init_216 ?_
  refine c_iinc (v := 3) (pc := 217) X.1 [(1, .int 3), (0, .ref (V.2.2.1 + 0))] 0 rfl (by decide) (Nat.le_of_ble_eq_true rfl) rfl dX11_init_217 ?_
  refine c_goto (pc := 220) (tgt := 186) X.1 dX11_init_220 rfl ?_
  refine c_iload_n (pc := 186) X.1 0 rfl dX11_init_186 ?_
  refine c_iconst (v := 3) (pc := 187) X.1 rfl dX11_init_187 ?_
  refine c_icmp_ge (pc := 188) (tgt := 223) X.1 dX11_init_188 rfl (fun _ => ?_) (fun c => absurd c (by decide))
  refine c_swap (k := 1) [.inr (8, [.int 0, .long 0, .long 1, .ref (V.2.2.1 + 1), .ref (V.2.2.1 + 2), .ref (V.2.2.1 + 7), .ref (V.2.2.1 + 11), .ref (V.2.2.1 + 15), .ref (V.2.2.1 + 22), .ref (V.2.2.1 + 29), .ref (V.2.2.1 + 30), .int 0, .ref (V.2.2.1 + 31), .ref (V.2.2.1 + 35), .ref (V.2.2.1 + 36), .ref (V.2.2.1 + 47), .ref (V.2.2.1 + 49)]), .inl (V.2.1 4, 4, .inr (.inr (.inr (.inr (fun j => some (V.2.2.1 + rfs 1 j)))))), z_2 V, z_3 V, z_4 V, z_5 V, z_6 V, z_7 V, z_8 V, z_9 V, z_10 V, z_11 V, z_12 V, z_13 V, z_14 V, z_15 V, z_16 V, z_17 V, z_18 V, z_19 V, z_20 V, z_21 V, z_22 V, z_23 V, z_24 V, z_25 V, z_26 V, z_27 V, z_28 V, .inl (V.2.1 5, 3, .inr (.inr (.inr (.inr (va_up (va_up (va_up (fun _ => none) (tn 0) (some (V.2.2.1 + 59))) (tn 1) (some (V.2.2.1 + 70))) (tn 2) (some (V.2.2.1 + 81))))))), .inl (V.2.1 6, 3, .inr (.inr (.inr (.inr (va_up (va_up (va_up (fun _ => none) (tn 0) (some (V.2.2.1 + 63))) (tn 1) (some (V.2.2.1 + 74))) (tn 2) (some (V.2.2.1 + 85))))))), z_31 V, z_32 V, z_33 V, z_34 V, z_35 V, z_36 V, z_37 V, z_38 V, z_39 V, z_40 V, z_41 V, z_42 V, z_43 V, z_44 V, z_45 V, z_46 V, z_47 V, z_48 V, z_49 V, z_50 V, z_51 V, z_52 V, z_53 V, z_54 V, z_55 V, z_56 V, z_57 V, z_58 V, z_59 V, z_60 V, z_61 V, z_62 V, z_63 V, z_64 V, z_65 V, z_66 V, z_67 V, z_68 V, z_69 V, z_70 V, z_71 V, z_72 V, z_73 V, z_74 V, z_75 V, z_76 V, z_77 V, z_78 V, z_79 V, z_80 V, z_81 V, z_82 V, z_83 V, z_84 V, z_85 V, z_86 V, z_87 V, z_88 V, z_89 V, z_90 V, z_91 V] rfl (fun j hj => ?_) rfl ?_
  · rcases (show j = 0 ∨ j = 1 ∨ j = 2 ∨ j = 3 by omega) with rfl | rfl | rfl | rfl <;> rfl
  refine c_swap (k := 29) [.inr (8, [.int 0, .long 0, .long 1, .ref (V.2.2.1 + 1), .ref (V.2.2.1 + 2), .ref (V.2.2.1 + 7), .ref (V.2.2.1 + 11), .ref (V.2.2.1 + 15), .ref (V.2.2.1 + 22), .ref (V.2.2.1 + 29), .ref (V.2.2.1 + 30), .int 0, .ref (V.2.2.1 + 31), .ref (V.2.2.1 + 35), .ref (V.2.2.1 + 36), .ref (V.2.2.1 + 47), .ref (V.2.2.1 + 49)]), .inl (V.2.1 4, 4, .inr (.inr (.inr (.inr (fun j => some (V.2.2.1 + rfs 1 j)))))), z_2 V, z_3 V, z_4 V, z_5 V, z_6 V, z_7 V, z_8 V, z_9 V, z_10 V, z_11 V, z_12 V, z_13 V, z_14 V, z_15 V, z_16 V, z_17 V, z_18 V, z_19 V, z_20 V, z_21 V, z_22 V, z_23 V, z_24 V, z_25 V, z_26 V, z_27 V, z_28 V, .inl (V.2.1 5, 3, .inr (.inr (.inr (.inr (fun j => some (V.2.2.1 + rfs 29 j)))))), .inl (V.2.1 6, 3, .inr (.inr (.inr (.inr (va_up (va_up (va_up (fun _ => none) (tn 0) (some (V.2.2.1 + 63))) (tn 1) (some (V.2.2.1 + 74))) (tn 2) (some (V.2.2.1 + 85))))))), z_31 V, z_32 V, z_33 V, z_34 V, z_35 V, z_36 V, z_37 V, z_38 V, z_39 V, z_40 V, z_41 V, z_42 V, z_43 V, z_44 V, z_45 V, z_46 V, z_47 V, z_48 V, z_49 V, z_50 V, z_51 V, z_52 V, z_53 V, z_54 V, z_55 V, z_56 V, z_57 V, z_58 V, z_59 V, z_60 V, z_61 V, z_62 V, z_63 V, z_64 V, z_65 V, z_66 V, z_67 V, z_68 V, z_69 V, z_70 V, z_71 V, z_72 V, z_73 V, z_74 V, z_75 V, z_76 V, z_77 V, z_78 V, z_79 V, z_80 V, z_81 V, z_82 V, z_83 V, z_84 V, z_85 V, z_86 V, z_87 V, z_88 V, z_89 V, z_90 V, z_91 V] rfl (fun j hj => ?_) rfl ?_
  · rcases (show j = 0 ∨ j = 1 ∨ j = 2 by omega) with rfl | rfl | rfl <;> rfl
  refine c_swap (k := 30) [.inr (8, [.int 0, .long 0, .long 1, .ref (V.2.2.1 + 1), .ref (V.2.2.1 + 2), .ref (V.2.2.1 + 7), .ref (V.2.2.1 + 11), .ref (V.2.2.1 + 15), .ref (V.2.2.1 + 22), .ref (V.2.2.1 + 29), .ref (V.2.2.1 + 30), .int 0, .ref (V.2.2.1 + 31), .ref (V.2.2.1 + 35), .ref (V.2.2.1 + 36), .ref (V.2.2.1 + 47), .ref (V.2.2.1 + 49)]), .inl (V.2.1 4, 4, .inr (.inr (.inr (.inr (fun j => some (V.2.2.1 + rfs 1 j)))))), z_2 V, z_3 V, z_4 V, z_5 V, z_6 V, z_7 V, z_8 V, z_9 V, z_10 V, z_11 V, z_12 V, z_13 V, z_14 V, z_15 V, z_16 V, z_17 V, z_18 V, z_19 V, z_20 V, z_21 V, z_22 V, z_23 V, z_24 V, z_25 V, z_26 V, z_27 V, z_28 V, .inl (V.2.1 5, 3, .inr (.inr (.inr (.inr (fun j => some (V.2.2.1 + rfs 29 j)))))), .inl (V.2.1 6, 3, .inr (.inr (.inr (.inr (fun j => some (V.2.2.1 + rfs 30 j)))))), z_31 V, z_32 V, z_33 V, z_34 V, z_35 V, z_36 V, z_37 V, z_38 V, z_39 V, z_40 V, z_41 V, z_42 V, z_43 V, z_44 V, z_45 V, z_46 V, z_47 V, z_48 V, z_49 V, z_50 V, z_51 V, z_52 V, z_53 V, z_54 V, z_55 V, z_56 V, z_57 V, z_58 V, z_59 V, z_60 V, z_61 V, z_62 V, z_63 V, z_64 V, z_65 V, z_66 V, z_67 V, z_68 V, z_69 V, z_70 V, z_71 V, z_72 V, z_73 V, z_74 V, z_75 V, z_76 V, z_77 V, z_78 V, z_79 V, z_80 V, z_81 V, z_82 V, z_83 V, z_84 V, z_85 V, z_86 V, z_87 V, z_88 V, z_89 V, z_90 V, z_91 V] rfl (fun j hj => ?_) rfl ?_
  · rcases (show j = 0 ∨ j = 1 ∨ j = 2 by omega) with rfl | rfl | rfl <;> rfl
  exact c_vret (pc := 223) X.1 rfl rfl dX11_init_223
