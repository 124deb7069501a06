/-! The fixed world: all cells are made by the two constructors; behind them their shape stands. A state St holds the numbers: ints by cell and place, longs by cell and place. -/
abbrev St : Type := (Nat → Nat → Int32) × (Nat → Nat → Int64)
/-- the classes' numbers, the array classes, the first cell's address, the addresses of the two texts -/
abbrev Ev : Type := va_G × (Nat → ClassId) × Nat × (Nat → Nat)
/-- a cell's shape: an object (class, a code for each field: 0 int, 1 long, r + 2 the cell r) or an array (kind, length) -/
abbrev Sh : Type := (Nat × List Nat) ⊕ (Nat × Nat)
abbrev Cn : Type := Program × Launch × Env × State × MethodId × Array Value × List Frame × Method × Code
abbrev Mi : Type := MethodName × ByteArray × Nat × Option FieldType
def u2 {α : Type} (f : Nat → Nat → α) (a i : Nat) (v : α) : Nat → Nat → α := fun b j => if b = a then (if j = i then v else f b j) else f b j
def ur {α : Type} (f : Nat → Nat → α) (a : Nat) (g : Nat → α) : Nat → Nat → α := fun b j => if b = a then g j else f b j
def wI (σ : St) (a i : Nat) (v : Int32) : St := (u2 σ.1 a i v, σ.2)
def wL (σ : St) (a i : Nat) (v : Int64) : St := (σ.1, u2 σ.2 a i v)
def rI (σ : St) (a : Nat) (g : Nat → Int32) : St := (ur σ.1 a g, σ.2)
def rL (σ : St) (a : Nat) (g : Nat → Int64) : St := (σ.1, ur σ.2 a g)
theorem u2_row {α : Type} (f : Nat → Nat → α) (a i : Nat) (v : α) : u2 f a i v a = fun j => if j = i then v else f a j := by
  funext j; simp [u2]
theorem u2_off {α : Type} (f : Nat → Nat → α) {a b : Nat} (i : Nat) (v : α) (h : b ≠ a) : u2 f a i v b = f b := by
  funext j; simp [u2, h]
theorem ur_row {α : Type} (f : Nat → Nat → α) (a : Nat) (g : Nat → α) : ur f a g a = g := by
  funext j; simp [ur]
theorem ur_off {α : Type} (f : Nat → Nat → α) {a b : Nat} (g : Nat → α) (h : b ≠ a) : ur f a g b = f b := by
  funext j; simp [ur, h]
def shp : List Sh := [.inl (8, [0, 1, 1, 3, 4, 9, 13, 17, 24, 31, 32, 0, 33, 37, 38, 49, 51]),
  .inr (4, 4),
  .inl (4, [5, 0, 0, 6, 7, 8, 0, 0, 1, 0, 0]),
  .inr (2, 900),
  .inr (0, 901),
  .inr (0, 901),
  .inr (1, 901),
  .inl (1, [10, 11, 12, 0, 0, 0]),
  .inr (0, 12),
  .inr (0, 12),
  .inr (1, 12),
  .inl (1, [14, 15, 16, 0, 0, 0]),
  .inr (0, 12),
  .inr (0, 12),
  .inr (1, 12),
  .inl (2, [18, 19, 20, 21, 22, 23, 0, 0, 0]),
  .inr (0, 60),
  .inr (0, 60),
  .inr (0, 60),
  .inr (0, 60),
  .inr (0, 60),
  .inr (0, 60),
  .inl (2, [25, 26, 27, 28, 29, 30, 0, 0, 0]),
  .inr (0, 60),
  .inr (0, 60),
  .inr (0, 60),
  .inr (0, 60),
  .inr (0, 60),
  .inr (0, 60),
  .inr (5, 3),
  .inr (6, 3),
  .inl (5, [34, 35, 36, 0, 0]),
  .inr (1, 79),
  .inr (1, 79),
  .inr (1, 64),
  .inl (7, [0, 0, 0, 0]),
  .inl (0, [39, 40, 41, 0, 0, 0]),
  .inr (0, 6),
  .inr (0, 6),
  .inr (7, 7),
  .inr (1, 79),
  .inr (1, 79),
  .inr (1, 79),
  .inr (1, 79),
  .inr (1, 79),
  .inr (1, 79),
  .inr (1, 79),
  .inl (3, [50, 0, 0, 0, 0, 0, 0, 0, 0]),
  .inr (0, 60),
  .inl (3, [52, 0, 0, 0, 0, 0, 0, 0, 0]),
  .inr (0, 60),
  .inl (6, [54, 0, 0]),
  .inr (1, 60),
  .inl (6, [56, 0, 0]),
  .inr (1, 60),
  .inl (6, [58, 0, 0]),
  .inr (1, 60),
  .inl (6, [60, 0, 0]),
  .inr (1, 60),
  .inl (1, [62, 63, 64, 0, 0, 0]),
  .inr (0, 12),
  .inr (0, 12),
  .inr (1, 12),
  .inl (2, [66, 67, 68, 69, 70, 71, 0, 0, 0]),
  .inr (0, 60),
  .inr (0, 60),
  .inr (0, 60),
  .inr (0, 60),
  .inr (0, 60),
  .inr (0, 60),
  .inl (1, [73, 74, 75, 0, 0, 0]),
  .inr (0, 12),
  .inr (0, 12),
  .inr (1, 12),
  .inl (2, [77, 78, 79, 80, 81, 82, 0, 0, 0]),
  .inr (0, 60),
  .inr (0, 60),
  .inr (0, 60),
  .inr (0, 60),
  .inr (0, 60),
  .inr (0, 60),
  .inl (1, [84, 85, 86, 0, 0, 0]),
  .inr (0, 12),
  .inr (0, 12),
  .inr (1, 12),
  .inl (2, [88, 89, 90, 91, 92, 93, 0, 0, 0]),
  .inr (0, 60),
  .inr (0, 60),
  .inr (0, 60),
  .inr (0, 60),
  .inr (0, 60),
  .inr (0, 60),
  .inl (9, [95, 96, 0, 1, 1, 97, 98, 99, 100, 101, 0, 0, 0, 0, 0, 0, 0, 0, 0, 0, 102, 0, 0, 0, 103, 104, 105, 106, 107, 108, 0, 109, 0, 0, 110, 111, 112, 0, 0]),
  .inr (0, 2060),
  .inr (1, 60),
  .inr (0, 4),
  .inr (0, 4),
  .inr (1, 240),
  .inr (2, 900),
  .inr (2, 900),
  .inr (0, 3),
  .inr (0, 5040),
  .inr (3, 4096),
  .inr (3, 5040),
  .inr (0, 4),
  .inr (0, 6),
  .inr (0, 6),
  .inr (1, 6),
  .inr (0, 60),
  .inr (0, 5),
  .inr (0, 5)]
/-- which cell an array of references holds at a place -/
def rfs (k j : Nat) : Nat := if k = 1 then 51 + 2 * j else if k = 29 then 59 + 11 * j else if k = 30 then 63 + 11 * j else 40 + j

def fv (B : Nat) (r1 : Nat → Int32) (r2 : Nat → Int64) (i c : Nat) : Value := match c with
  | 0 => .int (r1 i)
  | 1 => .long (r2 i)
  | r + 2 => .ref (B + r)
def cnt (B : Nat) (r1 : Nat → Int32) (r2 : Nat → Int64) (k ak : Nat) : (Nat → Int32) ⊕ (Nat → Int64) ⊕ (Nat → UInt32) ⊕ (Nat → UInt64) ⊕ (Nat → Option Nat) := match ak with
  | 0 => .inl r1
  | 1 => .inr (.inl r2)
  | 2 => .inl r1
  | 3 => .inl r1
  | _ => .inr (.inr (.inr (.inr (fun j => some (B + rfs k j)))))
def ent (V : Ev) (r1 : Nat → Int32) (r2 : Nat → Int64) (k : Nat) (s : Sh) : va_E := match s with
  | .inl q => .inr (q.1, q.2.mapIdx (fv V.2.2.1 r1 r2))
  | .inr q => .inl (V.2.1 q.1, q.2, cnt V.2.2.1 r1 r2 k q.1)
def wd (V : Ev) (σ : St) : va_W := shp.mapIdx (fun k s => (V.2.2.1 + k, ent V (σ.1 k) (σ.2 k) k s))
def tys (V : Ev) : List (ClassId × FieldType) := [(V.2.1 0, .int), (V.2.1 1, .long), (V.2.1 2, .byte), (V.2.1 3, .boolean), (V.2.1 4, .object "ResidueCover$Tray"), (V.2.1 5, .object "ResidueCover$Classes"), (V.2.1 6, .object "ResidueCover$Days"), (V.2.1 7, .array .long)]
def AA (V : Ev) : Nat → Prop := fun q => V.2.2.1 ≤ q
theorem wd_at (V : Ev) (σ : St) {k : Nat} {s : Sh} (hs : shp[k]? = some s) : (wd V σ)[k]? = some (V.2.2.1 + k, ent V (σ.1 k) (σ.2 k) k s) := by
  unfold wd; rw [List.getElem?_mapIdx, hs]; rfl
theorem wd_D (V : Ev) (σ : St) : va_D (AA V) (wd V σ) := by
  have hq : ∀ (i : Nat) (q : Nat × va_E), (wd V σ)[i]? = some q → q.1 = V.2.2.1 + i := by
    intro i q h
    unfold wd at h
    rw [List.getElem?_mapIdx] at h
    cases hs : shp[i]? with
    | none => rw [hs] at h; cases h
    | some s => rw [hs] at h; cases h; rfl
  refine ⟨fun i j p q h1 h2 h3 => ?_, fun k q h => ?_⟩
  · have e1 := hq i p h1
    have e2 := hq j q h2
    omega
  · show V.2.2.1 ≤ q.1
    rw [hq k q h]; omega
theorem wd_set (V : Ev) (σ σ' : St) {k : Nat} {s : Sh} (hs : shp[k]? = some s) (h1 : ∀ b, b ≠ k → σ'.1 b = σ.1 b) (h2 : ∀ b, b ≠ k → σ'.2 b = σ.2 b) : (wd V σ).set k (V.2.2.1 + k, ent V (σ'.1 k) (σ'.2 k) k s) = wd V σ' := by
  apply List.ext_getElem?
  intro i
  by_cases e : i = k
  · subst e
    rw [wd_at V σ' hs, List.getElem?_set_self]
    have := wd_at V σ hs
    exact (List.getElem?_eq_some_iff.mp this).1
  · rw [List.getElem?_set_ne (Ne.symm e)]
    unfold wd
    rw [List.getElem?_mapIdx, List.getElem?_mapIdx, h1 i e, h2 i e]
theorem fv_setI (B : Nat) (r1 : Nat → Int32) (r2 : Nat → Int64) (i : Nat) (v : Int32) (fks : List Nat) (h : fks[i]? = some 0) : (fks.mapIdx (fv B r1 r2)).set i (.int v) = fks.mapIdx (fv B (fun j => if j = i then v else r1 j) r2) := by
  apply List.ext_getElem?
  intro j
  by_cases e : j = i
  · subst e
    rw [List.getElem?_set_self (by rw [List.length_mapIdx]; exact (List.getElem?_eq_some_iff.mp h).1), List.getElem?_mapIdx, h]
    simp [fv]
  · rw [List.getElem?_set_ne (Ne.symm e), List.getElem?_mapIdx, List.getElem?_mapIdx]
    cases fks[j]? with
    | none => rfl
    | some c =>
      match c with
      | 0 => simp [fv, e]
      | 1 => rfl
      | r + 2 => rfl
theorem fv_setL (B : Nat) (r1 : Nat → Int32) (r2 : Nat → Int64) (i : Nat) (v : Int64) (fks : List Nat) (h : fks[i]? = some 1) : (fks.mapIdx (fv B r1 r2)).set i (.long v) = fks.mapIdx (fv B r1 (fun j => if j = i then v else r2 j)) := by
  apply List.ext_getElem?
  intro j
  by_cases e : j = i
  · subst e
    rw [List.getElem?_set_self (by rw [List.length_mapIdx]; exact (List.getElem?_eq_some_iff.mp h).1), List.getElem?_mapIdx, h]
    simp [fv]
  · rw [List.getElem?_set_ne (Ne.symm e), List.getElem?_mapIdx, List.getElem?_mapIdx]
    cases fks[j]? with
    | none => rfl
    | some c =>
      match c with
      | 0 => rfl
      | 1 => simp [fv, e]
      | r + 2 => rfl
/-! The words that any method may ask for, and the links to private members of nest mates. -/
def lw_good : List Cond := lw_tbl.filter goodWord
def isNest : Cond → Bool
  | .fieldLinkNest .. => true
  | .methodLinkNest .. => true
  | _ => false
def lw_nest : List Cond := tables_1.filter isNest
theorem good_mem {w : Cond} (h : w ∈ lw_tbl) (hg : goodWord w = true) : w ∈ lw_good := List.mem_filter.mpr ⟨h, hg⟩
theorem nest_mem {w : Cond} (h : w ∈ tables_1) (hg : isNest w = true) : w ∈ lw_nest := List.mem_filter.mpr ⟨h, hg⟩
theorem tbl_mem {w : Cond} (h : w ∈ tables_1) : w ∈ lw_tbl := List.mem_append_right _ h
theorem good_in {big : List Cond} (hb : ∀ w ∈ lw_good, w ∈ big) : GoodIn big lw_good := fun w hw => ⟨hb w hw, good_of_word (List.mem_filter.mp hw).2⟩
def Nws (U : State) : Prop := ∀ w ∈ lw_nest, va_Nw w U
theorem nest_on {w : Cond} (h : isNest w = true) : w.onTables = true := by
  cases w <;> first | rfl | cases h
theorem Nws.same {u U : State} (h : u.vm = U.vm) (hN : Nws u) : Nws U := fun w hw => va_Nw.same (nest_on (List.mem_filter.mp hw).2) h (hN w hw)
theorem Nws.warm {s U : State} (hW : s.WarmedH U.vm) (hN : Nws s) : Nws U := by
  intro w hw
  have hn := (List.mem_filter.mp hw).2
  have h := hN w hw
  cases w with
  | fieldLinkNest a i b n d h2 => exact va_Nw.warmF hW h
  | methodLinkNest a i x h2 => exact va_Nw.warmM hW h
  | _ => cases hn
/-! The texts' cells and statics that the JDK's String reads: all ahead of the world, never written. -/
def tx0 : String := "odds    class   rest    by      off     on      shift   split   any     when    covered caught  gaps    loop    end     stop    "
def tx1 : String := " odds class rest by off on shift split any when covered caught gaps loop end stop "
def txB (t : String) : List Int32 := t.toList.map (fun c => Int32.ofNat c.toNat)
def Sts (V : Ev) (U : State) (H : Heap) : Prop := vk_R "ResidueCover$Reader" 97 tx0 (V.2.2.2 0) U ∧ vk_R "ResidueCoverModel" 170 tx1 (V.2.2.2 1) U ∧ vk_S 2 [(txB tx0).length, (txB tx1).length] [txB tx0, txB tx1] V.2.2.2 (fun i => V.2.2.2 (i + 2)) (AA V) U H ∧ va_Z "java/lang/String" "COMPACT_STRINGS" "Z" (.int 1) (AA V) U H ∧ ∃ v : Value, v.category = 1 ∧ va_Z "jdk/internal/util/Preconditions" "SIOOBE_FORMATTER" "Ljava/util/function/BiFunction;" v (AA V) U H
theorem Sts.same {V : Ev} {u U : State} {H : Heap} (h : u.vm = U.vm) (hS : Sts V u H) : Sts V U H := by
  obtain ⟨a, b, c, d, v, hv, e⟩ := hS
  have hal : u.vm.Alike U.vm := by rw [h]; exact Vm.Alike.refl _
  exact ⟨vk_R.same h.symm a, vk_R.same h.symm b, vk_S.moved hal c, va_Z.moved hal d, v, hv, va_Z.moved hal e⟩
theorem Sts.warm {V : Ev} {s U : State} {H : Heap} (hW : s.WarmedH U.vm) (hS : Sts V s H) : Sts V U H := by
  obtain ⟨a, b, c, d, v, hv, e⟩ := hS
  exact ⟨vk_R.warm hW a, vk_R.warm hW b, vk_S.moved hW.alike c, va_Z.moved hW.alike d, v, hv, va_Z.moved hW.alike e⟩
theorem Sts.kept {V : Ev} {U : State} {H H1 : Heap} (h : Sts V U H) (hq : ∀ a : Nat, a < H.size → ¬ AA V a → H1[a]? = H[a]?) : Sts V U H1 := by
  obtain ⟨a, b, c, d, v, hv, e⟩ := h
  exact ⟨a, b, c.kept hq, d.kept hq, v, hv, e.kept hq⟩
def Wk (V : Ev) (U : State) : Prop := va_K V.1 vwCl (tys V) U ∧ Nws U ∧ Sts V U U.heap
theorem Wk.call {V : Ev} {s U : State} (hW : s.WarmedH U.vm) (hq : ∀ a : Nat, a < s.heap.size → ¬ AA V a → U.heap[a]? = s.heap[a]?) (h : Wk V s) : Wk V U := ⟨va_K.moved hW.alike h.1, Nws.warm hW h.2.1, Sts.kept (Sts.warm hW h.2.2) hq⟩
/-! A method's contract: from the numbers σ it returns fin.1 and leaves the numbers fin.2; no cell is new. -/
def rm (d : Nat) : Room := { frames := d, cells := 0, slots := 0, locals := 100 * d }
def ww (M : Mi) : List Cond := .code M.1 M.2.1 M.2.2.1 M.2.2.2 :: lw_good
def Qf (V : Ev) (fin : Option Value × St) : Array Value → State → Outcome → State → Prop := fun _ st oc t => (oc = .returned fin.1 ∧ va_P V.1 vwCl (wd V fin.2) t.heap) ∧ va_F (AA V) st t
def Pf (V : Ev) (av : List Value) (σ : St) : Array Value → State → Prop := fun v U => v = av.toArray ∧ va_P V.1 vwCl (wd V σ) U.heap ∧ Wk V U
def Rs (V : Ev) (d : Nat) (M : Mi) (av : List Value) (σ : St) (fin : Option Value × St) : Prop := ∀ l : Launch, Met l M.1 (ww M) (rm d) (Pf V av σ) (Qf V fin) 0 0 (AA V)
def Cx (V : Ev) (Γ : Cn) (M : Mi) : Prop := Γ.1.tables.exec = Jvm.exec ∧ Γ.2.2.2.2.2.2.2.2.code = M.2.1 ∧ Γ.2.2.2.2.2.2.2.2.maxLocals = M.2.2.1 ∧ Γ.2.2.2.1.vm.findClass M.1.cls = some Γ.2.2.2.2.1.cls ∧ (∀ w ∈ lw_good, w.before Γ.2.2.2.2.2.1 Γ.2.2.2.1 = true) ∧ Γ.2.2.2.2.2.2.2.1.sig.returnType = M.2.2.2 ∧ Γ.2.2.2.2.2.2.2.1.locks = false ∧ Wk V Γ.2.2.2.1
abbrev Zt : Type := Room × Nat × Nat × (State → Prop)
def Zm (V : Ev) (Γ : Cn) (d : Nat) (fin : Option Value × St) : Zt := (rm d, 0, 0, MQ Γ.2.2.2.2.2.2.1 (Qf V fin) Γ.2.2.2.2.2.1 Γ.2.2.2.1 0 0 (AA V))
/-- from pc, with these locals, this stack, these numbers, the machine comes to Z's end -/
def Go (V : Ev) (Γ : Cn) (M : Mi) (Z : Zt) (pc : Nat) (lv : List (Nat × Value)) (st : List Value) (σ : St) : Prop :=
  ∀ (H : Heap) (locs : List Loc) (ls : Array Slot), va_P V.1 vwCl (wd V σ) H → va_S (AA V) Γ.2.2.2.1.heap H locs → lv_has ls M.2.2.1 lv →
    W Γ.1 Γ.2.1 Γ.2.2.1 Z.1 Γ.2.2.2.1 Γ.2.2.2.2.1 Γ.2.2.2.2.2.1 Γ.2.2.2.2.2.2.1 Γ.2.2.2.2.2.2.2.1 Γ.2.2.2.2.2.2.2.2 H locs Z.2.1 Z.2.2.1 Z.2.2.2 (F0 Γ.2.2.2.2.1 pc ls st)
theorem Rs.of {V : Ev} {d : Nat} {M : Mi} {av : List Value} {σ : St} {fin : Option Value × St} (hy : plainName M.1.cls = true) (hn : (lg_sl av).length ≤ M.2.2.1) (body : ∀ Γ : Cn, Cx V Γ M → Go V Γ M (Zm V Γ d fin) 0 (lv_args 0 av) [] σ) : Rs V d M av σ fin := by
  intro l
  refine Met.ofW (cc := M.2.1) (maxL := M.2.2.1) (ret := M.2.2.2) hy rfl ?_
  intro p e s m args below meth c s₁ B hml hv
  obtain ⟨rfl, hP, hW⟩ := hv
  have hts := atoms_spec (ws := ww M) B.pre
  have hown : s.vm.findClass M.1.cls = some m.cls := findClass_of_methodNamed B.named
  have key := body (p, l, e, s, m, av.toArray, below, meth, c) ⟨B.exec, B.bytes, hml, hown, fun w hw => hts w (List.mem_cons_of_mem _ hw), B.returns, B.notSynchronized, hW⟩
  rw [lg_entry_eq]
  exact key s.heap [] _ hP va_S.rf (lv_entry av hn)
section GO
variable {V : Ev} {Γ : Cn} {M : Mi} {Z : Zt} {pc : Nat} {lv : List (Nat × Value)} {st : List Value} {σ : St}
theorem g_sub {lv2 : List (Nat × Value)} (ks : List Nat) (h : lv_pick lv ks = lv2) (kk : Go V Γ M Z pc lv2 st σ) : Go V Γ M Z pc lv st σ :=
  fun H locs ls hP hS hl => kk H locs ls hP hS (lv_sub hl ks h)
theorem g_nmI {v e : Int32} (h : v = e) (kk : Go V Γ M Z pc lv (.int v :: st) σ) : Go V Γ M Z pc lv (.int e :: st) σ := h ▸ kk
theorem g_nmL {v e : Int64} (h : v = e) (kk : Go V Γ M Z pc lv (.long v :: st) σ) : Go V Γ M Z pc lv (.long e :: st) σ := h ▸ kk
theorem g_nmS {v e : St} (h : v = e) (kk : Go V Γ M Z pc lv st v) : Go V Γ M Z pc lv st e := h ▸ kk
theorem g_iconst {n : Int} {v : Int32} (X : Cx V Γ M) (hv : Int32.ofInt n = v) (hd : decode M.2.1 pc = .ok (.iconst n, 1)) (kk : Go V Γ M Z (pc + 1) lv (.int v :: st) σ) : Go V Γ M Z pc lv (st) σ := by
  intro H locs ls hP hS hl
  obtain ⟨hx, hb, hml, hown, hts, hrr, hlk, hWk⟩ := X
  exact lv_iconst hx hb hd hv (kk H locs ls hP hS hl)
theorem g_bipush {n : Int} {v : Int32} (X : Cx V Γ M) (hv : (Int8.ofInt n).toInt32 = v) (hd : decode M.2.1 pc = .ok (.bipush n, 2)) (kk : Go V Γ M Z (pc + 2) lv (.int v :: st) σ) : Go V Γ M Z pc lv (st) σ := by
  intro H locs ls hP hS hl
  obtain ⟨hx, hb, hml, hown, hts, hrr, hlk, hWk⟩ := X
  exact lv_bipush hx hb hd hv (kk H locs ls hP hS hl)
theorem g_sipush {n : Int} {v : Int32} (X : Cx V Γ M) (hv : (Int16.ofInt n).toInt32 = v) (hd : decode M.2.1 pc = .ok (.sipush n, 3)) (kk : Go V Γ M Z (pc + 3) lv (.int v :: st) σ) : Go V Γ M Z pc lv (st) σ := by
  intro H locs ls hP hS hl
  obtain ⟨hx, hb, hml, hown, hts, hrr, hlk, hWk⟩ := X
  exact lv_sipush hx hb hd hv (kk H locs ls hP hS hl)
theorem g_lconst {n : Fin 2} {v : Int64} (X : Cx V Γ M) (hv : Int64.ofNat (n : Nat) = v) (hd : decode M.2.1 pc = .ok (.lconst n, 1)) (kk : Go V Γ M Z (pc + 1) lv (.long v :: st) σ) : Go V Γ M Z pc lv (st) σ := by
  intro H locs ls hP hS hl
  obtain ⟨hx, hb, hml, hown, hts, hrr, hlk, hWk⟩ := X
  exact lv_lconst hx hb hd hv (kk H locs ls hP hS hl)
theorem g_ldc {index : Nat} {v : Int32} (X : Cx V Γ M) (hw : Cond.constant M.1.cls index v ∈ lw_good) (hd : decode M.2.1 pc = .ok (.ldc index, 2)) (kk : Go V Γ M Z (pc + 2) lv (.int v :: st) σ) : Go V Γ M Z pc lv (st) σ := by
  intro H locs ls hP hS hl
  obtain ⟨hx, hb, hml, hown, hts, hrr, hlk, hWk⟩ := X
  exact lv_ldc hx hb hown (hts _ hw) hd (kk H locs ls hP hS hl)
theorem g_ldcw {index : Nat} {v : Int32} (X : Cx V Γ M) (hw : Cond.constant M.1.cls index v ∈ lw_good) (hd : decode M.2.1 pc = .ok (.ldc_w index, 3)) (kk : Go V Γ M Z (pc + 3) lv (.int v :: st) σ) : Go V Γ M Z pc lv (st) σ := by
  intro H locs ls hP hS hl
  obtain ⟨hx, hb, hml, hown, hts, hrr, hlk, hWk⟩ := X
  exact lv_ldcw hx hb hown (hts _ hw) hd (kk H locs ls hP hS hl)
theorem g_ldc2 {index : Nat} {v : Int64} (X : Cx V Γ M) (hw : Cond.constantLong M.1.cls index v ∈ lw_good) (hd : decode M.2.1 pc = .ok (.ldc2_w index, 3)) (kk : Go V Γ M Z (pc + 3) lv (.long v :: st) σ) : Go V Γ M Z pc lv (st) σ := by
  intro H locs ls hP hS hl
  obtain ⟨hx, hb, hml, hown, hts, hrr, hlk, hWk⟩ := X
  exact lv_ldc2 hx hb hown (hts _ hw) hd (kk H locs ls hP hS hl)
theorem g_iload_n {k : Fin 4} {x : Int32} (X : Cx V Γ M) (q : Nat) (hq : lv[q]? = some ((k : Nat), .int x)) (hd : decode M.2.1 pc = .ok (.iload_n k, 1)) (kk : Go V Γ M Z (pc + 1) lv (.int x :: st) σ) : Go V Γ M Z pc lv (st) σ := by
  intro H locs ls hP hS hl
  obtain ⟨hx, hb, hml, hown, hts, hrr, hlk, hWk⟩ := X
  exact lv_iload_n hx hb hd rfl (lv_at hl q hq) (kk H locs ls hP hS hl)
theorem g_iload {i : Nat} {x : Int32} (X : Cx V Γ M) (q : Nat) (hq : lv[q]? = some (i, .int x)) (hd : decode M.2.1 pc = .ok (.iload i, 2)) (kk : Go V Γ M Z (pc + 2) lv (.int x :: st) σ) : Go V Γ M Z pc lv (st) σ := by
  intro H locs ls hP hS hl
  obtain ⟨hx, hb, hml, hown, hts, hrr, hlk, hWk⟩ := X
  exact lv_iload hx hb hd (lv_at hl q hq) (kk H locs ls hP hS hl)
theorem g_lload_n {k : Fin 4} {x : Int64} (X : Cx V Γ M) (q : Nat) (hq : lv[q]? = some ((k : Nat), .long x)) (hd : decode M.2.1 pc = .ok (.lload_n k, 1)) (kk : Go V Γ M Z (pc + 1) lv (.long x :: st) σ) : Go V Γ M Z pc lv (st) σ := by
  intro H locs ls hP hS hl
  obtain ⟨hx, hb, hml, hown, hts, hrr, hlk, hWk⟩ := X
  exact lv_lload_n hx hb hd rfl (lv_at hl q hq) (kk H locs ls hP hS hl)
theorem g_lload {i : Nat} {x : Int64} (X : Cx V Γ M) (q : Nat) (hq : lv[q]? = some (i, .long x)) (hd : decode M.2.1 pc = .ok (.lload i, 2)) (kk : Go V Γ M Z (pc + 2) lv (.long x :: st) σ) : Go V Γ M Z pc lv (st) σ := by
  intro H locs ls hP hS hl
  obtain ⟨hx, hb, hml, hown, hts, hrr, hlk, hWk⟩ := X
  exact lv_lload hx hb hd (lv_at hl q hq) (kk H locs ls hP hS hl)
theorem g_aload_n {k : Fin 4} {x : Nat} (X : Cx V Γ M) (q : Nat) (hq : lv[q]? = some ((k : Nat), .ref x)) (hd : decode M.2.1 pc = .ok (.aload_n k, 1)) (kk : Go V Γ M Z (pc + 1) lv (.ref x :: st) σ) : Go V Γ M Z pc lv (st) σ := by
  intro H locs ls hP hS hl
  obtain ⟨hx, hb, hml, hown, hts, hrr, hlk, hWk⟩ := X
  exact lv_aload_n hx hb hd rfl (lv_at hl q hq) (kk H locs ls hP hS hl)
theorem g_aload {i : Nat} {x : Nat} (X : Cx V Γ M) (q : Nat) (hq : lv[q]? = some (i, .ref x)) (hd : decode M.2.1 pc = .ok (.aload i, 2)) (kk : Go V Γ M Z (pc + 2) lv (.ref x :: st) σ) : Go V Γ M Z pc lv (st) σ := by
  intro H locs ls hP hS hl
  obtain ⟨hx, hb, hml, hown, hts, hrr, hlk, hWk⟩ := X
  exact lv_aload hx hb hd (lv_at hl q hq) (kk H locs ls hP hS hl)
theorem g_istore_n {k : Fin 4} {i : Nat} {x : Int32} (X : Cx V Γ M) (lv' : List (Nat × Value)) (hi : (k : Nat) = i) (hn : i < M.2.2.1) (hl' : (i, Value.int x) :: lv.filter (fun q => !(q.1 == i) && !(q.1 + 1 == i && q.2.category == 2)) = lv') (hd : decode M.2.1 pc = .ok (.istore_n k, 1)) (kk : Go V Γ M Z (pc + 1) lv' st σ) : Go V Γ M Z pc lv (.int x :: st) σ := by
  intro H locs ls hP hS hl
  obtain ⟨hx, hb, hml, hown, hts, hrr, hlk, hWk⟩ := X
  exact lv_istore_n hx hb hd hi hl hn hl' (fun ls2 hl2 => kk H locs ls2 hP hS hl2)
theorem g_istore {i : Nat} {x : Int32} (X : Cx V Γ M) (lv' : List (Nat × Value)) (hn : i < M.2.2.1) (hl' : (i, Value.int x) :: lv.filter (fun q => !(q.1 == i) && !(q.1 + 1 == i && q.2.category == 2)) = lv') (hd : decode M.2.1 pc = .ok (.istore i, 2)) (kk : Go V Γ M Z (pc + 2) lv' st σ) : Go V Γ M Z pc lv (.int x :: st) σ := by
  intro H locs ls hP hS hl
  obtain ⟨hx, hb, hml, hown, hts, hrr, hlk, hWk⟩ := X
  exact lv_istore hx hb hd hl hn hl' (fun ls2 hl2 => kk H locs ls2 hP hS hl2)
theorem g_lstore_n {k : Fin 4} {i : Nat} {x : Int64} (X : Cx V Γ M) (lv' : List (Nat × Value)) (hi : (k : Nat) = i) (hn : i + 1 < M.2.2.1) (hl' : (i, Value.long x) :: lv.filter (fun q => !(q.1 == i) && (!(q.1 == i + 1) && !(q.1 + 1 == i && q.2.category == 2))) = lv') (hd : decode M.2.1 pc = .ok (.lstore_n k, 1)) (kk : Go V Γ M Z (pc + 1) lv' st σ) : Go V Γ M Z pc lv (.long x :: st) σ := by
  intro H locs ls hP hS hl
  obtain ⟨hx, hb, hml, hown, hts, hrr, hlk, hWk⟩ := X
  exact lv_lstore_n hx hb hd hi hl hn hl' (fun ls2 hl2 => kk H locs ls2 hP hS hl2)
theorem g_lstore {i : Nat} {x : Int64} (X : Cx V Γ M) (lv' : List (Nat × Value)) (hn : i + 1 < M.2.2.1) (hl' : (i, Value.long x) :: lv.filter (fun q => !(q.1 == i) && (!(q.1 == i + 1) && !(q.1 + 1 == i && q.2.category == 2))) = lv') (hd : decode M.2.1 pc = .ok (.lstore i, 2)) (kk : Go V Γ M Z (pc + 2) lv' st σ) : Go V Γ M Z pc lv (.long x :: st) σ := by
  intro H locs ls hP hS hl
  obtain ⟨hx, hb, hml, hown, hts, hrr, hlk, hWk⟩ := X
  exact lv_lstore hx hb hd hl hn hl' (fun ls2 hl2 => kk H locs ls2 hP hS hl2)
theorem g_astore_n {k : Fin 4} {i : Nat} {x : Nat} (X : Cx V Γ M) (lv' : List (Nat × Value)) (hi : (k : Nat) = i) (hn : i < M.2.2.1) (hl' : (i, Value.ref x) :: lv.filter (fun q => !(q.1 == i) && !(q.1 + 1 == i && q.2.category == 2)) = lv') (hd : decode M.2.1 pc = .ok (.astore_n k, 1)) (kk : Go V Γ M Z (pc + 1) lv' st σ) : Go V Γ M Z pc lv (.ref x :: st) σ := by
  intro H locs ls hP hS hl
  obtain ⟨hx, hb, hml, hown, hts, hrr, hlk, hWk⟩ := X
  exact lv_astore_n hx hb hd hi hl hn hl' (fun ls2 hl2 => kk H locs ls2 hP hS hl2)
theorem g_astore {i : Nat} {x : Nat} (X : Cx V Γ M) (lv' : List (Nat × Value)) (hn : i < M.2.2.1) (hl' : (i, Value.ref x) :: lv.filter (fun q => !(q.1 == i) && !(q.1 + 1 == i && q.2.category == 2)) = lv') (hd : decode M.2.1 pc = .ok (.astore i, 2)) (kk : Go V Γ M Z (pc + 2) lv' st σ) : Go V Γ M Z pc lv (.ref x :: st) σ := by
  intro H locs ls hP hS hl
  obtain ⟨hx, hb, hml, hown, hts, hrr, hlk, hWk⟩ := X
  exact lv_astore hx hb hd hl hn hl' (fun ls2 hl2 => kk H locs ls2 hP hS hl2)
theorem g_iinc {i : Nat} {n : Int} {x v : Int32} (X : Cx V Γ M) (lv' : List (Nat × Value)) (q : Nat) (hq : lv[q]? = some (i, .int x)) (hv : x + Int32.ofInt n = v) (hn : i < M.2.2.1) (hl' : (i, Value.int v) :: lv.filter (fun q => !(q.1 == i) && !(q.1 + 1 == i && q.2.category == 2)) = lv') (hd : decode M.2.1 pc = .ok (.iinc i n, 3)) (kk : Go V Γ M Z (pc + 3) lv' st σ) : Go V Γ M Z pc lv st σ := by
  intro H locs ls hP hS hl
  obtain ⟨hx, hb, hml, hown, hts, hrr, hlk, hWk⟩ := X
  exact lv_iinc hx hb hd hl hq hv hn hl' (fun ls2 hl2 => kk H locs ls2 hP hS hl2)
def jrem (x y : Int32) : Int32 := x - x / y * y
def jreml (x y : Int64) : Int64 := x - x / y * y
theorem g_iadd {x y : Int32} (X : Cx V Γ M) (hd : decode M.2.1 pc = .ok (.iadd, 1)) (kk : Go V Γ M Z (pc + 1) lv (.int (x + y) :: st) σ) : Go V Γ M Z pc lv (.int y :: .int x :: st) σ := by
  intro H locs ls hP hS hl
  obtain ⟨hx, hb, hml, hown, hts, hrr, hlk, hWk⟩ := X
  exact lv_iadd hx hb hd (kk H locs ls hP hS hl)
theorem g_isub {x y : Int32} (X : Cx V Γ M) (hd : decode M.2.1 pc = .ok (.isub, 1)) (kk : Go V Γ M Z (pc + 1) lv (.int (x - y) :: st) σ) : Go V Γ M Z pc lv (.int y :: .int x :: st) σ := by
  intro H locs ls hP hS hl
  obtain ⟨hx, hb, hml, hown, hts, hrr, hlk, hWk⟩ := X
  exact lv_isub hx hb hd (kk H locs ls hP hS hl)
theorem g_imul {x y : Int32} (X : Cx V Γ M) (hd : decode M.2.1 pc = .ok (.imul, 1)) (kk : Go V Γ M Z (pc + 1) lv (.int (x * y) :: st) σ) : Go V Γ M Z pc lv (.int y :: .int x :: st) σ := by
  intro H locs ls hP hS hl
  obtain ⟨hx, hb, hml, hown, hts, hrr, hlk, hWk⟩ := X
  exact lv_imul hx hb hd (kk H locs ls hP hS hl)
theorem g_iand {x y : Int32} (X : Cx V Γ M) (hd : decode M.2.1 pc = .ok (.iand, 1)) (kk : Go V Γ M Z (pc + 1) lv (.int (x &&& y) :: st) σ) : Go V Γ M Z pc lv (.int y :: .int x :: st) σ := by
  intro H locs ls hP hS hl
  obtain ⟨hx, hb, hml, hown, hts, hrr, hlk, hWk⟩ := X
  exact lv_iand hx hb hd (kk H locs ls hP hS hl)
theorem g_ior {x y : Int32} (X : Cx V Γ M) (hd : decode M.2.1 pc = .ok (.ior, 1)) (kk : Go V Γ M Z (pc + 1) lv (.int (x ||| y) :: st) σ) : Go V Γ M Z pc lv (.int y :: .int x :: st) σ := by
  intro H locs ls hP hS hl
  obtain ⟨hx, hb, hml, hown, hts, hrr, hlk, hWk⟩ := X
  exact lv_ior hx hb hd (kk H locs ls hP hS hl)
theorem g_ixor {x y : Int32} (X : Cx V Γ M) (hd : decode M.2.1 pc = .ok (.ixor, 1)) (kk : Go V Γ M Z (pc + 1) lv (.int (x ^^^ y) :: st) σ) : Go V Γ M Z pc lv (.int y :: .int x :: st) σ := by
  intro H locs ls hP hS hl
  obtain ⟨hx, hb, hml, hown, hts, hrr, hlk, hWk⟩ := X
  exact lv_ixor hx hb hd (kk H locs ls hP hS hl)
theorem g_ishl {x y : Int32} (X : Cx V Γ M) (hd : decode M.2.1 pc = .ok (.ishl, 1)) (kk : Go V Γ M Z (pc + 1) lv (.int (x <<< (y &&& 31)) :: st) σ) : Go V Γ M Z pc lv (.int y :: .int x :: st) σ := by
  intro H locs ls hP hS hl
  obtain ⟨hx, hb, hml, hown, hts, hrr, hlk, hWk⟩ := X
  exact lv_ishl hx hb hd (kk H locs ls hP hS hl)
theorem g_ishr {x y : Int32} (X : Cx V Γ M) (hd : decode M.2.1 pc = .ok (.ishr, 1)) (kk : Go V Γ M Z (pc + 1) lv (.int (x >>> (y &&& 31)) :: st) σ) : Go V Γ M Z pc lv (.int y :: .int x :: st) σ := by
  intro H locs ls hP hS hl
  obtain ⟨hx, hb, hml, hown, hts, hrr, hlk, hWk⟩ := X
  exact lv_ishr hx hb hd (kk H locs ls hP hS hl)
theorem g_iushr {x y : Int32} (X : Cx V Γ M) (hd : decode M.2.1 pc = .ok (.iushr, 1)) (kk : Go V Γ M Z (pc + 1) lv (.int ((x.toUInt32 >>> (y.toUInt32 &&& Int32.toUInt32 31)).toInt32) :: st) σ) : Go V Γ M Z pc lv (.int y :: .int x :: st) σ := by
  intro H locs ls hP hS hl
  obtain ⟨hx, hb, hml, hown, hts, hrr, hlk, hWk⟩ := X
  exact lv_iushr hx hb hd rfl (kk H locs ls hP hS hl)
theorem g_ladd {x y : Int64} (X : Cx V Γ M) (hd : decode M.2.1 pc = .ok (.ladd, 1)) (kk : Go V Γ M Z (pc + 1) lv (.long (x + y) :: st) σ) : Go V Γ M Z pc lv (.long y :: .long x :: st) σ := by
  intro H locs ls hP hS hl
  obtain ⟨hx, hb, hml, hown, hts, hrr, hlk, hWk⟩ := X
  exact lv_ladd hx hb hd (kk H locs ls hP hS hl)
theorem g_lsub {x y : Int64} (X : Cx V Γ M) (hd : decode M.2.1 pc = .ok (.lsub, 1)) (kk : Go V Γ M Z (pc + 1) lv (.long (x - y) :: st) σ) : Go V Γ M Z pc lv (.long y :: .long x :: st) σ := by
  intro H locs ls hP hS hl
  obtain ⟨hx, hb, hml, hown, hts, hrr, hlk, hWk⟩ := X
  exact lv_lsub hx hb hd (kk H locs ls hP hS hl)
theorem g_lmul {x y : Int64} (X : Cx V Γ M) (hd : decode M.2.1 pc = .ok (.lmul, 1)) (kk : Go V Γ M Z (pc + 1) lv (.long (x * y) :: st) σ) : Go V Γ M Z pc lv (.long y :: .long x :: st) σ := by
  intro H locs ls hP hS hl
  obtain ⟨hx, hb, hml, hown, hts, hrr, hlk, hWk⟩ := X
  exact lv_lmul hx hb hd (kk H locs ls hP hS hl)
theorem g_land {x y : Int64} (X : Cx V Γ M) (hd : decode M.2.1 pc = .ok (.land, 1)) (kk : Go V Γ M Z (pc + 1) lv (.long (x &&& y) :: st) σ) : Go V Γ M Z pc lv (.long y :: .long x :: st) σ := by
  intro H locs ls hP hS hl
  obtain ⟨hx, hb, hml, hown, hts, hrr, hlk, hWk⟩ := X
  exact lv_land hx hb hd (kk H locs ls hP hS hl)
theorem g_lor {x y : Int64} (X : Cx V Γ M) (hd : decode M.2.1 pc = .ok (.lor, 1)) (kk : Go V Γ M Z (pc + 1) lv (.long (x ||| y) :: st) σ) : Go V Γ M Z pc lv (.long y :: .long x :: st) σ := by
  intro H locs ls hP hS hl
  obtain ⟨hx, hb, hml, hown, hts, hrr, hlk, hWk⟩ := X
  exact lv_lor hx hb hd (kk H locs ls hP hS hl)
theorem g_lxor {x y : Int64} (X : Cx V Γ M) (hd : decode M.2.1 pc = .ok (.lxor, 1)) (kk : Go V Γ M Z (pc + 1) lv (.long (x ^^^ y) :: st) σ) : Go V Γ M Z pc lv (.long y :: .long x :: st) σ := by
  intro H locs ls hP hS hl
  obtain ⟨hx, hb, hml, hown, hts, hrr, hlk, hWk⟩ := X
  exact lv_lxor hx hb hd (kk H locs ls hP hS hl)
theorem g_lshl {x : Int64} {y : Int32} (X : Cx V Γ M) (hd : decode M.2.1 pc = .ok (.lshl, 1)) (kk : Go V Γ M Z (pc + 1) lv (.long (x <<< (y.toInt64 &&& 63)) :: st) σ) : Go V Γ M Z pc lv (.int y :: .long x :: st) σ := by
  intro H locs ls hP hS hl
  obtain ⟨hx, hb, hml, hown, hts, hrr, hlk, hWk⟩ := X
  exact lv_lshl hx hb hd rfl (kk H locs ls hP hS hl)
theorem g_lshr {x : Int64} {y : Int32} (X : Cx V Γ M) (hd : decode M.2.1 pc = .ok (.lshr, 1)) (kk : Go V Γ M Z (pc + 1) lv (.long (x >>> (y.toInt64 &&& 63)) :: st) σ) : Go V Γ M Z pc lv (.int y :: .long x :: st) σ := by
  intro H locs ls hP hS hl
  obtain ⟨hx, hb, hml, hown, hts, hrr, hlk, hWk⟩ := X
  exact lv_lshr hx hb hd rfl (kk H locs ls hP hS hl)
theorem g_lushr {x : Int64} {y : Int32} (X : Cx V Γ M) (hd : decode M.2.1 pc = .ok (.lushr, 1)) (kk : Go V Γ M Z (pc + 1) lv (.long ((x.toUInt64 >>> (y.toInt64.toUInt64 &&& Int64.toUInt64 63)).toInt64) :: st) σ) : Go V Γ M Z pc lv (.int y :: .long x :: st) σ := by
  intro H locs ls hP hS hl
  obtain ⟨hx, hb, hml, hown, hts, hrr, hlk, hWk⟩ := X
  exact lv_lushr hx hb hd rfl (kk H locs ls hP hS hl)
theorem g_idiv {x y : Int32} (X : Cx V Γ M) (hne : ¬ y = 0) (hd : decode M.2.1 pc = .ok (.idiv, 1)) (kk : Go V Γ M Z (pc + 1) lv (.int (x / y) :: st) σ) : Go V Γ M Z pc lv (.int y :: .int x :: st) σ := by
  intro H locs ls hP hS hl
  obtain ⟨hx, hb, hml, hown, hts, hrr, hlk, hWk⟩ := X
  exact lv_idiv hx hb hd hne (kk H locs ls hP hS hl)
theorem g_irem {x y : Int32} (X : Cx V Γ M) (hne : ¬ y = 0) (hd : decode M.2.1 pc = .ok (.irem, 1)) (kk : Go V Γ M Z (pc + 1) lv (.int (jrem x y) :: st) σ) : Go V Γ M Z pc lv (.int y :: .int x :: st) σ := by
  intro H locs ls hP hS hl
  obtain ⟨hx, hb, hml, hown, hts, hrr, hlk, hWk⟩ := X
  exact lv_irem hx hb hd hne (kk H locs ls hP hS hl)
theorem g_ldiv {x y : Int64} (X : Cx V Γ M) (hne : ¬ y = 0) (hd : decode M.2.1 pc = .ok (.ldiv, 1)) (kk : Go V Γ M Z (pc + 1) lv (.long (x / y) :: st) σ) : Go V Γ M Z pc lv (.long y :: .long x :: st) σ := by
  intro H locs ls hP hS hl
  obtain ⟨hx, hb, hml, hown, hts, hrr, hlk, hWk⟩ := X
  exact lv_ldiv hx hb hd hne (kk H locs ls hP hS hl)
theorem g_lrem {x y : Int64} (X : Cx V Γ M) (hne : ¬ y = 0) (hd : decode M.2.1 pc = .ok (.lrem, 1)) (kk : Go V Γ M Z (pc + 1) lv (.long (jreml x y) :: st) σ) : Go V Γ M Z pc lv (.long y :: .long x :: st) σ := by
  intro H locs ls hP hS hl
  obtain ⟨hx, hb, hml, hown, hts, hrr, hlk, hWk⟩ := X
  exact lv_lrem hx hb hd hne (kk H locs ls hP hS hl)
theorem g_ineg {x : Int32} (X : Cx V Γ M) (hd : decode M.2.1 pc = .ok (.ineg, 1)) (kk : Go V Γ M Z (pc + 1) lv (.int (-x) :: st) σ) : Go V Γ M Z pc lv (.int x :: st) σ := by
  intro H locs ls hP hS hl
  obtain ⟨hx, hb, hml, hown, hts, hrr, hlk, hWk⟩ := X
  exact lv_ineg hx hb hd (kk H locs ls hP hS hl)
theorem g_lneg {x : Int64} (X : Cx V Γ M) (hd : decode M.2.1 pc = .ok (.lneg, 1)) (kk : Go V Γ M Z (pc + 1) lv (.long (-x) :: st) σ) : Go V Γ M Z pc lv (.long x :: st) σ := by
  intro H locs ls hP hS hl
  obtain ⟨hx, hb, hml, hown, hts, hrr, hlk, hWk⟩ := X
  exact lv_lneg hx hb hd (kk H locs ls hP hS hl)
theorem g_i2l {x : Int32} (X : Cx V Γ M) (hd : decode M.2.1 pc = .ok (.i2l, 1)) (kk : Go V Γ M Z (pc + 1) lv (.long x.toInt64 :: st) σ) : Go V Γ M Z pc lv (.int x :: st) σ := by
  intro H locs ls hP hS hl
  obtain ⟨hx, hb, hml, hown, hts, hrr, hlk, hWk⟩ := X
  exact lv_i2l hx hb hd rfl (kk H locs ls hP hS hl)
theorem g_l2i {x : Int64} (X : Cx V Γ M) (hd : decode M.2.1 pc = .ok (.l2i, 1)) (kk : Go V Γ M Z (pc + 1) lv (.int x.toInt32 :: st) σ) : Go V Γ M Z pc lv (.long x :: st) σ := by
  intro H locs ls hP hS hl
  obtain ⟨hx, hb, hml, hown, hts, hrr, hlk, hWk⟩ := X
  exact lv_l2i hx hb hd rfl (kk H locs ls hP hS hl)
theorem g_i2b {x : Int32} (X : Cx V Γ M) (hd : decode M.2.1 pc = .ok (.i2b, 1)) (kk : Go V Γ M Z (pc + 1) lv (.int x.toInt8.toInt32 :: st) σ) : Go V Γ M Z pc lv (.int x :: st) σ := by
  intro H locs ls hP hS hl
  obtain ⟨hx, hb, hml, hown, hts, hrr, hlk, hWk⟩ := X
  exact lv_i2b hx hb hd rfl (kk H locs ls hP hS hl)
theorem g_i2s {x : Int32} (X : Cx V Γ M) (hd : decode M.2.1 pc = .ok (.i2s, 1)) (kk : Go V Γ M Z (pc + 1) lv (.int x.toInt16.toInt32 :: st) σ) : Go V Γ M Z pc lv (.int x :: st) σ := by
  intro H locs ls hP hS hl
  obtain ⟨hx, hb, hml, hown, hts, hrr, hlk, hWk⟩ := X
  exact lv_i2s hx hb hd rfl (kk H locs ls hP hS hl)
theorem g_i2c {x : Int32} (X : Cx V Γ M) (hd : decode M.2.1 pc = .ok (.i2c, 1)) (kk : Go V Γ M Z (pc + 1) lv (.int (x.toUInt32 % 65536).toInt32 :: st) σ) : Go V Γ M Z pc lv (.int x :: st) σ := by
  intro H locs ls hP hS hl
  obtain ⟨hx, hb, hml, hown, hts, hrr, hlk, hWk⟩ := X
  exact lv_i2c hx hb hd rfl (kk H locs ls hP hS hl)
theorem g_dup {a : Value} (X : Cx V Γ M) (hc : a.category = 1) (hd : decode M.2.1 pc = .ok (.dup, 1)) (kk : Go V Γ M Z (pc + 1) lv (a :: a :: st) σ) : Go V Γ M Z pc lv (a :: st) σ := by
  intro H locs ls hP hS hl
  obtain ⟨hx, hb, hml, hown, hts, hrr, hlk, hWk⟩ := X
  exact lv_dup hx hb hd hc (kk H locs ls hP hS hl)
theorem g_pop {a : Value} (X : Cx V Γ M) (hc : a.category = 1) (hd : decode M.2.1 pc = .ok (.pop, 1)) (kk : Go V Γ M Z (pc + 1) lv (st) σ) : Go V Γ M Z pc lv (a :: st) σ := by
  intro H locs ls hP hS hl
  obtain ⟨hx, hb, hml, hown, hts, hrr, hlk, hWk⟩ := X
  exact lv_pop hx hb hd hc (kk H locs ls hP hS hl)
theorem g_dup2 {a b : Value} (X : Cx V Γ M) (hc : a.category = 1) (hc2 : b.category = 1) (hd : decode M.2.1 pc = .ok (.dup2, 1)) (kk : Go V Γ M Z (pc + 1) lv (a :: b :: a :: b :: st) σ) : Go V Γ M Z pc lv (a :: b :: st) σ := by
  intro H locs ls hP hS hl
  obtain ⟨hx, hb, hml, hown, hts, hrr, hlk, hWk⟩ := X
  exact lv_dup2_11 hx hb hd hc hc2 (kk H locs ls hP hS hl)
theorem g_goto {off : Int} {tgt : Nat} (X : Cx V Γ M) (hd : decode M.2.1 pc = .ok (.goto off, 3)) (ht : (pc : Int) + off = (tgt : Int)) (kk : Go V Γ M Z tgt lv st σ) : Go V Γ M Z pc lv st σ := by
  intro H locs ls hP hS hl
  obtain ⟨hx, hb, hml, hown, hts, hrr, hlk, hWk⟩ := X
  exact lv_goto hx hb hd ht (kk H locs ls hP hS hl)
theorem g_if_eq {x : Int32} {off : Int} {tgt : Nat} (X : Cx V Γ M) (hd : decode M.2.1 pc = .ok (.ifCond .eq off, 3)) (ht : (pc : Int) + off = (tgt : Int)) (kt : x = 0 → Go V Γ M Z tgt lv st σ) (kf : ¬ x = 0 → Go V Γ M Z (pc + 3) lv st σ) : Go V Γ M Z pc lv (.int x :: st) σ := by
  intro H locs ls hP hS hl
  obtain ⟨hx, hb, hml, hown, hts, hrr, hlk, hWk⟩ := X
  exact lv_if_eq hx hb hd ht (fun h => kt h H locs ls hP hS hl) (fun h => kf h H locs ls hP hS hl)
theorem g_icmp_eq {x y : Int32} {off : Int} {tgt : Nat} (X : Cx V Γ M) (hd : decode M.2.1 pc = .ok (.if_icmp .eq off, 3)) (ht : (pc : Int) + off = (tgt : Int)) (kt : x = y → Go V Γ M Z tgt lv st σ) (kf : ¬ x = y → Go V Γ M Z (pc + 3) lv st σ) : Go V Γ M Z pc lv (.int y :: .int x :: st) σ := by
  intro H locs ls hP hS hl
  obtain ⟨hx, hb, hml, hown, hts, hrr, hlk, hWk⟩ := X
  exact lv_icmp_eq hx hb hd ht (fun h => kt h H locs ls hP hS hl) (fun h => kf h H locs ls hP hS hl)
theorem g_if_ne {x : Int32} {off : Int} {tgt : Nat} (X : Cx V Γ M) (hd : decode M.2.1 pc = .ok (.ifCond .ne off, 3)) (ht : (pc : Int) + off = (tgt : Int)) (kt : ¬ x = 0 → Go V Γ M Z tgt lv st σ) (kf : x = 0 → Go V Γ M Z (pc + 3) lv st σ) : Go V Γ M Z pc lv (.int x :: st) σ := by
  intro H locs ls hP hS hl
  obtain ⟨hx, hb, hml, hown, hts, hrr, hlk, hWk⟩ := X
  exact lv_if_ne hx hb hd ht (fun h => kt h H locs ls hP hS hl) (fun h => kf h H locs ls hP hS hl)
theorem g_icmp_ne {x y : Int32} {off : Int} {tgt : Nat} (X : Cx V Γ M) (hd : decode M.2.1 pc = .ok (.if_icmp .ne off, 3)) (ht : (pc : Int) + off = (tgt : Int)) (kt : ¬ x = y → Go V Γ M Z tgt lv st σ) (kf : x = y → Go V Γ M Z (pc + 3) lv st σ) : Go V Γ M Z pc lv (.int y :: .int x :: st) σ := by
  intro H locs ls hP hS hl
  obtain ⟨hx, hb, hml, hown, hts, hrr, hlk, hWk⟩ := X
  exact lv_icmp_ne hx hb hd ht (fun h => kt h H locs ls hP hS hl) (fun h => kf h H locs ls hP hS hl)
theorem g_if_lt {x : Int32} {off : Int} {tgt : Nat} (X : Cx V Γ M) (hd : decode M.2.1 pc = .ok (.ifCond .lt off, 3)) (ht : (pc : Int) + off = (tgt : Int)) (kt : x < 0 → Go V Γ M Z tgt lv st σ) (kf : ¬ x < 0 → Go V Γ M Z (pc + 3) lv st σ) : Go V Γ M Z pc lv (.int x :: st) σ := by
  intro H locs ls hP hS hl
  obtain ⟨hx, hb, hml, hown, hts, hrr, hlk, hWk⟩ := X
  exact lv_if_lt hx hb hd ht (fun h => kt h H locs ls hP hS hl) (fun h => kf h H locs ls hP hS hl)
theorem g_icmp_lt {x y : Int32} {off : Int} {tgt : Nat} (X : Cx V Γ M) (hd : decode M.2.1 pc = .ok (.if_icmp .lt off, 3)) (ht : (pc : Int) + off = (tgt : Int)) (kt : x < y → Go V Γ M Z tgt lv st σ) (kf : ¬ x < y → Go V Γ M Z (pc + 3) lv st σ) : Go V Γ M Z pc lv (.int y :: .int x :: st) σ := by
  intro H locs ls hP hS hl
  obtain ⟨hx, hb, hml, hown, hts, hrr, hlk, hWk⟩ := X
  exact lv_icmp_lt hx hb hd ht (fun h => kt h H locs ls hP hS hl) (fun h => kf h H locs ls hP hS hl)
theorem g_if_ge {x : Int32} {off : Int} {tgt : Nat} (X : Cx V Γ M) (hd : decode M.2.1 pc = .ok (.ifCond .ge off, 3)) (ht : (pc : Int) + off = (tgt : Int)) (kt : 0 ≤ x → Go V Γ M Z tgt lv st σ) (kf : ¬ 0 ≤ x → Go V Γ M Z (pc + 3) lv st σ) : Go V Γ M Z pc lv (.int x :: st) σ := by
  intro H locs ls hP hS hl
  obtain ⟨hx, hb, hml, hown, hts, hrr, hlk, hWk⟩ := X
  exact lv_if_ge hx hb hd ht (fun h => kt h H locs ls hP hS hl) (fun h => kf h H locs ls hP hS hl)
theorem g_icmp_ge {x y : Int32} {off : Int} {tgt : Nat} (X : Cx V Γ M) (hd : decode M.2.1 pc = .ok (.if_icmp .ge off, 3)) (ht : (pc : Int) + off = (tgt : Int)) (kt : y ≤ x → Go V Γ M Z tgt lv st σ) (kf : ¬ y ≤ x → Go V Γ M Z (pc + 3) lv st σ) : Go V Γ M Z pc lv (.int y :: .int x :: st) σ := by
  intro H locs ls hP hS hl
  obtain ⟨hx, hb, hml, hown, hts, hrr, hlk, hWk⟩ := X
  exact lv_icmp_ge hx hb hd ht (fun h => kt h H locs ls hP hS hl) (fun h => kf h H locs ls hP hS hl)
theorem g_if_gt {x : Int32} {off : Int} {tgt : Nat} (X : Cx V Γ M) (hd : decode M.2.1 pc = .ok (.ifCond .gt off, 3)) (ht : (pc : Int) + off = (tgt : Int)) (kt : 0 < x → Go V Γ M Z tgt lv st σ) (kf : ¬ 0 < x → Go V Γ M Z (pc + 3) lv st σ) : Go V Γ M Z pc lv (.int x :: st) σ := by
  intro H locs ls hP hS hl
  obtain ⟨hx, hb, hml, hown, hts, hrr, hlk, hWk⟩ := X
  exact lv_if_gt hx hb hd ht (fun h => kt h H locs ls hP hS hl) (fun h => kf h H locs ls hP hS hl)
theorem g_icmp_gt {x y : Int32} {off : Int} {tgt : Nat} (X : Cx V Γ M) (hd : decode M.2.1 pc = .ok (.if_icmp .gt off, 3)) (ht : (pc : Int) + off = (tgt : Int)) (kt : y < x → Go V Γ M Z tgt lv st σ) (kf : ¬ y < x → Go V Γ M Z (pc + 3) lv st σ) : Go V Γ M Z pc lv (.int y :: .int x :: st) σ := by
  intro H locs ls hP hS hl
  obtain ⟨hx, hb, hml, hown, hts, hrr, hlk, hWk⟩ := X
  exact lv_icmp_gt hx hb hd ht (fun h => kt h H locs ls hP hS hl) (fun h => kf h H locs ls hP hS hl)
theorem g_if_le {x : Int32} {off : Int} {tgt : Nat} (X : Cx V Γ M) (hd : decode M.2.1 pc = .ok (.ifCond .le off, 3)) (ht : (pc : Int) + off = (tgt : Int)) (kt : x ≤ 0 → Go V Γ M Z tgt lv st σ) (kf : ¬ x ≤ 0 → Go V Γ M Z (pc + 3) lv st σ) : Go V Γ M Z pc lv (.int x :: st) σ := by
  intro H locs ls hP hS hl
  obtain ⟨hx, hb, hml, hown, hts, hrr, hlk, hWk⟩ := X
  exact lv_if_le hx hb hd ht (fun h => kt h H locs ls hP hS hl) (fun h => kf h H locs ls hP hS hl)
theorem g_icmp_le {x y : Int32} {off : Int} {tgt : Nat} (X : Cx V Γ M) (hd : decode M.2.1 pc = .ok (.if_icmp .le off, 3)) (ht : (pc : Int) + off = (tgt : Int)) (kt : x ≤ y → Go V Γ M Z tgt lv st σ) (kf : ¬ x ≤ y → Go V Γ M Z (pc + 3) lv st σ) : Go V Γ M Z pc lv (.int y :: .int x :: st) σ := by
  intro H locs ls hP hS hl
  obtain ⟨hx, hb, hml, hown, hts, hrr, hlk, hWk⟩ := X
  exact lv_icmp_le hx hb hd ht (fun h => kt h H locs ls hP hS hl) (fun h => kf h H locs ls hP hS hl)
theorem jc_ge (x y : Int64) : (0 ≤ lg_cmp x y) ↔ y ≤ x := lg_cmp_ge x y
theorem jc_lt (x y : Int64) : (lg_cmp x y < 0) ↔ x < y := by
  have h := lg_cmp_ge x y
  rw [← Int32.not_le, h, Int64.not_le]
theorem jc_gt (x y : Int64) : (0 < lg_cmp x y) ↔ y < x := by
  unfold lg_cmp
  by_cases h : x > y
  · simp only [if_pos h]; exact ⟨fun _ => h, fun _ => by decide⟩
  · by_cases e : x = y
    · subst e; simp only [if_neg h]; simp
    · simp only [if_neg h, if_neg e]; exact ⟨fun q => absurd q (by decide), fun q => absurd q h⟩
theorem jc_le (x y : Int64) : (lg_cmp x y ≤ 0) ↔ x ≤ y := by
  have h := jc_gt x y
  rw [← Int32.not_lt, h, Int64.not_lt]
theorem jc_eq (x y : Int64) : (lg_cmp x y = 0) ↔ x = y := by
  unfold lg_cmp
  by_cases h : x > y
  · have : x ≠ y := by intro e; subst e; exact absurd h (Int64.lt_irrefl)
    simp only [if_pos h]; exact ⟨fun q => absurd q (by decide), fun q => absurd q this⟩
  · by_cases e : x = y
    · subst e; simp only [if_neg h]; simp
    · simp only [if_neg h, if_neg e]; exact ⟨fun q => absurd q (by decide), fun q => absurd q e⟩
theorem g_lcmp_eq {x y : Int64} {off : Int} {tgt : Nat} (X : Cx V Γ M) (hd : decode M.2.1 pc = .ok (.lcmp, 1)) (hd2 : decode M.2.1 (pc + 1) = .ok (.ifCond .eq off, 3)) (ht : ((pc + 1 : Nat) : Int) + off = (tgt : Int)) (kt : x = y → Go V Γ M Z tgt lv st σ) (kf : ¬ x = y → Go V Γ M Z (pc + 4) lv st σ) : Go V Γ M Z pc lv (.long y :: .long x :: st) σ := by
  have key : Go V Γ M Z (pc + 1) lv (.int (lg_cmp x y) :: st) σ := g_if_eq X hd2 ht (fun h => kt ((jc_eq x y).mp h)) (fun h => kf (fun q => h ((jc_eq x y).mpr q)))
  intro H locs ls hP hS hl
  obtain ⟨hx, hb, hml, hown, hts, hrr, hlk, hWk⟩ := X
  exact W.lcmp hx hb hd (key H locs ls hP hS hl)
theorem g_lcmp_ne {x y : Int64} {off : Int} {tgt : Nat} (X : Cx V Γ M) (hd : decode M.2.1 pc = .ok (.lcmp, 1)) (hd2 : decode M.2.1 (pc + 1) = .ok (.ifCond .ne off, 3)) (ht : ((pc + 1 : Nat) : Int) + off = (tgt : Int)) (kt : ¬ x = y → Go V Γ M Z tgt lv st σ) (kf : x = y → Go V Γ M Z (pc + 4) lv st σ) : Go V Γ M Z pc lv (.long y :: .long x :: st) σ := by
  have key : Go V Γ M Z (pc + 1) lv (.int (lg_cmp x y) :: st) σ := g_if_ne X hd2 ht (fun h => kt (fun q => h ((jc_eq x y).mpr q))) (fun h => kf ((jc_eq x y).mp h))
  intro H locs ls hP hS hl
  obtain ⟨hx, hb, hml, hown, hts, hrr, hlk, hWk⟩ := X
  exact W.lcmp hx hb hd (key H locs ls hP hS hl)
theorem g_lcmp_lt {x y : Int64} {off : Int} {tgt : Nat} (X : Cx V Γ M) (hd : decode M.2.1 pc = .ok (.lcmp, 1)) (hd2 : decode M.2.1 (pc + 1) = .ok (.ifCond .lt off, 3)) (ht : ((pc + 1 : Nat) : Int) + off = (tgt : Int)) (kt : x < y → Go V Γ M Z tgt lv st σ) (kf : ¬ x < y → Go V Γ M Z (pc + 4) lv st σ) : Go V Γ M Z pc lv (.long y :: .long x :: st) σ := by
  have key : Go V Γ M Z (pc + 1) lv (.int (lg_cmp x y) :: st) σ := g_if_lt X hd2 ht (fun h => kt ((jc_lt x y).mp h)) (fun h => kf (fun q => h ((jc_lt x y).mpr q)))
  intro H locs ls hP hS hl
  obtain ⟨hx, hb, hml, hown, hts, hrr, hlk, hWk⟩ := X
  exact W.lcmp hx hb hd (key H locs ls hP hS hl)
theorem g_lcmp_ge {x y : Int64} {off : Int} {tgt : Nat} (X : Cx V Γ M) (hd : decode M.2.1 pc = .ok (.lcmp, 1)) (hd2 : decode M.2.1 (pc + 1) = .ok (.ifCond .ge off, 3)) (ht : ((pc + 1 : Nat) : Int) + off = (tgt : Int)) (kt : y ≤ x → Go V Γ M Z tgt lv st σ) (kf : ¬ y ≤ x → Go V Γ M Z (pc + 4) lv st σ) : Go V Γ M Z pc lv (.long y :: .long x :: st) σ := by
  have key : Go V Γ M Z (pc + 1) lv (.int (lg_cmp x y) :: st) σ := g_if_ge X hd2 ht (fun h => kt ((jc_ge x y).mp h)) (fun h => kf (fun q => h ((jc_ge x y).mpr q)))
  intro H locs ls hP hS hl
  obtain ⟨hx, hb, hml, hown, hts, hrr, hlk, hWk⟩ := X
  exact W.lcmp hx hb hd (key H locs ls hP hS hl)
theorem g_lcmp_gt {x y : Int64} {off : Int} {tgt : Nat} (X : Cx V Γ M) (hd : decode M.2.1 pc = .ok (.lcmp, 1)) (hd2 : decode M.2.1 (pc + 1) = .ok (.ifCond .gt off, 3)) (ht : ((pc + 1 : Nat) : Int) + off = (tgt : Int)) (kt : y < x → Go V Γ M Z tgt lv st σ) (kf : ¬ y < x → Go V Γ M Z (pc + 4) lv st σ) : Go V Γ M Z pc lv (.long y :: .long x :: st) σ := by
  have key : Go V Γ M Z (pc + 1) lv (.int (lg_cmp x y) :: st) σ := g_if_gt X hd2 ht (fun h => kt ((jc_gt x y).mp h)) (fun h => kf (fun q => h ((jc_gt x y).mpr q)))
  intro H locs ls hP hS hl
  obtain ⟨hx, hb, hml, hown, hts, hrr, hlk, hWk⟩ := X
  exact W.lcmp hx hb hd (key H locs ls hP hS hl)
theorem g_lcmp_le {x y : Int64} {off : Int} {tgt : Nat} (X : Cx V Γ M) (hd : decode M.2.1 pc = .ok (.lcmp, 1)) (hd2 : decode M.2.1 (pc + 1) = .ok (.ifCond .le off, 3)) (ht : ((pc + 1 : Nat) : Int) + off = (tgt : Int)) (kt : x ≤ y → Go V Γ M Z tgt lv st σ) (kf : ¬ x ≤ y → Go V Γ M Z (pc + 4) lv st σ) : Go V Γ M Z pc lv (.long y :: .long x :: st) σ := by
  have key : Go V Γ M Z (pc + 1) lv (.int (lg_cmp x y) :: st) σ := g_if_le X hd2 ht (fun h => kt ((jc_le x y).mp h)) (fun h => kf (fun q => h ((jc_le x y).mpr q)))
  intro H locs ls hP hS hl
  obtain ⟨hx, hb, hml, hown, hts, hrr, hlk, hWk⟩ := X
  exact W.lcmp hx hb hd (key H locs ls hP hS hl)
theorem g_tabIn {dflt lo hi : Int} {offs : Array Int} {len : Nat} {x K : Int32} {off : Int} {tgt : Nat} (X : Cx V Γ M) (e : x = K) (hd : decode M.2.1 pc = .ok (.tableswitch dflt lo hi offs, len)) (h1 : ¬ K.toInt < lo) (h2 : ¬ hi < K.toInt) (ho : offs[(K.toInt - lo).toNat]? = some off) (ht : (pc : Int) + off = (tgt : Int)) (kk : Go V Γ M Z tgt lv st σ) : Go V Γ M Z pc lv (.int x :: st) σ := by
  intro H locs ls hP hS hl
  subst e
  obtain ⟨hx, hb, hml, hown, hts, hrr, hlk, hWk⟩ := X
  exact lv_tableIn hx hb hd h1 h2 ho ht (kk H locs ls hP hS hl)
theorem g_tabOut {dflt lo hi : Int} {offs : Array Int} {len : Nat} {x : Int32} {tgt : Nat} (X : Cx V Γ M) (hd : decode M.2.1 pc = .ok (.tableswitch dflt lo hi offs, len)) (h : x.toInt < lo ∨ hi < x.toInt) (ht : (pc : Int) + dflt = (tgt : Int)) (kk : Go V Γ M Z tgt lv st σ) : Go V Γ M Z pc lv (.int x :: st) σ := by
  intro H locs ls hP hS hl
  obtain ⟨hx, hb, hml, hown, hts, hrr, hlk, hWk⟩ := X
  exact lv_tableOut hx hb hd h ht (kk H locs ls hP hS hl)
theorem g_lookIn {dflt : Int} {ps : Array (Int × Int)} {len : Nat} {x K : Int32} {off : Int} {tgt : Nat} (X : Cx V Γ M) (e : x = K) (hd : decode M.2.1 pc = .ok (.lookupswitch dflt ps, len)) (hp : (ps.toList.zip (ps.toList.drop 1)).all (fun (a, next) => a.1 < next.1) = true) (ho : Op.lookupswitch.offset ps.toList dflt K.toInt = off) (ht : (pc : Int) + off = (tgt : Int)) (kk : Go V Γ M Z tgt lv st σ) : Go V Γ M Z pc lv (.int x :: st) σ := by
  intro H locs ls hP hS hl
  subst e
  obtain ⟨hx, hb, hml, hown, hts, hrr, hlk, hWk⟩ := X
  exact lv_lookup hx hb hd hp ho ht (kk H locs ls hP hS hl)
theorem g_lookOut {dflt : Int} {ps : Array (Int × Int)} {len : Nat} {x : Int32} {tgt : Nat} (X : Cx V Γ M) (hd : decode M.2.1 pc = .ok (.lookupswitch dflt ps, len)) (hp : (ps.toList.zip (ps.toList.drop 1)).all (fun (a, next) => a.1 < next.1) = true) (ho : Op.lookupswitch.offset ps.toList dflt x.toInt = dflt) (ht : (pc : Int) + dflt = (tgt : Int)) (kk : Go V Γ M Z tgt lv st σ) : Go V Γ M Z pc lv (.int x :: st) σ := by
  intro H locs ls hP hS hl
  obtain ⟨hx, hb, hml, hown, hts, hrr, hlk, hWk⟩ := X
  exact lv_lookup hx hb hd hp ho ht (kk H locs ls hP hS hl)
/-! fields -/
def Fl (own : String) (index ci k : Nat) (ty : FieldType) (fin : Bool) : Prop := ∃ (C : String) (T : u_T) (N : Nat) (ty0 : Nat → FieldType), vwCl[ci]? = some (C, T, N) ∧ k < N ∧ (∀ w ∈ u_ws C T N, w ∈ lw_good) ∧ (∀ k, k < N → parseFieldDescriptor (T k).2.2.1 = some (ty0 k)) ∧ (∀ a, a < N → ∀ b, b < N → a ≠ b → (T a).2.1 ≠ (T b).2.1) ∧ ty0 k = ty ∧ (T k).2.2.2 = fin ∧ ((Cond.fieldLink own index (T k).1 (T k).2.1 (T k).2.2.1 ∈ lw_good) ∨ ∃ host, Cond.fieldLinkNest own index (T k).1 (T k).2.1 (T k).2.2.1 host ∈ lw_nest)
theorem g_get {index ci k a c : Nat} {fks : List Nat} {ty : FieldType} {fin : Bool} (X : Cx V Γ M) (hF : Fl M.1.cls index ci k ty fin) (hs : shp[a]? = some (.inl (ci, fks))) (hc : fks[k]? = some c) (hd : decode M.2.1 pc = .ok (.getfield index, 3))
    (kk : Go V Γ M Z (pc + 3) lv (fv V.2.2.1 (σ.1 a) (σ.2 a) k c :: st) σ) : Go V Γ M Z pc lv (.ref (V.2.2.1 + a) :: st) σ := by
  intro H locs ls hP hS hl
  obtain ⟨hx, hb, hml, hown, hts, hr, hlk, hK, hN, hStr⟩ := X
  obtain ⟨C, T, N, ty0, h1, h2, h3, h4, h5, h6, h7, h8⟩ := hF
  have he := wd_at V σ hs
  have hv : (fks.mapIdx (fv V.2.2.1 (σ.1 a) (σ.2 a)))[k]? = some (fv V.2.2.1 (σ.1 a) (σ.2 a) k c) := by rw [List.getElem?_mapIdx, hc]; rfl
  rcases h8 with h8 | ⟨host, h8⟩
  · exact va_get hx hb hts h3 hown hK hP a he h1 k h2 (hts _ h8) (fun x h => h) hv hd (kk H locs ls hP hS hl)
  · exact va_getN hx hb hts h3 hown hK hP a he h1 k h2 (va_Nw.use rfl (hN _ h8)) (fun x h => h) hv hd (kk H locs ls hP hS hl)
theorem g_putI {index ci k a : Nat} {fks : List Nat} {ty : FieldType} {x : Int32} (X : Cx V Γ M) (hF : Fl M.1.cls index ci k ty false) (hs : shp[a]? = some (.inl (ci, fks))) (hc : fks[k]? = some 0) (hn : narrow ty (.int x) = .int x) (hfit : fits ty (.int x) = true) (hd : decode M.2.1 pc = .ok (.putfield index, 3))
    (kk : Go V Γ M Z (pc + 3) lv st (wI σ a k x)) : Go V Γ M Z pc lv (.int x :: .ref (V.2.2.1 + a) :: st) σ := by
  intro H locs ls hP hS hl
  obtain ⟨hx, hb, hml, hown, hts, hr, hlk, hK, hN, hStr⟩ := X
  obtain ⟨C, T, N, ty0, h1, h2, h3, h4, h5, h6, h7, h8⟩ := hF
  have he := wd_at V σ hs
  have hd2 : parseFieldDescriptor (T k).2.2.1 = some ty := by rw [← h6]; exact h4 k h2
  have hlen : k < (fks.mapIdx (fv V.2.2.1 (σ.1 a) (σ.2 a))).length := by rw [List.length_mapIdx]; exact (List.getElem?_eq_some_iff.mp hc).1
  have key : ∀ (H1 : Heap) (locs1 : List Loc), va_P V.1 vwCl ((wd V σ).set a (V.2.2.1 + a, .inr (ci, (fks.mapIdx (fv V.2.2.1 (σ.1 a) (σ.2 a))).set k (.int x)))) H1 → va_D (AA V) ((wd V σ).set a (V.2.2.1 + a, .inr (ci, (fks.mapIdx (fv V.2.2.1 (σ.1 a) (σ.2 a))).set k (.int x)))) → va_S (AA V) Γ.2.2.2.1.heap H1 locs1 → W Γ.1 Γ.2.1 Γ.2.2.1 Z.1 Γ.2.2.2.1 Γ.2.2.2.2.1 Γ.2.2.2.2.2.1 Γ.2.2.2.2.2.2.1 Γ.2.2.2.2.2.2.2.1 Γ.2.2.2.2.2.2.2.2 H1 locs1 Z.2.1 Z.2.2.1 Z.2.2.2 (F0 Γ.2.2.2.2.1 (pc + 3) ls st) := by
    intro H1 locs1 hP1 _ hS1
    refine kk H1 locs1 ls ?_ hS1 hl
    have e := wd_set V σ (wI σ a k x) hs (fun b hb => u2_off _ _ _ hb) (fun b hb => rfl)
    rw [← e]
    have e2 : ent V ((wI σ a k x).1 a) ((wI σ a k x).2 a) a (.inl (ci, fks)) = .inr (ci, (fks.mapIdx (fv V.2.2.1 (σ.1 a) (σ.2 a))).set k (.int x)) := by
      show Sum.inr (ci, fks.mapIdx (fv V.2.2.1 (u2 σ.1 a k x a) (σ.2 a))) = _
      rw [fv_setI _ _ _ _ _ _ hc, u2_row]
    rw [e2]
    exact hP1
  rcases h8 with h8 | ⟨host, h8⟩
  · exact va_put hx hb hts h3 ty0 h4 h5 hown hK hP (wd_D V σ) hS a he h1 k h2 (hts _ h8) (fun x h => h) h7 hd2 hn hfit hlen hd key
  · exact va_putN hx hb hts h3 ty0 h4 h5 hown hK hP (wd_D V σ) hS a he h1 k h2 (va_Nw.use rfl (hN _ h8)) (fun x h => h) h7 hd2 hn hfit hlen hd key
theorem g_putL {index ci k a : Nat} {fks : List Nat} {x : Int64} (X : Cx V Γ M) (hF : Fl M.1.cls index ci k .long false) (hs : shp[a]? = some (.inl (ci, fks))) (hc : fks[k]? = some 1) (hd : decode M.2.1 pc = .ok (.putfield index, 3))
    (kk : Go V Γ M Z (pc + 3) lv st (wL σ a k x)) : Go V Γ M Z pc lv (.long x :: .ref (V.2.2.1 + a) :: st) σ := by
  intro H locs ls hP hS hl
  obtain ⟨hx, hb, hml, hown, hts, hr, hlk, hK, hN, hStr⟩ := X
  obtain ⟨C, T, N, ty0, h1, h2, h3, h4, h5, h6, h7, h8⟩ := hF
  have he := wd_at V σ hs
  have hd2 : parseFieldDescriptor (T k).2.2.1 = some .long := by rw [← h6]; exact h4 k h2
  have hlen : k < (fks.mapIdx (fv V.2.2.1 (σ.1 a) (σ.2 a))).length := by rw [List.length_mapIdx]; exact (List.getElem?_eq_some_iff.mp hc).1
  have key : ∀ (H1 : Heap) (locs1 : List Loc), va_P V.1 vwCl ((wd V σ).set a (V.2.2.1 + a, .inr (ci, (fks.mapIdx (fv V.2.2.1 (σ.1 a) (σ.2 a))).set k (.long x)))) H1 → va_D (AA V) ((wd V σ).set a (V.2.2.1 + a, .inr (ci, (fks.mapIdx (fv V.2.2.1 (σ.1 a) (σ.2 a))).set k (.long x)))) → va_S (AA V) Γ.2.2.2.1.heap H1 locs1 → W Γ.1 Γ.2.1 Γ.2.2.1 Z.1 Γ.2.2.2.1 Γ.2.2.2.2.1 Γ.2.2.2.2.2.1 Γ.2.2.2.2.2.2.1 Γ.2.2.2.2.2.2.2.1 Γ.2.2.2.2.2.2.2.2 H1 locs1 Z.2.1 Z.2.2.1 Z.2.2.2 (F0 Γ.2.2.2.2.1 (pc + 3) ls st) := by
    intro H1 locs1 hP1 _ hS1
    refine kk H1 locs1 ls ?_ hS1 hl
    have e := wd_set V σ (wL σ a k x) hs (fun b hb => rfl) (fun b hb => u2_off _ _ _ hb)
    rw [← e]
    have e2 : ent V ((wL σ a k x).1 a) ((wL σ a k x).2 a) a (.inl (ci, fks)) = .inr (ci, (fks.mapIdx (fv V.2.2.1 (σ.1 a) (σ.2 a))).set k (.long x)) := by
      show Sum.inr (ci, fks.mapIdx (fv V.2.2.1 (σ.1 a) (u2 σ.2 a k x a))) = _
      rw [fv_setL _ _ _ _ _ _ hc, u2_row]
    rw [e2]
    exact hP1
  rcases h8 with h8 | ⟨host, h8⟩
  · exact va_put hx hb hts h3 ty0 h4 h5 hown hK hP (wd_D V σ) hS a he h1 k h2 (hts _ h8) (fun x h => h) h7 hd2 rfl rfl hlen hd key
  · exact va_putN hx hb hts h3 ty0 h4 h5 hown hK hP (wd_D V σ) hS a he h1 k h2 (va_Nw.use rfl (hN _ h8)) (fun x h => h) h7 hd2 rfl rfl hlen hd key
/-! arrays -/
def ix (j : Int32) (n : Nat) : Bool := decide (0 ≤ j.toInt ∧ j.toInt < n)
abbrev tn (j : Int32) : Nat := j.toNatClampNeg
theorem ix_in {j : Int32} {n : Nat} (h : ix j n = true) : vp_in j n := vp_in_iff.mpr (of_decide_eq_true h)
theorem g_iald {a n : Nat} {j : Int32} (X : Cx V Γ M) (hs : shp[a]? = some (.inr (0, n))) (hi : ix j n = true) (hd : decode M.2.1 pc = .ok (.iaload, 1)) (kk : Go V Γ M Z (pc + 1) lv (.int (σ.1 a (tn j)) :: st) σ) : Go V Γ M Z pc lv (.int j :: .ref (V.2.2.1 + a) :: st) σ := by
  intro H locs ls hP hS hl
  obtain ⟨hx, hb, hml, hown, hts, hr, hlk, hK, hN, hStr⟩ := X
  exact va_iald hx hb hK hP a 0 (cA := V.2.1 0) (f := σ.1 a) (wd_at V σ hs) rfl (ix_in hi) hd (kk H locs ls hP hS hl)
theorem g_lald {a n : Nat} {j : Int32} (X : Cx V Γ M) (hs : shp[a]? = some (.inr (1, n))) (hi : ix j n = true) (hd : decode M.2.1 pc = .ok (.laload, 1)) (kk : Go V Γ M Z (pc + 1) lv (.long (σ.2 a (tn j)) :: st) σ) : Go V Γ M Z pc lv (.int j :: .ref (V.2.2.1 + a) :: st) σ := by
  intro H locs ls hP hS hl
  obtain ⟨hx, hb, hml, hown, hts, hr, hlk, hK, hN, hStr⟩ := X
  exact va_lald hx hb hK hP a 1 (cA := V.2.1 1) (f := σ.2 a) (wd_at V σ hs) rfl (ix_in hi) hd (kk H locs ls hP hS hl)
theorem g_bald {a n : Nat} {j : Int32} (X : Cx V Γ M) (hs : shp[a]? = some (.inr (2, n))) (hi : ix j n = true) (hd : decode M.2.1 pc = .ok (.baload, 1)) (kk : Go V Γ M Z (pc + 1) lv (.int (σ.1 a (tn j)) :: st) σ) : Go V Γ M Z pc lv (.int j :: .ref (V.2.2.1 + a) :: st) σ := by
  intro H locs ls hP hS hl
  obtain ⟨hx, hb, hml, hown, hts, hr, hlk, hK, hN, hStr⟩ := X
  exact va_bald hx hb hK hP a 2 (cA := V.2.1 2) (f := σ.1 a) (wd_at V σ hs) rfl (ix_in hi) hd (kk H locs ls hP hS hl)
theorem g_zald {a n : Nat} {j : Int32} (X : Cx V Γ M) (hs : shp[a]? = some (.inr (3, n))) (hi : ix j n = true) (hd : decode M.2.1 pc = .ok (.baload, 1)) (kk : Go V Γ M Z (pc + 1) lv (.int (σ.1 a (tn j)) :: st) σ) : Go V Γ M Z pc lv (.int j :: .ref (V.2.2.1 + a) :: st) σ := by
  intro H locs ls hP hS hl
  obtain ⟨hx, hb, hml, hown, hts, hr, hlk, hK, hN, hStr⟩ := X
  exact va_zald hx hb hK hP a 3 (cA := V.2.1 3) (f := σ.1 a) (wd_at V σ hs) rfl (ix_in hi) hd (kk H locs ls hP hS hl)
theorem wd_arrI {a n ak : Nat} {g : Nat → Int32} {H : Heap} (σ' : St) (h0 : ak = 0 ∨ ak = 2 ∨ ak = 3) (hs : shp[a]? = some (.inr (ak, n))) (h1 : ∀ b, b ≠ a → σ'.1 b = σ.1 b) (h2 : σ'.2 = σ.2) (h3 : σ'.1 a = g) (hP : va_P V.1 vwCl ((wd V σ).set a (V.2.2.1 + a, .inl (V.2.1 ak, n, .inl g))) H) : va_P V.1 vwCl (wd V σ') H := by
  have e := wd_set V σ σ' hs h1 (fun b hb => by rw [h2])
  rw [← e]
  have e2 : ent V (σ'.1 a) (σ'.2 a) a (.inr (ak, n)) = .inl (V.2.1 ak, n, .inl g) := by
    rw [← h3]
    rcases h0 with h0 | h0 | h0 <;> subst h0 <;> rfl
  rw [e2]
  exact hP
theorem wd_arrL {a n : Nat} {g : Nat → Int64} {H : Heap} (σ' : St) (hs : shp[a]? = some (.inr (1, n))) (h1 : ∀ b, b ≠ a → σ'.2 b = σ.2 b) (h2 : σ'.1 = σ.1) (h3 : σ'.2 a = g) (hP : va_P V.1 vwCl ((wd V σ).set a (V.2.2.1 + a, .inl (V.2.1 1, n, .inr (.inl g)))) H) : va_P V.1 vwCl (wd V σ') H := by
  have e := wd_set V σ σ' hs (fun b hb => by rw [h2]) h1
  rw [← e]
  have e2 : ent V (σ'.1 a) (σ'.2 a) a (.inr (1, n)) = .inl (V.2.1 1, n, .inr (.inl g)) := by
    rw [← h3]; rfl
  rw [e2]
  exact hP
theorem g_iast {a n : Nat} {j x : Int32} (X : Cx V Γ M) (hs : shp[a]? = some (.inr (0, n))) (hi : ix j n = true) (hd : decode M.2.1 pc = .ok (.iastore, 1)) (kk : Go V Γ M Z (pc + 1) lv st (wI σ a (tn j) x)) : Go V Γ M Z pc lv (.int x :: .int j :: .ref (V.2.2.1 + a) :: st) σ := by
  intro H locs ls hP hS hl
  obtain ⟨hx, hb, hml, hown, hts, hr, hlk, hK, hN, hStr⟩ := X
  exact va_iast hx hb hK hP (wd_D V σ) hS a 0 (cA := V.2.1 0) (f := σ.1 a) (wd_at V σ hs) rfl (ix_in hi) hd (fun H1 locs1 hP1 _ hS1 => kk H1 locs1 ls (wd_arrI (wI σ a (tn j) x) (Or.inl rfl) hs (fun b hb => u2_off _ _ _ hb) rfl (u2_row _ _ _ _) hP1) hS1 hl)
theorem g_bast {a n : Nat} {j x : Int32} (X : Cx V Γ M) (hs : shp[a]? = some (.inr (2, n))) (hi : ix j n = true) (hd : decode M.2.1 pc = .ok (.bastore, 1)) (kk : Go V Γ M Z (pc + 1) lv st (wI σ a (tn j) (vp_nar .byte x))) : Go V Γ M Z pc lv (.int x :: .int j :: .ref (V.2.2.1 + a) :: st) σ := by
  intro H locs ls hP hS hl
  obtain ⟨hx, hb, hml, hown, hts, hr, hlk, hK, hN, hStr⟩ := X
  exact va_bast hx hb hK hP (wd_D V σ) hS a 2 (cA := V.2.1 2) (f := σ.1 a) (wd_at V σ hs) rfl (ix_in hi) hd (fun H1 locs1 hP1 _ hS1 => kk H1 locs1 ls (wd_arrI (wI σ a (tn j) (vp_nar .byte x)) (Or.inr (Or.inl rfl)) hs (fun b hb => u2_off _ _ _ hb) rfl (u2_row _ _ _ _) hP1) hS1 hl)
theorem g_zast {a n : Nat} {j x : Int32} (X : Cx V Γ M) (hs : shp[a]? = some (.inr (3, n))) (hi : ix j n = true) (hd : decode M.2.1 pc = .ok (.bastore, 1)) (kk : Go V Γ M Z (pc + 1) lv st (wI σ a (tn j) (vp_nar .boolean x))) : Go V Γ M Z pc lv (.int x :: .int j :: .ref (V.2.2.1 + a) :: st) σ := by
  intro H locs ls hP hS hl
  obtain ⟨hx, hb, hml, hown, hts, hr, hlk, hK, hN, hStr⟩ := X
  exact va_zast hx hb hK hP (wd_D V σ) hS a 3 (cA := V.2.1 3) (f := σ.1 a) (wd_at V σ hs) rfl (ix_in hi) hd (fun H1 locs1 hP1 _ hS1 => kk H1 locs1 ls (wd_arrI (wI σ a (tn j) (vp_nar .boolean x)) (Or.inr (Or.inr rfl)) hs (fun b hb => u2_off _ _ _ hb) rfl (u2_row _ _ _ _) hP1) hS1 hl)
theorem g_last {a n : Nat} {j : Int32} {x : Int64} (X : Cx V Γ M) (hs : shp[a]? = some (.inr (1, n))) (hi : ix j n = true) (hd : decode M.2.1 pc = .ok (.lastore, 1)) (kk : Go V Γ M Z (pc + 1) lv st (wL σ a (tn j) x)) : Go V Γ M Z pc lv (.long x :: .int j :: .ref (V.2.2.1 + a) :: st) σ := by
  intro H locs ls hP hS hl
  obtain ⟨hx, hb, hml, hown, hts, hr, hlk, hK, hN, hStr⟩ := X
  exact va_last hx hb hK hP (wd_D V σ) hS a 1 (cA := V.2.1 1) (f := σ.2 a) (wd_at V σ hs) rfl (ix_in hi) hd (fun H1 locs1 hP1 _ hS1 => kk H1 locs1 ls (wd_arrL (wL σ a (tn j) x) hs (fun b hb => u2_off _ _ _ hb) rfl (u2_row _ _ _ _) hP1) hS1 hl)
theorem g_aald {a n ak : Nat} {j : Int32} {t : FieldType} (X : Cx V Γ M) (hs : shp[a]? = some (.inr (ak + 4, n))) (ht : (tys V)[ak + 4]? = some (V.2.1 (ak + 4), t)) (hr : t.isReference = true) (hi : ix j n = true) (hd : decode M.2.1 pc = .ok (.aaload, 1)) (kk : Go V Γ M Z (pc + 1) lv (.ref (V.2.2.1 + rfs a (tn j)) :: st) σ) : Go V Γ M Z pc lv (.int j :: .ref (V.2.2.1 + a) :: st) σ := by
  intro H locs ls hP hS hl
  obtain ⟨hx, hb, hml, hown, hts, hrr, hlk, hK, hN, hStr⟩ := X
  have hin := ix_in hi
  have hlt : j.toNatClampNeg < n := Nat.not_le.mp fun q => hin (Or.inr q)
  have he : H[V.2.2.1 + a]? = some (vp_cell (V.2.1 (ak + 4)) (n, .inr (.inr (.inr (.inr (fun j => some (V.2.2.1 + rfs a j))))))) := hP a _ (wd_at V σ hs)
  exact W.aald (v := .ref (V.2.2.1 + rfs a (tn j))) (ty := t) hx hb he ((hK.2 (ak + 4) _ ht).1 n (fun j => va_rf (some (V.2.2.1 + rfs a j)))) hr (fun q => by cases q) (by show ¬ (j < 0 ∨ (arrV _ _ _).slots.size ≤ _); rw [arrV_size]; exact hin) (by show (arrV _ _ _).slots[_]? = _; rw [arrV_read _ _ hlt]; rfl) rfl rfl hd (kk H locs ls hP hS hl)
theorem g_alenI {a n ak : Nat} {t : FieldType} (X : Cx V Γ M) (hs : shp[a]? = some (.inr (ak, n))) (ht : (tys V)[ak]? = some (V.2.1 ak, t)) (hd : decode M.2.1 pc = .ok (.arraylength, 1)) (kk : Go V Γ M Z (pc + 1) lv (.int (Int32.ofNat n) :: st) σ) : Go V Γ M Z pc lv (.ref (V.2.2.1 + a) :: st) σ := by
  intro H locs ls hP hS hl
  obtain ⟨hx, hb, hml, hown, hts, hrr, hlk, hK, hN, hStr⟩ := X
  exact va_alen hx hb hK hP a ak (wd_at V σ hs) ht rfl hd (kk H locs ls hP hS hl)
/-! System.arraycopy -/
def cpk (sp dp n : Int32) (n0 n1 : Nat) : Bool := decide (0 ≤ sp.toInt ∧ 0 ≤ dp.toInt ∧ 0 ≤ n.toInt ∧ tn sp + tn n ≤ n0 ∧ tn dp + tn n ≤ n1)
theorem nonneg32 {z : Int32} (h : 0 ≤ z.toInt) : ¬ z < 0 := by
  intro q; rw [Int32.lt_iff_toInt_lt] at q; have : (0 : Int32).toInt = 0 := rfl; omega
def Ak (own : String) (index : Nat) : Prop := Cond.methodLink own index arraycopyName ∈ lw_good ∧ Cond.native arraycopyName ∈ lw_good ∧ Cond.static arraycopyName ∈ lw_good ∧ Cond.initialized "java/lang/System" ∈ lw_good
theorem g_copyI {a0 a n0 n1 index : Nat} {sp dp n : Int32} (X : Cx V Γ M) (hA : Ak M.1.cls index) (hs0 : shp[a0]? = some (.inr (0, n0))) (hs1 : shp[a]? = some (.inr (0, n1))) (hk : cpk sp dp n n0 n1 = true) (hfr : 1 ≤ Z.1.frames) (hlo : (st.map fun v => v.category).sum + (nativeFrameWords "java/lang/System" "arraycopy" 5 + 11) ≤ Z.1.locals) (hd : decode M.2.1 pc = .ok (.invokestatic index, 3))
    (kk : Go V Γ M Z (pc + 3) lv st (rI σ a (va_cpy (σ.1 a0) (σ.1 a) (tn sp) (tn dp) (tn n)))) : Go V Γ M Z pc lv (.int n :: .int dp :: .ref (V.2.2.1 + a) :: .int sp :: .ref (V.2.2.1 + a0) :: st) σ := by
  intro H locs ls hP hS hl
  obtain ⟨hx, hb, hml, hown, hts, hrr, hlk, hK, hN, hStr⟩ := X
  obtain ⟨k1, k2, k3, k4, k5⟩ := of_decide_eq_true hk
  exact va_copyi hx hb (by rw [hml]; exact hl.1.symm) hown (hts _ hA.1) (hts _ hA.2.1) (hts _ hA.2.2.1) (hts _ hA.2.2.2) hK hP (wd_D V σ) hS a0 a 0 0 (c0 := V.2.1 0) (c1 := V.2.1 0) (f := σ.1 a0) (g := σ.1 a) (ty := .int) (wd_at V σ hs0) (wd_at V σ hs1) rfl rfl rfl (nonneg32 k1) (nonneg32 k2) (nonneg32 k3) k4 k5 (fun _ _ => rfl) hfr hlo hd
    (fun H1 locs1 hP1 _ hS1 => kk H1 locs1 ls (wd_arrI (rI σ a (va_cpy (σ.1 a0) (σ.1 a) (tn sp) (tn dp) (tn n))) (Or.inl rfl) hs1 (fun b hb => ur_off _ _ hb) rfl (ur_row _ _ _) hP1) hS1 hl)
theorem g_copyL {a0 a n0 n1 index : Nat} {sp dp n : Int32} (X : Cx V Γ M) (hA : Ak M.1.cls index) (hs0 : shp[a0]? = some (.inr (1, n0))) (hs1 : shp[a]? = some (.inr (1, n1))) (hk : cpk sp dp n n0 n1 = true) (hfr : 1 ≤ Z.1.frames) (hlo : (st.map fun v => v.category).sum + (nativeFrameWords "java/lang/System" "arraycopy" 5 + 11) ≤ Z.1.locals) (hd : decode M.2.1 pc = .ok (.invokestatic index, 3))
    (kk : Go V Γ M Z (pc + 3) lv st (rL σ a (va_cpy (σ.2 a0) (σ.2 a) (tn sp) (tn dp) (tn n)))) : Go V Γ M Z pc lv (.int n :: .int dp :: .ref (V.2.2.1 + a) :: .int sp :: .ref (V.2.2.1 + a0) :: st) σ := by
  intro H locs ls hP hS hl
  obtain ⟨hx, hb, hml, hown, hts, hrr, hlk, hK, hN, hStr⟩ := X
  obtain ⟨k1, k2, k3, k4, k5⟩ := of_decide_eq_true hk
  exact va_copyl hx hb (by rw [hml]; exact hl.1.symm) hown (hts _ hA.1) (hts _ hA.2.1) (hts _ hA.2.2.1) (hts _ hA.2.2.2) hK hP (wd_D V σ) hS a0 a 1 1 (c0 := V.2.1 1) (c1 := V.2.1 1) (f := σ.2 a0) (g := σ.2 a) (ty := .long) (wd_at V σ hs0) (wd_at V σ hs1) rfl rfl rfl (nonneg32 k1) (nonneg32 k2) (nonneg32 k3) k4 k5 (fun _ _ => rfl) hfr hlo hd
    (fun H1 locs1 hP1 _ hS1 => kk H1 locs1 ls (wd_arrL (rL σ a (va_cpy (σ.2 a0) (σ.2 a) (tn sp) (tn dp) (tn n))) hs1 (fun b hb => ur_off _ _ hb) rfl (ur_row _ _ _) hP1) hS1 hl)
/-! Math.max, Math.min -/
def Xk (own : String) (index : Nat) : Prop := Cond.methodLink own index Lib.Math.max.name ∈ lw_good ∧ Cond.static Lib.Math.max.name ∈ lw_good ∧ Cond.initialized "java/lang/Math" ∈ lw_good ∧ Cond.code Lib.Math.max.name Lib.Math.max.code 2 (some .int) ∈ lw_good
def Nk (own : String) (index : Nat) : Prop := Cond.methodLink own index Lib.Math.min.name ∈ lw_good ∧ Cond.static Lib.Math.min.name ∈ lw_good ∧ Cond.initialized "java/lang/Math" ∈ lw_good ∧ Cond.code Lib.Math.min.name Lib.Math.min.code 2 (some .int) ∈ lw_good
def jmax (x y : Int32) : Int32 := if x < y then y else x
def jmin (x y : Int32) : Int32 := if y < x then y else x
theorem g_max {index : Nat} {x y : Int32} (X : Cx V Γ M) (hA : Xk M.1.cls index) (hfr : 1 ≤ Z.1.frames) (hlo : (st.map fun v => v.category).sum + 13 ≤ Z.1.locals) (hc : Z.2.1 ≤ Z.1.cells) (hs : Z.2.2.1 ≤ Z.1.slots) (hd : decode M.2.1 pc = .ok (.invokestatic index, 3)) (kk : Go V Γ M Z (pc + 3) lv (.int (jmax x y) :: st) σ) : Go V Γ M Z pc lv (.int y :: .int x :: st) σ := by
  intro H locs ls hP hS hl
  obtain ⟨hx, hb, hml, hown, hts, hrr, hlk, hK, hN, hStr⟩ := X
  exact va_mmax hx hb (by rw [hml]; exact hl.1.symm) hown (hts _ hA.1) (hts _ hA.2.1) (hts _ hA.2.2.1) (hts _ hA.2.2.2) hfr hlo hc hs hd (kk H locs ls hP hS hl)
theorem g_min {index : Nat} {x y : Int32} (X : Cx V Γ M) (hA : Nk M.1.cls index) (hfr : 1 ≤ Z.1.frames) (hlo : (st.map fun v => v.category).sum + 13 ≤ Z.1.locals) (hc : Z.2.1 ≤ Z.1.cells) (hs : Z.2.2.1 ≤ Z.1.slots) (hd : decode M.2.1 pc = .ok (.invokestatic index, 3)) (kk : Go V Γ M Z (pc + 3) lv (.int (jmin x y) :: st) σ) : Go V Γ M Z pc lv (.int y :: .int x :: st) σ := by
  intro H locs ls hP hS hl
  obtain ⟨hx, hb, hml, hown, hts, hrr, hlk, hK, hN, hStr⟩ := X
  exact va_mmin hx hb (by rw [hml]; exact hl.1.symm) hown (hts _ hA.1) (hts _ hA.2.1) (hts _ hA.2.2.1) (hts _ hA.2.2.2) hfr hlo hc hs hd (kk H locs ls hP hS hl)
/-! calls -/
def Ok2 (M' : Mi) (n : Nat) : Prop := Cond.code M'.1 M'.2.1 M'.2.2.1 M'.2.2.2 ∈ lw_good ∧ Cond.initialized M'.1.cls ∈ lw_good ∧ M'.1.cls ≠ "java/lang/invoke/MethodHandle" ∧ M'.1.cls ≠ "java/lang/invoke/VarHandle" ∧ (parseMethodDescriptor M'.1.desc).map (fun d => d.parameters.length) = some n
def Lk (own : String) (index : Nat) (M' : Mi) : Prop := Cond.methodLink own index M'.1 ∈ lw_good ∨ ∃ host, Cond.methodLinkNest own index M'.1 host ∈ lw_nest
def Cs (own : String) (index : Nat) (M' : Mi) (n : Nat) : Prop := Lk own index M' ∧ Ok2 M' n ∧ Cond.static M'.1 ∈ lw_good
def Cv (own : String) (index : Nat) (M' : Mi) (n ci : Nat) : Prop := Lk own index M' ∧ Ok2 M' n ∧ Cond.instanceMethod M'.1 ∈ lw_good ∧ Cond.selects M'.1.cls M'.1 M'.1 ∈ lw_good ∧ ∃ T N, vwCl[ci]? = some (M'.1.cls, T, N)
theorem ww_pay {s : State} {args : Array Value} {M' : Mi} (hts : ∀ w ∈ lw_good, w.before args s = true) (hc : Cond.code M'.1 M'.2.1 M'.2.2.1 M'.2.2.2 ∈ lw_good) : ∀ w ∈ ww M', ∀ (a' : Array Value) (U : State), s.WarmedH U.vm → w.before a' U = true := by
  refine pay_in hts (fun w hw => ?_)
  rcases List.mem_cons.mp hw with rfl | hw
  · exact good_in (fun w h => h) _ hc
  · exact good_in (fun w h => h) _ hw
theorem Pf_blind (V : Ev) (av : List Value) (σ : St) : FrameBlind (Pf V av σ) := by
  intro a U g mk h
  obtain ⟨h1, h2, h3, h4, h5⟩ := h
  exact ⟨h1, h2, va_K.moved (u := U) (U := U.calling g mk a) (Vm.Alike.refl U.vm) h3, Nws.same (u := U) (U := U.calling g mk a) rfl h4, Sts.same (u := U) (U := U.calling g mk a) rfl h5⟩
theorem g_back {p : Program} {l : Launch} {e : Env} {R : Room} {s : State} {m : MethodId} {args : Array Value} {below : List Frame} {meth : Method} {c : Code} {H : Heap} {locs : List Loc} {cells slots : Nat} {Q : State → Prop} {ls : Array Slot} {st0 rest : List Value} {a : Array Value} {H0 : Heap} {v : Option Value} {σ' : St} (hr : va_Run p l e R s m args below meth c H locs cells slots 0 0 (F0 m pc ls st0) rest (Qf V (v, σ') a) (AA V)) (hS : va_S (AA V) H0 H locs)
    (kk : ∀ (H1 : Heap) (locs1 : List Loc), va_P V.1 vwCl (wd V σ') H1 → va_S (AA V) H0 H1 locs1 → W p l e R s m args below meth c H1 locs1 cells slots Q (F0 m (pc + 3) ls (v.toList ++ rest))) : W p l e R s m args below meth c H locs cells slots Q (F0 m pc ls st0) := by
  intro T hT X
  obtain ⟨v1, st₀, t, T', L, h0, X', hL, e1, e2, ⟨⟨hv, hb⟩, hz, hk⟩, stp⟩ := hr T hT X
  cases hv
  rw [h0] at hz hk
  obtain ⟨t2, a1, b1⟩ := kk T'.heap (locs ++ L) (by rw [e1]; exact hb) ⟨Nat.le_trans hS.1 (by rw [e1]; exact hz), fun q h1 h2 => by rw [e1, hk q (Nat.lt_of_lt_of_le h1 hS.1) h2]; exact hS.2.1 q h1 h2, fun q hq => by
      rcases List.mem_append.mp hq with h | h
      · exact hS.2.2 q h
      · exact hL q h⟩ T' rfl X'
  exact ⟨t2, stp t2 a1, b1⟩
theorem Pf_call {H : Heap} {locs : List Loc} {av : List Value} (hP : va_P V.1 vwCl (wd V σ) H) (hS : va_S (AA V) Γ.2.2.2.1.heap H locs) (hWk : Wk V Γ.2.2.2.1) : ∀ U : State, U.heap = H → Γ.2.2.2.1.WarmedH U.vm → Pf V av σ av.toArray U :=
  fun U hU hW => ⟨rfl, by rw [hU]; exact hP, Wk.call hW (fun q h1 h2 => by rw [hU]; exact hS.2.1 q h1 h2) hWk⟩
theorem g_callS {d' index n : Nat} {M' : Mi} {av : List Value} {σ' : St} {v : Option Value} (X : Cx V Γ M) (hC : Cs M.1.cls index M' n) (hM : Rs V d' M' av σ (v, σ')) (hn : av.length = n) (hR : d' + 1 ≤ Z.1.frames ∧ 8 + (M'.2.2.1 + 11) + 100 * d' ≤ Z.1.locals) (hz : Z.2.1 ≤ Z.1.cells ∧ Z.2.2.1 ≤ Z.1.slots) (st0 : List Value) (hst : st0 = av.reverse ++ st) (hW : (st.map fun v => v.category).sum ≤ 8) (hd : decode M.2.1 pc = .ok (.invokestatic index, 3))
    (kk : Go V Γ M Z (pc + 3) lv (v.toList ++ st) σ') : Go V Γ M Z pc lv st0 σ := by
  intro H locs ls hP hS hl
  obtain ⟨hx, hb, hml, hown, hts, hrr, hlk, hWk⟩ := X
  obtain ⟨hL, ⟨o1, o2, o3, o4, o5⟩, hst2⟩ := hC
  have hpar : ∀ sig, parseMethodDescriptor M'.1.desc = some sig → n = sig.parameters.length := fun sig h => by rw [h] at o5; exact (Option.some.inj o5).symm
  have hpre : PreS Γ.2.2.2.1 H (Pf V av σ) av := ⟨Pf_blind V av σ, Pf_call hP hS hWk⟩
  have hmon : 2 * (F0 Γ.2.2.2.2.1 pc ls st0).monitorRoom + (st.map fun v => v.category).sum ≤ 8 := by show 2 * 0 + _ ≤ 8; omega
  refine g_back (v := v) (σ' := σ') (rest := st) (a := av.toArray) ?_ hS (fun H1 locs1 hP1 hS1 => kk H1 locs1 ls hP1 hS1 hl)
  · rcases hL with hL | ⟨host, hL⟩
    · exact va_runS ⟨hx, hb, hml, hown, hts⟩ (hM Γ.2.1) ⟨⟨rfl, rfl, hR.1, hR.2, ww_pay hts o1, List.mem_cons_self, hts _ o1, hts _ o2, ⟨o3, o4⟩, hpar, hts _ hL⟩, hts _ hst2⟩ hpre rfl hn hl.1 hst hmon hd hz
    · exact va_runSN ⟨hx, hb, hml, hown, hts⟩ (hM Γ.2.1) ⟨⟨⟨rfl, rfl, hR.1, hR.2, ww_pay hts o1, List.mem_cons_self⟩, hts _ o1, hts _ o2, ⟨o3, o4⟩, hpar, va_Nw.use rfl (hWk.2.1 _ hL)⟩, hts _ hst2, trivial⟩ hpre rfl hn hl.1 hst hmon hd hz
theorem g_callV {d' index n a ci : Nat} {fks : List Nat} {M' : Mi} {av : List Value} {σ' : St} {v : Option Value} (X : Cx V Γ M) (hC : Cv M.1.cls index M' n ci) (hM : Rs V d' M' (.ref (V.2.2.1 + a) :: av) σ (v, σ')) (hs : shp[a]? = some (.inl (ci, fks))) (hn : av.length = n) (hR : d' + 1 ≤ Z.1.frames ∧ 8 + (M'.2.2.1 + 11) + 100 * d' ≤ Z.1.locals) (hz : Z.2.1 ≤ Z.1.cells ∧ Z.2.2.1 ≤ Z.1.slots) (st0 : List Value) (hst : st0 = av.reverse ++ .ref (V.2.2.1 + a) :: st) (hW : (st.map fun v => v.category).sum ≤ 8) (hd : decode M.2.1 pc = .ok (.invokevirtual index, 3))
    (kk : Go V Γ M Z (pc + 3) lv (v.toList ++ st) σ') : Go V Γ M Z pc lv st0 σ := by
  intro H locs ls hP hS hl
  obtain ⟨hx, hb, hml, hown, hts, hrr, hlk, hWk⟩ := X
  obtain ⟨hL, ⟨o1, o2, o3, o4, o5⟩, hins, hsel, T, N, hcl⟩ := hC
  have hpar : ∀ sig, parseMethodDescriptor M'.1.desc = some sig → n = sig.parameters.length := fun sig h => by rw [h] at o5; exact (Option.some.inj o5).symm
  have hpre : PreV Γ.2.2.2.1 H M'.1.cls (V.2.2.1 + a) (Pf V (.ref (V.2.2.1 + a) :: av) σ) av := ⟨Pf_blind V _ σ, va_recv hWk.1 hP hcl (wd_at V σ hs), Pf_call hP hS hWk⟩
  have hmon : 2 * (F0 Γ.2.2.2.2.1 pc ls st0).monitorRoom + (st.map fun v => v.category).sum ≤ 8 := by show 2 * 0 + _ ≤ 8; omega
  refine g_back (v := v) (σ' := σ') (rest := st) (a := (Value.ref (V.2.2.1 + a) :: av).toArray) ?_ hS (fun H1 locs1 hP1 hS1 => kk H1 locs1 ls hP1 hS1 hl)
  · rcases hL with hL | ⟨host, hL⟩
    · exact va_runV ⟨hx, hb, hml, hown, hts⟩ (hM Γ.2.1) ⟨⟨rfl, rfl, hR.1, hR.2, ww_pay hts o1, List.mem_cons_self, hts _ o1, hts _ o2, ⟨o3, o4⟩, hpar, hts _ hL⟩, hts _ hins, hts _ hsel⟩ hpre rfl hn hl.1 hst hmon hd hz
    · exact va_runVN ⟨hx, hb, hml, hown, hts⟩ (hM Γ.2.1) ⟨⟨⟨rfl, rfl, hR.1, hR.2, ww_pay hts o1, List.mem_cons_self⟩, hts _ o1, hts _ o2, ⟨o3, o4⟩, hpar, va_Nw.use rfl (hWk.2.1 _ hL)⟩, hts _ hins, hts _ hsel⟩ hpre rfl hn hl.1 hst hmon hd hz
end GO
section GR
variable {V : Ev} {Γ : Cn} {M : Mi} {pc : Nat} {lv : List (Nat × Value)} {st : List Value} {σ : St} {d : Nat}
theorem g_vret {fin : Option Value × St} (X : Cx V Γ M) (hr : M.2.2.2 = none) (hf : (none, σ) = fin) (hd : decode M.2.1 pc = .ok (.return_, 1)) : Go V Γ M (Zm V Γ d fin) pc lv [] σ := by
  intro H locs ls hP hS hl
  obtain ⟨hx, hb, hml, hown, hts, hrr, hlk, hWk⟩ := X
  subst hf
  exact W.vret hx hb (hrr.trans hr) (fun t ht hW => ⟨⟨rfl, by rw [ht]; exact hP⟩, hS.F ht⟩) hS.2.2 hd hlk
theorem g_iret {fin : Option Value × St} {x : Int32} {ty : FieldType} (X : Cx V Γ M) (hr : M.2.2.2 = some ty) (hn : narrow ty (.int x) = .int x) (hf : (some (.int x), σ) = fin) (hd : decode M.2.1 pc = .ok (.ireturn, 1)) : Go V Γ M (Zm V Γ d fin) pc lv [.int x] σ := by
  intro H locs ls hP hS hl
  obtain ⟨hx, hb, hml, hown, hts, hrr, hlk, hWk⟩ := X
  subst hf
  exact W.zret hx hb (hrr.trans hr) hn (fun t ht hW => ⟨⟨rfl, by rw [ht]; exact hP⟩, hS.F ht⟩) hS.2.2 hd hlk
theorem g_lret {fin : Option Value × St} {x : Int64} (X : Cx V Γ M) (hr : M.2.2.2 = some .long) (hf : (some (.long x), σ) = fin) (hd : decode M.2.1 pc = .ok (.lreturn, 1)) : Go V Γ M (Zm V Γ d fin) pc lv [.long x] σ := by
  intro H locs ls hP hS hl
  obtain ⟨hx, hb, hml, hown, hts, hrr, hlk, hWk⟩ := X
  subst hf
  exact W.lret hx hb (hrr.trans hr) (fun t ht hW => ⟨⟨rfl, by rw [ht]; exact hP⟩, hS.F ht⟩) hS.2.2 hd hlk
end GR
