/-! THE CLAIM OUT OF ONE WALK OF THE LAW'S BODY. Your part is whole_start (and what it stands on); all else here is the same for every law, but numbers. -/
def R_law : String := "ResidueCoverLaw"
def lw_P (b : Addr) (xs : List Int32) (args : Array Value) (s : State) : Prop := args = #[.ref b] ∧ s.IntsAt b xs ∧ xs.length ≤ 3072 ∧ (Jvm.Cond.and given_1 narrow_1).before args s = true
def lw_Q (_ : Array Value) (s : State) (o : Outcome) (t : State) : Prop := o = .returned (some (.int 1)) ∧ Framed s o t [] 600000 7302250
def lw_Z (below : List Frame) (a : Array Value) (s : State) : State → Prop := fun t => ∃ o, t.status = .running ∧ Ended t below o ∧ lw_Q a s o t
/-- the law's own end, with 1 on the stack, nothing written that was there before, its room as the claim has it -/
theorem lw_ret {p : Program} {l : Launch} {e : Env} {s : State} {m : MethodId} {below : List Frame} {meth : Method} {c : Code} {b : Nat} (hx : p.tables.exec = Jvm.exec) (hb : c.code = code) (hr : meth.sig.returnType = ret) (hlocks : meth.locks = false) {pc : Nat} {H : Heap} {ls : Array Slot} (hdg : decode code pc = .ok (.ireturn, 1)) : W p l e room_1 s m #[Value.ref b] below meth c H [] 600000 7302250 (lw_Z below #[Value.ref b] s) (F0 m pc ls [.int 1]) := by
  intro T hT X
  obtain ⟨fs, hret, hrun, hended, hW, hframe⟩ := X.leave (v := some (.int 1)) (hlocks := hlocks) (fun h => by rw [hr] at h; cases h)
  have hmeth' : T.vm.method? m = some meth := X.method'
  refine ⟨T.setFrames fs, ?_, .returned (some (.int 1)), hrun, hended, rfl, ⟨_, rfl⟩, hW, hframe⟩
  jvm_step X.here [X.here.top, hx, hb, hdg, hmeth', hr, ret, narrow_b1]
  (try refine ⟨rfl, ?_⟩); (try refine ⟨rfl, ?_⟩)
  first | (intro acts; rw [hret _ acts rfl rfl rfl]) | rw [hret _ _ rfl rfl rfl]
  exact Steps.refl _
/-- what holds at the law's entry: the machine, the code, the tables' words (any of lw_tbl by 'hts w (by decide +kernel)'), the script of L ints xs at the cell b, what the Statement gives of the start (any of its parts by flat_of_before) -/
def lw_At (p : Program) (s : State) (m : MethodId) (meth : Method) (c : Code) (b L : Nat) (xs : Nat → Int32) : Prop :=
  p.tables.exec = Jvm.exec ∧ c.code = code ∧ meth.sig.returnType = ret ∧ c.maxLocals = 4 ∧ s.vm.findClass R_law = some m.cls ∧ (∀ w ∈ lw_tbl, w.before #[Value.ref b] s = true) ∧ va_X b L xs s s.heap ∧ b < s.heap.size ∧ meth.locks = false ∧ (Jvm.Cond.and given_1 narrow_1).before #[Value.ref b] s = true
/-- the numbers as the two constructors leave them, ahead of the reference's plain(0) -/
def ini : St := (fun a i => if a = 96 then upd (upd (upd (upd (fun _ => 0) 0 (-1)) 1 (-1)) 2 (-1)) 3 (-1) i else if a = 2 then (if i = 9 then (-1) else if i = 10 then (-1) else 0) else if a = 7 then (if i = 5 then 4 else 0) else if a = 11 then (if i = 5 then 4 else 0) else if a = 31 then (if i = 3 then 1 else if i = 4 then 1 else 0) else if a = 36 then (if i = 5 then 1 else 0) else if a = 51 then (if i = 2 then (-1) else 0) else if a = 53 then (if i = 2 then (-1) else 0) else if a = 55 then (if i = 2 then (-1) else 0) else if a = 57 then (if i = 2 then (-1) else 0) else if a = 59 then (if i = 5 then 4 else 0) else if a = 70 then (if i = 5 then 4 else 0) else if a = 81 then (if i = 5 then 4 else 0) else if a = 92 then (if i = 16 then (-1) else if i = 17 then (-1) else 0) else 0, fun a i => if a = 0 then (if i = 2 then 1 else 0) else if a = 92 then (if i = 4 then 1 else 0) else 0)
def z_92 (V : Ev) : va_E := .inr (9, [.ref (V.2.2.1 + 93), .ref (V.2.2.1 + 94), .int 0, .long 0, .long 1, .ref (V.2.2.1 + 95), .ref (V.2.2.1 + 96), .ref (V.2.2.1 + 97), .ref (V.2.2.1 + 98), .ref (V.2.2.1 + 99), .int 0, .int 0, .int 0, .int 0, .int 0, .int 0, .int (-1), .int (-1), .int 0, .int 0, .ref (V.2.2.1 + 100), .int 0, .int 0, .int 0, .ref (V.2.2.1 + 101), .ref (V.2.2.1 + 102), .ref (V.2.2.1 + 103), .ref (V.2.2.1 + 104), .ref (V.2.2.1 + 105), .ref (V.2.2.1 + 106), .int 0, .ref (V.2.2.1 + 107), .int 0, .int 0, .ref (V.2.2.1 + 108), .ref (V.2.2.1 + 109), .ref (V.2.2.1 + 110), .int 0, .int 0])
def z_93 (V : Ev) : va_E := .inl (V.2.1 0, 2060, .inl (fun _ => 0))
def z_94 (V : Ev) : va_E := .inl (V.2.1 1, 60, .inr (.inl (fun _ => 0)))
def z_95 (V : Ev) : va_E := .inl (V.2.1 0, 4, .inl (fun _ => 0))
def z_96 (V : Ev) : va_E := .inl (V.2.1 0, 4, .inl (upd (upd (upd (upd ((fun _ => 0)) (tn 0) (-1)) (tn 1) (-1)) (tn 2) (-1)) (tn 3) (-1)))
def z_97 (V : Ev) : va_E := .inl (V.2.1 1, 240, .inr (.inl (fun _ => 0)))
def z_98 (V : Ev) : va_E := .inl (V.2.1 2, 900, .inl (fun _ => 0))
def z_99 (V : Ev) : va_E := .inl (V.2.1 2, 900, .inl (fun _ => 0))
def z_100 (V : Ev) : va_E := .inl (V.2.1 0, 3, .inl (fun _ => 0))
def z_101 (V : Ev) : va_E := .inl (V.2.1 0, 5040, .inl (fun _ => 0))
def z_102 (V : Ev) : va_E := .inl (V.2.1 3, 4096, .inl (fun _ => 0))
def z_103 (V : Ev) : va_E := .inl (V.2.1 3, 5040, .inl (fun _ => 0))
def z_104 (V : Ev) : va_E := .inl (V.2.1 0, 4, .inl (fun _ => 0))
def z_105 (V : Ev) : va_E := .inl (V.2.1 0, 6, .inl (fun _ => 0))
def z_106 (V : Ev) : va_E := .inl (V.2.1 0, 6, .inl (fun _ => 0))
def z_107 (V : Ev) : va_E := .inl (V.2.1 1, 6, .inr (.inl (fun _ => 0)))
def z_108 (V : Ev) : va_E := .inl (V.2.1 0, 60, .inl (fun _ => 0))
def z_109 (V : Ev) : va_E := .inl (V.2.1 0, 5, .inl (fun _ => 0))
def z_110 (V : Ev) : va_E := .inl (V.2.1 0, 5, .inl (fun _ => 0))
def entl (V : Ev) (σ : St) : List va_E := shp.mapIdx (fun k s => ent V (σ.1 k) (σ.2 k) k s)
theorem wd_mkw (V : Ev) (σ : St) : wd V σ = mkw V (entl V σ) := by
  unfold wd mkw entl
  rw [List.mapIdx_mapIdx]
  rfl
theorem entl_at (V : Ev) (σ : St) {k : Nat} {s : Sh} (hs : shp[k]? = some s) : (entl V σ)[k]? = some (ent V (σ.1 k) (σ.2 k) k s) := by
  unfold entl; rw [List.getElem?_mapIdx, hs]; rfl
theorem fz_0 (V : Ev) : z_0 V = ent V (ini.1 0) (ini.2 0) 0 (.inl (8, [0, 1, 1, 3, 4, 9, 13, 17, 24, 31, 32, 0, 33, 37, 38, 49, 51])) := by
  unfold z_0 ent
  dsimp only
  simp only [List.mapIdx_cons, List.mapIdx_nil]
  rfl
theorem fz_1 (V : Ev) : z_1 V = ent V (ini.1 1) (ini.2 1) 1 (.inr (4, 4)) := rfl
theorem fz_2 (V : Ev) : z_2 V = ent V (ini.1 2) (ini.2 2) 2 (.inl (4, [5, 0, 0, 6, 7, 8, 0, 0, 1, 0, 0])) := rfl
theorem fz_3 (V : Ev) : z_3 V = ent V (ini.1 3) (ini.2 3) 3 (.inr (2, 900)) := rfl
theorem fz_4 (V : Ev) : z_4 V = ent V (ini.1 4) (ini.2 4) 4 (.inr (0, 901)) := rfl
theorem fz_5 (V : Ev) : z_5 V = ent V (ini.1 5) (ini.2 5) 5 (.inr (0, 901)) := rfl
theorem fz_6 (V : Ev) : z_6 V = ent V (ini.1 6) (ini.2 6) 6 (.inr (1, 901)) := rfl
theorem fz_7 (V : Ev) : z_7 V = ent V (ini.1 7) (ini.2 7) 7 (.inl (1, [10, 11, 12, 0, 0, 0])) := rfl
theorem fz_8 (V : Ev) : z_8 V = ent V (ini.1 8) (ini.2 8) 8 (.inr (0, 12)) := rfl
theorem fz_9 (V : Ev) : z_9 V = ent V (ini.1 9) (ini.2 9) 9 (.inr (0, 12)) := rfl
theorem fz_10 (V : Ev) : z_10 V = ent V (ini.1 10) (ini.2 10) 10 (.inr (1, 12)) := rfl
theorem fz_11 (V : Ev) : z_11 V = ent V (ini.1 11) (ini.2 11) 11 (.inl (1, [14, 15, 16, 0, 0, 0])) := rfl
theorem fz_12 (V : Ev) : z_12 V = ent V (ini.1 12) (ini.2 12) 12 (.inr (0, 12)) := rfl
theorem fz_13 (V : Ev) : z_13 V = ent V (ini.1 13) (ini.2 13) 13 (.inr (0, 12)) := rfl
theorem fz_14 (V : Ev) : z_14 V = ent V (ini.1 14) (ini.2 14) 14 (.inr (1, 12)) := rfl
theorem fz_15 (V : Ev) : z_15 V = ent V (ini.1 15) (ini.2 15) 15 (.inl (2, [18, 19, 20, 21, 22, 23, 0, 0, 0])) := rfl
theorem fz_16 (V : Ev) : z_16 V = ent V (ini.1 16) (ini.2 16) 16 (.inr (0, 60)) := rfl
theorem fz_17 (V : Ev) : z_17 V = ent V (ini.1 17) (ini.2 17) 17 (.inr (0, 60)) := rfl
theorem fz_18 (V : Ev) : z_18 V = ent V (ini.1 18) (ini.2 18) 18 (.inr (0, 60)) := rfl
theorem fz_19 (V : Ev) : z_19 V = ent V (ini.1 19) (ini.2 19) 19 (.inr (0, 60)) := rfl
theorem fz_20 (V : Ev) : z_20 V = ent V (ini.1 20) (ini.2 20) 20 (.inr (0, 60)) := rfl
theorem fz_21 (V : Ev) : z_21 V = ent V (ini.1 21) (ini.2 21) 21 (.inr (0, 60)) := rfl
theorem fz_22 (V : Ev) : z_22 V = ent V (ini.1 22) (ini.2 22) 22 (.inl (2, [25, 26, 27, 28, 29, 30, 0, 0, 0])) := rfl
theorem fz_23 (V : Ev) : z_23 V = ent V (ini.1 23) (ini.2 23) 23 (.inr (0, 60)) := rfl
theorem fz_24 (V : Ev) : z_24 V = ent V (ini.1 24) (ini.2 24) 24 (.inr (0, 60)) := rfl
theorem fz_25 (V : Ev) : z_25 V = ent V (ini.1 25) (ini.2 25) 25 (.inr (0, 60)) := rfl
theorem fz_26 (V : Ev) : z_26 V = ent V (ini.1 26) (ini.2 26) 26 (.inr (0, 60)) := rfl
theorem fz_27 (V : Ev) : z_27 V = ent V (ini.1 27) (ini.2 27) 27 (.inr (0, 60)) := rfl
theorem fz_28 (V : Ev) : z_28 V = ent V (ini.1 28) (ini.2 28) 28 (.inr (0, 60)) := rfl
theorem fz_29 (V : Ev) : z_29 V = ent V (ini.1 29) (ini.2 29) 29 (.inr (5, 3)) := rfl
theorem fz_30 (V : Ev) : z_30 V = ent V (ini.1 30) (ini.2 30) 30 (.inr (6, 3)) := rfl
theorem fz_31 (V : Ev) : z_31 V = ent V (ini.1 31) (ini.2 31) 31 (.inl (5, [34, 35, 36, 0, 0])) := rfl
theorem fz_32 (V : Ev) : z_32 V = ent V (ini.1 32) (ini.2 32) 32 (.inr (1, 79)) := rfl
theorem fz_33 (V : Ev) : z_33 V = ent V (ini.1 33) (ini.2 33) 33 (.inr (1, 79)) := rfl
theorem fz_34 (V : Ev) : z_34 V = ent V (ini.1 34) (ini.2 34) 34 (.inr (1, 64)) := rfl
theorem fz_35 (V : Ev) : z_35 V = ent V (ini.1 35) (ini.2 35) 35 (.inl (7, [0, 0, 0, 0])) := rfl
theorem fz_36 (V : Ev) : z_36 V = ent V (ini.1 36) (ini.2 36) 36 (.inl (0, [39, 40, 41, 0, 0, 0])) := rfl
theorem fz_37 (V : Ev) : z_37 V = ent V (ini.1 37) (ini.2 37) 37 (.inr (0, 6)) := rfl
theorem fz_38 (V : Ev) : z_38 V = ent V (ini.1 38) (ini.2 38) 38 (.inr (0, 6)) := rfl
theorem fz_39 (V : Ev) : z_39 V = ent V (ini.1 39) (ini.2 39) 39 (.inr (7, 7)) := rfl
theorem fz_40 (V : Ev) : z_40 V = ent V (ini.1 40) (ini.2 40) 40 (.inr (1, 79)) := rfl
theorem fz_41 (V : Ev) : z_41 V = ent V (ini.1 41) (ini.2 41) 41 (.inr (1, 79)) := rfl
theorem fz_42 (V : Ev) : z_42 V = ent V (ini.1 42) (ini.2 42) 42 (.inr (1, 79)) := rfl
theorem fz_43 (V : Ev) : z_43 V = ent V (ini.1 43) (ini.2 43) 43 (.inr (1, 79)) := rfl
theorem fz_44 (V : Ev) : z_44 V = ent V (ini.1 44) (ini.2 44) 44 (.inr (1, 79)) := rfl
theorem fz_45 (V : Ev) : z_45 V = ent V (ini.1 45) (ini.2 45) 45 (.inr (1, 79)) := rfl
theorem fz_46 (V : Ev) : z_46 V = ent V (ini.1 46) (ini.2 46) 46 (.inr (1, 79)) := rfl
theorem fz_47 (V : Ev) : z_47 V = ent V (ini.1 47) (ini.2 47) 47 (.inl (3, [50, 0, 0, 0, 0, 0, 0, 0, 0])) := rfl
theorem fz_48 (V : Ev) : z_48 V = ent V (ini.1 48) (ini.2 48) 48 (.inr (0, 60)) := rfl
theorem fz_49 (V : Ev) : z_49 V = ent V (ini.1 49) (ini.2 49) 49 (.inl (3, [52, 0, 0, 0, 0, 0, 0, 0, 0])) := rfl
theorem fz_50 (V : Ev) : z_50 V = ent V (ini.1 50) (ini.2 50) 50 (.inr (0, 60)) := rfl
theorem fz_51 (V : Ev) : z_51 V = ent V (ini.1 51) (ini.2 51) 51 (.inl (6, [54, 0, 0])) := rfl
theorem fz_52 (V : Ev) : z_52 V = ent V (ini.1 52) (ini.2 52) 52 (.inr (1, 60)) := rfl
theorem fz_53 (V : Ev) : z_53 V = ent V (ini.1 53) (ini.2 53) 53 (.inl (6, [56, 0, 0])) := rfl
theorem fz_54 (V : Ev) : z_54 V = ent V (ini.1 54) (ini.2 54) 54 (.inr (1, 60)) := rfl
theorem fz_55 (V : Ev) : z_55 V = ent V (ini.1 55) (ini.2 55) 55 (.inl (6, [58, 0, 0])) := rfl
theorem fz_56 (V : Ev) : z_56 V = ent V (ini.1 56) (ini.2 56) 56 (.inr (1, 60)) := rfl
theorem fz_57 (V : Ev) : z_57 V = ent V (ini.1 57) (ini.2 57) 57 (.inl (6, [60, 0, 0])) := rfl
theorem fz_58 (V : Ev) : z_58 V = ent V (ini.1 58) (ini.2 58) 58 (.inr (1, 60)) := rfl
theorem fz_59 (V : Ev) : z_59 V = ent V (ini.1 59) (ini.2 59) 59 (.inl (1, [62, 63, 64, 0, 0, 0])) := rfl
theorem fz_60 (V : Ev) : z_60 V = ent V (ini.1 60) (ini.2 60) 60 (.inr (0, 12)) := rfl
theorem fz_61 (V : Ev) : z_61 V = ent V (ini.1 61) (ini.2 61) 61 (.inr (0, 12)) := rfl
theorem fz_62 (V : Ev) : z_62 V = ent V (ini.1 62) (ini.2 62) 62 (.inr (1, 12)) := rfl
theorem fz_63 (V : Ev) : z_63 V = ent V (ini.1 63) (ini.2 63) 63 (.inl (2, [66, 67, 68, 69, 70, 71, 0, 0, 0])) := rfl
theorem fz_64 (V : Ev) : z_64 V = ent V (ini.1 64) (ini.2 64) 64 (.inr (0, 60)) := rfl
theorem fz_65 (V : Ev) : z_65 V = ent V (ini.1 65) (ini.2 65) 65 (.inr (0, 60)) := rfl
theorem fz_66 (V : Ev) : z_66 V = ent V (ini.1 66) (ini.2 66) 66 (.inr (0, 60)) := rfl
theorem fz_67 (V : Ev) : z_67 V = ent V (ini.1 67) (ini.2 67) 67 (.inr (0, 60)) := rfl
theorem fz_68 (V : Ev) : z_68 V = ent V (ini.1 68) (ini.2 68) 68 (.inr (0, 60)) := rfl
theorem fz_69 (V : Ev) : z_69 V = ent V (ini.1 69) (ini.2 69) 69 (.inr (0, 60)) := rfl
theorem fz_70 (V : Ev) : z_70 V = ent V (ini.1 70) (ini.2 70) 70 (.inl (1, [73, 74, 75, 0, 0, 0])) := rfl
theorem fz_71 (V : Ev) : z_71 V = ent V (ini.1 71) (ini.2 71) 71 (.inr (0, 12)) := rfl
theorem fz_72 (V : Ev) : z_72 V = ent V (ini.1 72) (ini.2 72) 72 (.inr (0, 12)) := rfl
theorem fz_73 (V : Ev) : z_73 V = ent V (ini.1 73) (ini.2 73) 73 (.inr (1, 12)) := rfl
theorem fz_74 (V : Ev) : z_74 V = ent V (ini.1 74) (ini.2 74) 74 (.inl (2, [77, 78, 79, 80, 81, 82, 0, 0, 0])) := rfl
theorem fz_75 (V : Ev) : z_75 V = ent V (ini.1 75) (ini.2 75) 75 (.inr (0, 60)) := rfl
theorem fz_76 (V : Ev) : z_76 V = ent V (ini.1 76) (ini.2 76) 76 (.inr (0, 60)) := rfl
theorem fz_77 (V : Ev) : z_77 V = ent V (ini.1 77) (ini.2 77) 77 (.inr (0, 60)) := rfl
theorem fz_78 (V : Ev) : z_78 V = ent V (ini.1 78) (ini.2 78) 78 (.inr (0, 60)) := rfl
theorem fz_79 (V : Ev) : z_79 V = ent V (ini.1 79) (ini.2 79) 79 (.inr (0, 60)) := rfl
theorem fz_80 (V : Ev) : z_80 V = ent V (ini.1 80) (ini.2 80) 80 (.inr (0, 60)) := rfl
theorem fz_81 (V : Ev) : z_81 V = ent V (ini.1 81) (ini.2 81) 81 (.inl (1, [84, 85, 86, 0, 0, 0])) := rfl
theorem fz_82 (V : Ev) : z_82 V = ent V (ini.1 82) (ini.2 82) 82 (.inr (0, 12)) := rfl
theorem fz_83 (V : Ev) : z_83 V = ent V (ini.1 83) (ini.2 83) 83 (.inr (0, 12)) := rfl
theorem fz_84 (V : Ev) : z_84 V = ent V (ini.1 84) (ini.2 84) 84 (.inr (1, 12)) := rfl
theorem fz_85 (V : Ev) : z_85 V = ent V (ini.1 85) (ini.2 85) 85 (.inl (2, [88, 89, 90, 91, 92, 93, 0, 0, 0])) := rfl
theorem fz_86 (V : Ev) : z_86 V = ent V (ini.1 86) (ini.2 86) 86 (.inr (0, 60)) := rfl
theorem fz_87 (V : Ev) : z_87 V = ent V (ini.1 87) (ini.2 87) 87 (.inr (0, 60)) := rfl
theorem fz_88 (V : Ev) : z_88 V = ent V (ini.1 88) (ini.2 88) 88 (.inr (0, 60)) := rfl
theorem fz_89 (V : Ev) : z_89 V = ent V (ini.1 89) (ini.2 89) 89 (.inr (0, 60)) := rfl
theorem fz_90 (V : Ev) : z_90 V = ent V (ini.1 90) (ini.2 90) 90 (.inr (0, 60)) := rfl
theorem fz_91 (V : Ev) : z_91 V = ent V (ini.1 91) (ini.2 91) 91 (.inr (0, 60)) := rfl
theorem fz_92 (V : Ev) : z_92 V = ent V (ini.1 92) (ini.2 92) 92 (.inl (9, [95, 96, 0, 1, 1, 97, 98, 99, 100, 101, 0, 0, 0, 0, 0, 0, 0, 0, 0, 0, 102, 0, 0, 0, 103, 104, 105, 106, 107, 108, 0, 109, 0, 0, 110, 111, 112, 0, 0])) := by
  unfold z_92 ent
  dsimp only
  simp only [List.mapIdx_cons, List.mapIdx_nil]
  rfl
theorem fz_93 (V : Ev) : z_93 V = ent V (ini.1 93) (ini.2 93) 93 (.inr (0, 2060)) := rfl
theorem fz_94 (V : Ev) : z_94 V = ent V (ini.1 94) (ini.2 94) 94 (.inr (1, 60)) := rfl
theorem fz_95 (V : Ev) : z_95 V = ent V (ini.1 95) (ini.2 95) 95 (.inr (0, 4)) := rfl
theorem fz_96 (V : Ev) : z_96 V = ent V (ini.1 96) (ini.2 96) 96 (.inr (0, 4)) := rfl
theorem fz_97 (V : Ev) : z_97 V = ent V (ini.1 97) (ini.2 97) 97 (.inr (1, 240)) := rfl
theorem fz_98 (V : Ev) : z_98 V = ent V (ini.1 98) (ini.2 98) 98 (.inr (2, 900)) := rfl
theorem fz_99 (V : Ev) : z_99 V = ent V (ini.1 99) (ini.2 99) 99 (.inr (2, 900)) := rfl
theorem fz_100 (V : Ev) : z_100 V = ent V (ini.1 100) (ini.2 100) 100 (.inr (0, 3)) := rfl
theorem fz_101 (V : Ev) : z_101 V = ent V (ini.1 101) (ini.2 101) 101 (.inr (0, 5040)) := rfl
theorem fz_102 (V : Ev) : z_102 V = ent V (ini.1 102) (ini.2 102) 102 (.inr (3, 4096)) := rfl
theorem fz_103 (V : Ev) : z_103 V = ent V (ini.1 103) (ini.2 103) 103 (.inr (3, 5040)) := rfl
theorem fz_104 (V : Ev) : z_104 V = ent V (ini.1 104) (ini.2 104) 104 (.inr (0, 4)) := rfl
theorem fz_105 (V : Ev) : z_105 V = ent V (ini.1 105) (ini.2 105) 105 (.inr (0, 6)) := rfl
theorem fz_106 (V : Ev) : z_106 V = ent V (ini.1 106) (ini.2 106) 106 (.inr (0, 6)) := rfl
theorem fz_107 (V : Ev) : z_107 V = ent V (ini.1 107) (ini.2 107) 107 (.inr (1, 6)) := rfl
theorem fz_108 (V : Ev) : z_108 V = ent V (ini.1 108) (ini.2 108) 108 (.inr (0, 60)) := rfl
theorem fz_109 (V : Ev) : z_109 V = ent V (ini.1 109) (ini.2 109) 109 (.inr (0, 5)) := rfl
theorem fz_110 (V : Ev) : z_110 V = ent V (ini.1 110) (ini.2 110) 110 (.inr (0, 5)) := rfl
set_option maxRecDepth 100000 in
theorem full_wd (V : Ev) : mkw V [z_0 V, z_1 V, z_2 V, z_3 V, z_4 V, z_5 V, z_6 V, z_7 V, z_8 V, z_9 V, z_10 V, z_11 V, z_12 V, z_13 V, z_14 V, z_15 V, z_16 V, z_17 V, z_18 V, z_19 V, z_20 V, z_21 V, z_22 V, z_23 V, z_24 V, z_25 V, z_26 V, z_27 V, z_28 V, z_29 V, z_30 V, z_31 V, z_32 V, z_33 V, z_34 V, z_35 V, z_36 V, z_37 V, z_38 V, z_39 V, z_40 V, z_41 V, z_42 V, z_43 V, z_44 V, z_45 V, z_46 V, z_47 V, z_48 V, z_49 V, z_50 V, z_51 V, z_52 V, z_53 V, z_54 V, z_55 V, z_56 V, z_57 V, z_58 V, z_59 V, z_60 V, z_61 V, z_62 V, z_63 V, z_64 V, z_65 V, z_66 V, z_67 V, z_68 V, z_69 V, z_70 V, z_71 V, z_72 V, z_73 V, z_74 V, z_75 V, z_76 V, z_77 V, z_78 V, z_79 V, z_80 V, z_81 V, z_82 V, z_83 V, z_84 V, z_85 V, z_86 V, z_87 V, z_88 V, z_89 V, z_90 V, z_91 V, z_92 V, z_93 V, z_94 V, z_95 V, z_96 V, z_97 V, z_98 V, z_99 V, z_100 V, z_101 V, z_102 V, z_103 V, z_104 V, z_105 V, z_106 V, z_107 V, z_108 V, z_109 V, z_110 V] = wd V ini := by
  rw [wd_mkw]
  refine congrArg (mkw V) ?_
  apply List.ext_getElem?
  intro i
  match i with
  | 0 => exact (congrArg some (fz_0 V)).trans (entl_at V ini s_0).symm
  | 1 => exact (congrArg some (fz_1 V)).trans (entl_at V ini s_1).symm
  | 2 => exact (congrArg some (fz_2 V)).trans (entl_at V ini s_2).symm
  | 3 => exact (congrArg some (fz_3 V)).trans (entl_at V ini s_3).symm
  | 4 => exact (congrArg some (fz_4 V)).trans (entl_at V ini s_4).symm
  | 5 => exact (congrArg some (fz_5 V)).trans (entl_at V ini s_5).symm
  | 6 => exact (congrArg some (fz_6 V)).trans (entl_at V ini s_6).symm
  | 7 => exact (congrArg some (fz_7 V)).trans (entl_at V ini s_7).symm
  | 8 => exact (congrArg some (fz_8 V)).trans (entl_at V ini s_8).symm
  | 9 => exact (congrArg some (fz_9 V)).trans (entl_at V ini s_9).symm
  | 10 => exact (congrArg some (fz_10 V)).trans (entl_at V ini s_10).symm
  | 11 => exact (congrArg some (fz_11 V)).trans (entl_at V ini s_11).symm
  | 12 => exact (congrArg some (fz_12 V)).trans (entl_at V ini s_12).symm
  | 13 => exact (congrArg some (fz_13 V)).trans (entl_at V ini s_13).symm
  | 14 => exact (congrArg some (fz_14 V)).trans (entl_at V ini s_14).symm
  | 15 => exact (congrArg some (fz_15 V)).trans (entl_at V ini s_15).symm
  | 16 => exact (congrArg some (fz_16 V)).trans (entl_at V ini s_16).symm
  | 17 => exact (congrArg some (fz_17 V)).trans (entl_at V ini s_17).symm
  | 18 => exact (congrArg some (fz_18 V)).trans (entl_at V ini s_18).symm
  | 19 => exact (congrArg some (fz_19 V)).trans (entl_at V ini s_19).symm
  | 20 => exact (congrArg some (fz_20 V)).trans (entl_at V ini s_20).symm
  | 21 => exact (congrArg some (fz_21 V)).trans (entl_at V ini s_21).symm
  | 22 => exact (congrArg some (fz_22 V)).trans (entl_at V ini s_22).symm
  | 23 => exact (congrArg some (fz_23 V)).trans (entl_at V ini s_23).symm
  | 24 => exact (congrArg some (fz_24 V)).trans (entl_at V ini s_24).symm
  | 25 => exact (congrArg some (fz_25 V)).trans (entl_at V ini s_25).symm
  | 26 => exact (congrArg some (fz_26 V)).trans (entl_at V ini s_26).symm
  | 27 => exact (congrArg some (fz_27 V)).trans (entl_at V ini s_27).symm
  | 28 => exact (congrArg some (fz_28 V)).trans (entl_at V ini s_28).symm
  | 29 => exact (congrArg some (fz_29 V)).trans (entl_at V ini s_29).symm
  | 30 => exact (congrArg some (fz_30 V)).trans (entl_at V ini s_30).symm
  | 31 => exact (congrArg some (fz_31 V)).trans (entl_at V ini s_31).symm
  | 32 => exact (congrArg some (fz_32 V)).trans (entl_at V ini s_32).symm
  | 33 => exact (congrArg some (fz_33 V)).trans (entl_at V ini s_33).symm
  | 34 => exact (congrArg some (fz_34 V)).trans (entl_at V ini s_34).symm
  | 35 => exact (congrArg some (fz_35 V)).trans (entl_at V ini s_35).symm
  | 36 => exact (congrArg some (fz_36 V)).trans (entl_at V ini s_36).symm
  | 37 => exact (congrArg some (fz_37 V)).trans (entl_at V ini s_37).symm
  | 38 => exact (congrArg some (fz_38 V)).trans (entl_at V ini s_38).symm
  | 39 => exact (congrArg some (fz_39 V)).trans (entl_at V ini s_39).symm
  | 40 => exact (congrArg some (fz_40 V)).trans (entl_at V ini s_40).symm
  | 41 => exact (congrArg some (fz_41 V)).trans (entl_at V ini s_41).symm
  | 42 => exact (congrArg some (fz_42 V)).trans (entl_at V ini s_42).symm
  | 43 => exact (congrArg some (fz_43 V)).trans (entl_at V ini s_43).symm
  | 44 => exact (congrArg some (fz_44 V)).trans (entl_at V ini s_44).symm
  | 45 => exact (congrArg some (fz_45 V)).trans (entl_at V ini s_45).symm
  | 46 => exact (congrArg some (fz_46 V)).trans (entl_at V ini s_46).symm
  | 47 => exact (congrArg some (fz_47 V)).trans (entl_at V ini s_47).symm
  | 48 => exact (congrArg some (fz_48 V)).trans (entl_at V ini s_48).symm
  | 49 => exact (congrArg some (fz_49 V)).trans (entl_at V ini s_49).symm
  | 50 => exact (congrArg some (fz_50 V)).trans (entl_at V ini s_50).symm
  | 51 => exact (congrArg some (fz_51 V)).trans (entl_at V ini s_51).symm
  | 52 => exact (congrArg some (fz_52 V)).trans (entl_at V ini s_52).symm
  | 53 => exact (congrArg some (fz_53 V)).trans (entl_at V ini s_53).symm
  | 54 => exact (congrArg some (fz_54 V)).trans (entl_at V ini s_54).symm
  | 55 => exact (congrArg some (fz_55 V)).trans (entl_at V ini s_55).symm
  | 56 => exact (congrArg some (fz_56 V)).trans (entl_at V ini s_56).symm
  | 57 => exact (congrArg some (fz_57 V)).trans (entl_at V ini s_57).symm
  | 58 => exact (congrArg some (fz_58 V)).trans (entl_at V ini s_58).symm
  | 59 => exact (congrArg some (fz_59 V)).trans (entl_at V ini s_59).symm
  | 60 => exact (congrArg some (fz_60 V)).trans (entl_at V ini s_60).symm
  | 61 => exact (congrArg some (fz_61 V)).trans (entl_at V ini s_61).symm
  | 62 => exact (congrArg some (fz_62 V)).trans (entl_at V ini s_62).symm
  | 63 => exact (congrArg some (fz_63 V)).trans (entl_at V ini s_63).symm
  | 64 => exact (congrArg some (fz_64 V)).trans (entl_at V ini s_64).symm
  | 65 => exact (congrArg some (fz_65 V)).trans (entl_at V ini s_65).symm
  | 66 => exact (congrArg some (fz_66 V)).trans (entl_at V ini s_66).symm
  | 67 => exact (congrArg some (fz_67 V)).trans (entl_at V ini s_67).symm
  | 68 => exact (congrArg some (fz_68 V)).trans (entl_at V ini s_68).symm
  | 69 => exact (congrArg some (fz_69 V)).trans (entl_at V ini s_69).symm
  | 70 => exact (congrArg some (fz_70 V)).trans (entl_at V ini s_70).symm
  | 71 => exact (congrArg some (fz_71 V)).trans (entl_at V ini s_71).symm
  | 72 => exact (congrArg some (fz_72 V)).trans (entl_at V ini s_72).symm
  | 73 => exact (congrArg some (fz_73 V)).trans (entl_at V ini s_73).symm
  | 74 => exact (congrArg some (fz_74 V)).trans (entl_at V ini s_74).symm
  | 75 => exact (congrArg some (fz_75 V)).trans (entl_at V ini s_75).symm
  | 76 => exact (congrArg some (fz_76 V)).trans (entl_at V ini s_76).symm
  | 77 => exact (congrArg some (fz_77 V)).trans (entl_at V ini s_77).symm
  | 78 => exact (congrArg some (fz_78 V)).trans (entl_at V ini s_78).symm
  | 79 => exact (congrArg some (fz_79 V)).trans (entl_at V ini s_79).symm
  | 80 => exact (congrArg some (fz_80 V)).trans (entl_at V ini s_80).symm
  | 81 => exact (congrArg some (fz_81 V)).trans (entl_at V ini s_81).symm
  | 82 => exact (congrArg some (fz_82 V)).trans (entl_at V ini s_82).symm
  | 83 => exact (congrArg some (fz_83 V)).trans (entl_at V ini s_83).symm
  | 84 => exact (congrArg some (fz_84 V)).trans (entl_at V ini s_84).symm
  | 85 => exact (congrArg some (fz_85 V)).trans (entl_at V ini s_85).symm
  | 86 => exact (congrArg some (fz_86 V)).trans (entl_at V ini s_86).symm
  | 87 => exact (congrArg some (fz_87 V)).trans (entl_at V ini s_87).symm
  | 88 => exact (congrArg some (fz_88 V)).trans (entl_at V ini s_88).symm
  | 89 => exact (congrArg some (fz_89 V)).trans (entl_at V ini s_89).symm
  | 90 => exact (congrArg some (fz_90 V)).trans (entl_at V ini s_90).symm
  | 91 => exact (congrArg some (fz_91 V)).trans (entl_at V ini s_91).symm
  | 92 => exact (congrArg some (fz_92 V)).trans (entl_at V ini s_92).symm
  | 93 => exact (congrArg some (fz_93 V)).trans (entl_at V ini s_93).symm
  | 94 => exact (congrArg some (fz_94 V)).trans (entl_at V ini s_94).symm
  | 95 => exact (congrArg some (fz_95 V)).trans (entl_at V ini s_95).symm
  | 96 => exact (congrArg some (fz_96 V)).trans (entl_at V ini s_96).symm
  | 97 => exact (congrArg some (fz_97 V)).trans (entl_at V ini s_97).symm
  | 98 => exact (congrArg some (fz_98 V)).trans (entl_at V ini s_98).symm
  | 99 => exact (congrArg some (fz_99 V)).trans (entl_at V ini s_99).symm
  | 100 => exact (congrArg some (fz_100 V)).trans (entl_at V ini s_100).symm
  | 101 => exact (congrArg some (fz_101 V)).trans (entl_at V ini s_101).symm
  | 102 => exact (congrArg some (fz_102 V)).trans (entl_at V ini s_102).symm
  | 103 => exact (congrArg some (fz_103 V)).trans (entl_at V ini s_103).symm
  | 104 => exact (congrArg some (fz_104 V)).trans (entl_at V ini s_104).symm
  | 105 => exact (congrArg some (fz_105 V)).trans (entl_at V ini s_105).symm
  | 106 => exact (congrArg some (fz_106 V)).trans (entl_at V ini s_106).symm
  | 107 => exact (congrArg some (fz_107 V)).trans (entl_at V ini s_107).symm
  | 108 => exact (congrArg some (fz_108 V)).trans (entl_at V ini s_108).symm
  | 109 => exact (congrArg some (fz_109 V)).trans (entl_at V ini s_109).symm
  | 110 => exact (congrArg some (fz_110 V)).trans (entl_at V ini s_110).symm
  | i + 111 => rw [List.getElem?_eq_none (by simp), List.getElem?_eq_none (by unfold entl; rw [List.length_mapIdx]; exact Nat.le_add_left _ _)]
def Rm (V : Ev) (d : Nat) (M : Mi) (av : List Value) (C : List va_E) (σ : St) (mc ms : Nat) : Prop := ∀ l : Launch, Met l M.1 (ww M) (rmc d mc ms) (Pk V av C) (Qf V (none, σ)) mc ms (AA V)
theorem Rm.of {V : Ev} {d mc ms : Nat} {M : Mi} {av : List Value} {C : List va_E} {σ : St} (hy : plainName M.1.cls = true) (hi : M.1.name = "<init>") (hn : (lg_sl av).length ≤ M.2.2.1) (body : ∀ Γ : Cn, Ci V Γ M C.length → Gc V Γ M (rmc d mc ms, 0, 0, MQ Γ.2.2.2.2.2.2.1 (Qf V (none, σ)) Γ.2.2.2.2.2.1 Γ.2.2.2.1 mc ms (AA V)) 0 (lv_args 0 av) [] C) : Rm V d M av C σ mc ms := by
  intro l
  refine Met.ofW (cc := M.2.1) (maxL := M.2.2.1) (ret := M.2.2.2) hy rfl ?_
  intro p e s m args below meth c s₁ B hml hv
  obtain ⟨rfl, hsz, hP, hW, hov⟩ := hv
  have hts := atoms_spec (ws := ww M) B.pre
  have hown : s.vm.findClass M.1.cls = some m.cls := findClass_of_methodNamed B.named
  have hnm : meth.name = "<init>" := ((name_of_methodNamed B.named B.method).1).trans hi
  have key := body (p, l, e, s, m, av.toArray, below, meth, c) ⟨⟨B.exec, B.bytes, hml, hown, fun w hw => hts w (List.mem_cons_of_mem _ hw), B.returns, B.notSynchronized, hW⟩, hnm, hsz, hov⟩
  rw [lg_entry_eq]
  exact key s.heap [] _ hP va_S.rf (lv_entry av hn)
section GS
variable {V : Ev} {Γ : Cn} {M : Mi} {R : Room} {k9 n9 : Nat} {Q : State → Prop} {pc : Nat} {lv : List (Nat × Value)} {st : List Value} {C : List va_E} {σ : St}
theorem g_vretZ {fin : Option Value × St} (X : Cx V Γ M) (hr : M.2.2.2 = none) (hf : (none, σ) = fin) (hd : decode M.2.1 pc = .ok (.return_, 1)) : Go V Γ M (R, k9, n9, MQ Γ.2.2.2.2.2.2.1 (Qf V fin) Γ.2.2.2.2.2.1 Γ.2.2.2.1 k9 n9 (AA V)) pc lv [] σ := by
  intro H locs ls hP hS hl
  obtain ⟨hx, hb, hml, hown, hts, hrr, hlk, hWk⟩ := X
  subst hf
  exact W.vret hx hb (hrr.trans hr) (fun t ht hW => ⟨⟨rfl, by rw [ht]; exact hP⟩, hS.F ht⟩) hS.2.2 hd hlk
theorem c_callM {d' index k mc ms n0 : Nat} {M' : Mi} {σ' : St} (X : Cx V Γ M) (hov : Aov Γ.2.2.2.1) (h0 : Γ.2.2.2.1.heap.size = V.2.2.1 + n0) (hk9 : n0 + k9 = C.length) (hL : Lk M.1.cls index M') (hO : Ok2 M' 0) (hI : Cond.instanceMethod M'.1 ∈ lw_good) (hni : M'.1.name = "<init>") (hrn : M'.2.2.2 = none) (hM : Rm V d' M' [.ref (V.2.2.1 + k)] C σ' mc ms) (hR : d' + 1 ≤ R.frames ∧ 8 + (M'.2.2.1 + 11) + 100 * d' ≤ R.locals) (hzz : k9 + mc ≤ R.cells ∧ n9 + ms ≤ R.slots) (hW : (st.map fun v => v.category).sum ≤ 8) (hd : decode M.2.1 pc = .ok (.invokespecial index, 3))
    (kk : Go V Γ M (R, k9 + mc, n9 + ms, Q) (pc + 3) lv st σ') : Gc V Γ M (R, k9, n9, Q) pc lv (.ref (V.2.2.1 + k) :: st) C := by
  intro H locs ls hP hS hl
  refine W.size (fun hu => ?_)
  have hz := mkw_size h0 hk9 hP hS hu
  obtain ⟨hx, hb, hml, hown, hts, hrr, hlk, hWk⟩ := X
  obtain ⟨o1, o2, o3, o4, o5⟩ := hO
  obtain ⟨y, bts, mL, rt⟩ := M'
  dsimp only at hni hrn o1 o2 o3 o4 o5 hI hR hL hM
  subst hrn
  have hpar : ∀ sig, parseMethodDescriptor y.desc = some sig → 0 = sig.parameters.length := fun sig h => by rw [h] at o5; exact (Option.some.inj o5).symm
  have hpre : PreS Γ.2.2.2.1 H (Pk V [.ref (V.2.2.1 + k)] C) [.ref (V.2.2.1 + k)] := ⟨Pk_blind V _ C, fun U hU hW => ⟨rfl, by rw [hU]; exact hz, by rw [hU]; exact hP, Wk.call hW (fun q h1 h2 => by rw [hU]; exact hS.2.1 q h1 h2) hWk, Aov.moved hW.alike hov⟩⟩
  have hmon : 2 * (F0 Γ.2.2.2.2.1 pc ls (.ref (V.2.2.1 + k) :: st)).monitorRoom + (st.map fun v => v.category).sum ≤ 8 := by show 2 * 0 + _ ≤ 8; omega
  have hrun : va_Run Γ.1 Γ.2.1 Γ.2.2.1 R Γ.2.2.2.1 Γ.2.2.2.2.1 Γ.2.2.2.2.2.1 Γ.2.2.2.2.2.2.1 Γ.2.2.2.2.2.2.2.1 Γ.2.2.2.2.2.2.2.2 H locs k9 n9 mc ms (F0 Γ.2.2.2.2.1 pc ls (.ref (V.2.2.1 + k) :: st)) st (Qf V (none, σ') #[.ref (V.2.2.1 + k)]) (AA V) := by
    have hpay := ww_pay (M' := (y, bts, mL, none)) hts o1
    rcases hL with hL | ⟨host, hL⟩
    · exact va_runI (As := []) ⟨hx, hb, hml, hown, hts⟩ (hM Γ.2.1) ⟨⟨rfl, rfl, hR.1, hR.2, hpay, List.mem_cons_self, hts _ o1, hts _ o2, ⟨o3, o4⟩, hpar, hts _ hL⟩, hni, hts _ hI⟩ hpre rfl rfl hl.1 rfl hmon hd hzz
    · exact va_runIN (As := []) ⟨hx, hb, hml, hown, hts⟩ (hM Γ.2.1) ⟨⟨⟨rfl, rfl, hR.1, hR.2, hpay, List.mem_cons_self⟩, hts _ o1, hts _ o2, ⟨o3, o4⟩, hpar, va_Nw.use rfl (hWk.2.1 _ hL)⟩, hni, hts _ hI⟩ hpre rfl rfl hl.1 rfl hmon hd hzz
  intro T hT X9
  obtain ⟨v1, st₀, t, T', LL, g0, X', hLL, e1, e2, ⟨⟨hv, hb9⟩, hz9, hk99⟩, stp⟩ := hrun T hT X9
  cases hv
  rw [g0] at hz9 hk99
  obtain ⟨t2, a1, b1⟩ := kk T'.heap (locs ++ LL) ls (by rw [e1]; exact hb9) ⟨Nat.le_trans hS.1 (by rw [e1]; exact hz9), fun q h1 h2 => by rw [e1, hk99 q (Nat.lt_of_lt_of_le h1 hS.1) h2]; exact hS.2.1 q h1 h2, fun q hq => by
      rcases List.mem_append.mp hq with h | h
      · exact hS.2.2 q h
      · exact hLL q h⟩ hl T' rfl X'
  exact ⟨t2, stp t2 a1, b1⟩
end GS
set_option maxRecDepth 100000 in
set_option maxHeartbeats 4000000 in
theorem rc_Mo {V : Ev} {σ : St} (h : Mo_plain ini 0 = some σ) : Rm V 3 M_X12_init [.ref (V.2.2.1 + 92)] [z_0 V, z_1 V, z_2 V, z_3 V, z_4 V, z_5 V, z_6 V, z_7 V, z_8 V, z_9 V, z_10 V, z_11 V, z_12 V, z_13 V, z_14 V, z_15 V, z_16 V, z_17 V, z_18 V, z_19 V, z_20 V, z_21 V, z_22 V, z_23 V, z_24 V, z_25 V, z_26 V, z_27 V, z_28 V, z_29 V, z_30 V, z_31 V, z_32 V, z_33 V, z_34 V, z_35 V, z_36 V, z_37 V, z_38 V, z_39 V, z_40 V, z_41 V, z_42 V, z_43 V, z_44 V, z_45 V, z_46 V, z_47 V, z_48 V, z_49 V, z_50 V, z_51 V, z_52 V, z_53 V, z_54 V, z_55 V, z_56 V, z_57 V, z_58 V, z_59 V, z_60 V, z_61 V, z_62 V, z_63 V, z_64 V, z_65 V, z_66 V, z_67 V, z_68 V, z_69 V, z_70 V, z_71 V, z_72 V, z_73 V, z_74 V, z_75 V, z_76 V, z_77 V, z_78 V, z_79 V, z_80 V, z_81 V, z_82 V, z_83 V, z_84 V, z_85 V, z_86 V, z_87 V, z_88 V, z_89 V, z_90 V, z_91 V, .inr (9, [.null, .null, .int 0, .long 0, .long 0, .null, .null, .null, .null, .null, .int 0, .int 0, .int 0, .int 0, .int 0, .int 0, .int 0, .int 0, .int 0, .int 0, .null, .int 0, .int 0, .int 0, .null, .null, .null, .null, .null, .null, .int 0, .null, .int 0, .int 0, .null, .null, .null, .int 0, .int 0])] σ 18 18439 := by
  refine Rm.of (by decide +kernel) rfl (Nat.le_of_ble_eq_true rfl) (fun Γ X => ?_)
  refine c_aload_n (pc := 0) X.1 0 rfl dX12_init_0 ?_
  refine c_objInit (pc := 1) X.1 k_oi_X12 k_oi2 k_oi3 (Nat.le_of_ble_eq_true rfl) (Nat.le_of_ble_eq_true rfl) dX12_init_1 ?_
  refine c_aload_n (pc := 4) X.1 0 rfl dX12_init_4 ?_
  refine c_sipush (v := 2060) (pc := 5) X.1 (by decide) dX12_init_5 ?_
  refine c_newa (atype := .int) (ty := .int) (N := 2060) (ak := 0) (a0 := .inl (fun _ => 0)) (pc := 8) X.1 X.2.2.1 rfl k_arr_0 rfl (fun _ h => by cases h) rfl (fun _ => rfl) (by decide) (by decide) (Nat.le_of_ble_eq_true rfl) (Nat.le_of_ble_eq_true rfl) (Nat.le_of_ble_eq_true rfl) dX12_init_8 ?_
  refine c_put (k := 92) (pc := 10) [z_0 V, z_1 V, z_2 V, z_3 V, z_4 V, z_5 V, z_6 V, z_7 V, z_8 V, z_9 V, z_10 V, z_11 V, z_12 V, z_13 V, z_14 V, z_15 V, z_16 V, z_17 V, z_18 V, z_19 V, z_20 V, z_21 V, z_22 V, z_23 V, z_24 V, z_25 V, z_26 V, z_27 V, z_28 V, z_29 V, z_30 V, z_31 V, z_32 V, z_33 V, z_34 V, z_35 V, z_36 V, z_37 V, z_38 V, z_39 V, z_40 V, z_41 V, z_42 V, z_43 V, z_44 V, z_45 V, z_46 V, z_47 V, z_48 V, z_49 V, z_50 V, z_51 V, z_52 V, z_53 V, z_54 V, z_55 V, z_56 V, z_57 V, z_58 V, z_59 V, z_60 V, z_61 V, z_62 V, z_63 V, z_64 V, z_65 V, z_66 V, z_67 V, z_68 V, z_69 V, z_70 V, z_71 V, z_72 V, z_73 V, z_74 V, z_75 V, z_76 V, z_77 V, z_78 V, z_79 V, z_80 V, z_81 V, z_82 V, z_83 V, z_84 V, z_85 V, z_86 V, z_87 V, z_88 V, z_89 V, z_90 V, z_91 V, .inr (9, [.ref (V.2.2.1 + 93), .null, .int 0, .long 0, .long 0, .null, .null, .null, .null, .null, .int 0, .int 0, .int 0, .int 0, .int 0, .int 0, .int 0, .int 0, .int 0, .int 0, .null, .int 0, .int 0, .int 0, .null, .null, .null, .null, .null, .null, .int 0, .null, .int 0, .int 0, .null, .null, .null, .int 0, .int 0]), .inl (V.2.1 0, 2060, .inl (fun _ => 0))] X k_fl_X12_7 (dcl_Mo 0 (by decide)) rfl rfl rfl (Nat.le_of_ble_eq_true rfl) rfl dX12_init_10 ?_
  refine c_aload_n (pc := 13) X.1 0 rfl dX12_init_13 ?_
  refine c_bipush (v := 60) (pc := 14) X.1 (by decide) dX12_init_14 ?_
  refine c_newa (atype := .long) (ty := .long) (N := 60) (ak := 1) (a0 := .inr (.inl (fun _ => 0))) (pc := 16) X.1 X.2.2.1 rfl k_arr_1 rfl (fun _ h => by cases h) rfl (fun _ => rfl) (by decide) (by decide) (Nat.le_of_ble_eq_true rfl) (Nat.le_of_ble_eq_true rfl) (Nat.le_of_ble_eq_true rfl) dX12_init_16 ?_
  refine c_put (k := 92) (pc := 18) [z_0 V, z_1 V, z_2 V, z_3 V, z_4 V, z_5 V, z_6 V, z_7 V, z_8 V, z_9 V, z_10 V, z_11 V, z_12 V, z_13 V, z_14 V, z_15 V, z_16 V, z_17 V, z_18 V, z_19 V, z_20 V, z_21 V, z_22 V, z_23 V, z_24 V, z_25 V, z_26 V, z_27 V, z_28 V, z_29 V, z_30 V, z_31 V, z_32 V, z_33 V, z_34 V, z_35 V, z_36 V, z_37 V, z_38 V, z_39 V, z_40 V, z_41 V, z_42 V, z_43 V, z_44 V, z_45 V, z_46 V, z_47 V, z_48 V, z_49 V, z_50 V, z_51 V, z_52 V, z_53 V, z_54 V, z_55 V, z_56 V, z_57 V, z_58 V, z_59 V, z_60 V, z_61 V, z_62 V, z_63 V, z_64 V, z_65 V, z_66 V, z_67 V, z_68 V, z_69 V, z_70 V, z_71 V, z_72 V, z_73 V, z_74 V, z_75 V, z_76 V, z_77 V, z_78 V, z_79 V, z_80 V, z_81 V, z_82 V, z_83 V, z_84 V, z_85 V, z_86 V, z_87 V, z_88 V, z_89 V, z_90 V, z_91 V, .inr (9, [.ref (V.2.2.1 + 93), .ref (V.2.2.1 + 94), .int 0, .long 0, .long 0, .null, .null, .null, .null, .null, .int 0, .int 0, .int 0, .int 0, .int 0, .int 0, .int 0, .int 0, .int 0, .int 0, .null, .int 0, .int 0, .int 0, .null, .null, .null, .null, .null, .null, .int 0, .null, .int 0, .int 0, .null, .null, .null, .int 0, .int 0]), .inl (V.2.1 0, 2060, .inl (fun _ => 0)), .inl (V.2.1 1, 60, .inr (.inl (fun _ => 0)))] X k_fl_X12_13 (dcl_Mo 1 (by decide)) rfl rfl rfl (Nat.le_of_ble_eq_true rfl) rfl dX12_init_18 ?_
  refine c_aload_n (pc := 21) X.1 0 rfl dX12_init_21 ?_
  refine c_lconst (v := 1) (pc := 22) X.1 rfl dX12_init_22 ?_
  refine c_put (k := 92) (pc := 23) [z_0 V, z_1 V, z_2 V, z_3 V, z_4 V, z_5 V, z_6 V, z_7 V, z_8 V, z_9 V, z_10 V, z_11 V, z_12 V, z_13 V, z_14 V, z_15 V, z_16 V, z_17 V, z_18 V, z_19 V, z_20 V, z_21 V, z_22 V, z_23 V, z_24 V, z_25 V, z_26 V, z_27 V, z_28 V, z_29 V, z_30 V, z_31 V, z_32 V, z_33 V, z_34 V, z_35 V, z_36 V, z_37 V, z_38 V, z_39 V, z_40 V, z_41 V, z_42 V, z_43 V, z_44 V, z_45 V, z_46 V, z_47 V, z_48 V, z_49 V, z_50 V, z_51 V, z_52 V, z_53 V, z_54 V, z_55 V, z_56 V, z_57 V, z_58 V, z_59 V, z_60 V, z_61 V, z_62 V, z_63 V, z_64 V, z_65 V, z_66 V, z_67 V, z_68 V, z_69 V, z_70 V, z_71 V, z_72 V, z_73 V, z_74 V, z_75 V, z_76 V, z_77 V, z_78 V, z_79 V, z_80 V, z_81 V, z_82 V, z_83 V, z_84 V, z_85 V, z_86 V, z_87 V, z_88 V, z_89 V, z_90 V, z_91 V, .inr (9, [.ref (V.2.2.1 + 93), .ref (V.2.2.1 + 94), .int 0, .long 0, .long 1, .null, .null, .null, .null, .null, .int 0, .int 0, .int 0, .int 0, .int 0, .int 0, .int 0, .int 0, .int 0, .int 0, .null, .int 0, .int 0, .int 0, .null, .null, .null, .null, .null, .null, .int 0, .null, .int 0, .int 0, .null, .null, .null, .int 0, .int 0]), .inl (V.2.1 0, 2060, .inl (fun _ => 0)), .inl (V.2.1 1, 60, .inr (.inl (fun _ => 0)))] X k_fl_X12_17 (dcl_Mo 4 (by decide)) rfl rfl rfl (Nat.le_of_ble_eq_true rfl) rfl dX12_init_23 ?_
  refine c_aload_n (pc := 26) X.1 0 rfl dX12_init_26 ?_
  refine c_iconst (v := 4) (pc := 27) X.1 rfl dX12_init_27 ?_
  refine c_newa (atype := .int) (ty := .int) (N := 4) (ak := 0) (a0 := .inl (fun _ => 0)) (pc := 28) X.1 X.2.2.1 rfl k_arr_0 rfl (fun _ h => by cases h) rfl (fun _ => rfl) (by decide) (by decide) (Nat.le_of_ble_eq_true rfl) (Nat.le_of_ble_eq_true rfl) (Nat.le_of_ble_eq_true rfl) dX12_init_28 ?_
  refine c_put (k := 92) (pc := 30) [z_0 V, z_1 V, z_2 V, z_3 V, z_4 V, z_5 V, z_6 V, z_7 V, z_8 V, z_9 V, z_10 V, z_11 V, z_12 V, z_13 V, z_14 V, z_15 V, z_16 V, z_17 V, z_18 V, z_19 V, z_20 V, z_21 V, z_22 V, z_23 V, z_24 V, z_25 V, z_26 V, z_27 V, z_28 V, z_29 V, z_30 V, z_31 V, z_32 V, z_33 V, z_34 V, z_35 V, z_36 V, z_37 V, z_38 V, z_39 V, z_40 V, z_41 V, z_42 V, z_43 V, z_44 V, z_45 V, z_46 V, z_47 V, z_48 V, z_49 V, z_50 V, z_51 V, z_52 V, z_53 V, z_54 V, z_55 V, z_56 V, z_57 V, z_58 V, z_59 V, z_60 V, z_61 V, z_62 V, z_63 V, z_64 V, z_65 V, z_66 V, z_67 V, z_68 V, z_69 V, z_70 V, z_71 V, z_72 V, z_73 V, z_74 V, z_75 V, z_76 V, z_77 V, z_78 V, z_79 V, z_80 V, z_81 V, z_82 V, z_83 V, z_84 V, z_85 V, z_86 V, z_87 V, z_88 V, z_89 V, z_90 V, z_91 V, .inr (9, [.ref (V.2.2.1 + 93), .ref (V.2.2.1 + 94), .int 0, .long 0, .long 1, .ref (V.2.2.1 + 95), .null, .null, .null, .null, .int 0, .int 0, .int 0, .int 0, .int 0, .int 0, .int 0, .int 0, .int 0, .int 0, .null, .int 0, .int 0, .int 0, .null, .null, .null, .null, .null, .null, .int 0, .null, .int 0, .int 0, .null, .null, .null, .int 0, .int 0]), .inl (V.2.1 0, 2060, .inl (fun _ => 0)), .inl (V.2.1 1, 60, .inr (.inl (fun _ => 0))), .inl (V.2.1 0, 4, .inl (fun _ => 0))] X k_fl_X12_21 (dcl_Mo 5 (by decide)) rfl rfl rfl (Nat.le_of_ble_eq_true rfl) rfl dX12_init_30 ?_
  refine c_aload_n (pc := 33) X.1 0 rfl dX12_init_33 ?_
  refine c_iconst (v := 4) (pc := 34) X.1 rfl dX12_init_34 ?_
  refine c_newa (atype := .int) (ty := .int) (N := 4) (ak := 0) (a0 := .inl (fun _ => 0)) (pc := 35) X.1 X.2.2.1 rfl k_arr_0 rfl (fun _ h => by cases h) rfl (fun _ => rfl) (by decide) (by decide) (Nat.le_of_ble_eq_true rfl) (Nat.le_of_ble_eq_true rfl) (Nat.le_of_ble_eq_true rfl) dX12_init_35 ?_
  refine c_dup (pc := 37) X.1 rfl dX12_init_37 ?_
  refine c_iconst (v := 0) (pc := 38) X.1 rfl dX12_init_38 ?_
  refine c_iconst (v := (-1)) (pc := 39) X.1 rfl dX12_init_39 ?_
  refine c_iast (k := 96) (pc := 40) [z_0 V, z_1 V, z_2 V, z_3 V, z_4 V, z_5 V, z_6 V, z_7 V, z_8 V, z_9 V, z_10 V, z_11 V, z_12 V, z_13 V, z_14 V, z_15 V, z_16 V, z_17 V, z_18 V, z_19 V, z_20 V, z_21 V, z_22 V, z_23 V, z_24 V, z_25 V, z_26 V, z_27 V, z_28 V, z_29 V, z_30 V, z_31 V, z_32 V, z_33 V, z_34 V, z_35 V, z_36 V, z_37 V, z_38 V, z_39 V, z_40 V, z_41 V, z_42 V, z_43 V, z_44 V, z_45 V, z_46 V, z_47 V, z_48 V, z_49 V, z_50 V, z_51 V, z_52 V, z_53 V, z_54 V, z_55 V, z_56 V, z_57 V, z_58 V, z_59 V, z_60 V, z_61 V, z_62 V, z_63 V, z_64 V, z_65 V, z_66 V, z_67 V, z_68 V, z_69 V, z_70 V, z_71 V, z_72 V, z_73 V, z_74 V, z_75 V, z_76 V, z_77 V, z_78 V, z_79 V, z_80 V, z_81 V, z_82 V, z_83 V, z_84 V, z_85 V, z_86 V, z_87 V, z_88 V, z_89 V, z_90 V, z_91 V, .inr (9, [.ref (V.2.2.1 + 93), .ref (V.2.2.1 + 94), .int 0, .long 0, .long 1, .ref (V.2.2.1 + 95), .null, .null, .null, .null, .int 0, .int 0, .int 0, .int 0, .int 0, .int 0, .int 0, .int 0, .int 0, .int 0, .null, .int 0, .int 0, .int 0, .null, .null, .null, .null, .null, .null, .int 0, .null, .int 0, .int 0, .null, .null, .null, .int 0, .int 0]), .inl (V.2.1 0, 2060, .inl (fun _ => 0)), .inl (V.2.1 1, 60, .inr (.inl (fun _ => 0))), .inl (V.2.1 0, 4, .inl (fun _ => 0)), .inl (V.2.1 0, 4, .inl (upd ((fun _ => 0)) (tn 0) (-1)))] X.1 rfl rfl rfl dX12_init_40 ?_
  refine c_dup (pc := 41) X.1 rfl dX12_init_41 ?_
  refine c_iconst (v := 1) (pc := 42) X.1 rfl dX12_init_42 ?_
  refine c_iconst (v := (-1)) (pc := 43) X.1 rfl dX12_init_43 ?_
  refine c_iast (k := 96) (pc := 44) [z_0 V, z_1 V, z_2 V, z_3 V, z_4 V, z_5 V, z_6 V, z_7 V, z_8 V, z_9 V, z_10 V, z_11 V, z_12 V, z_13 V, z_14 V, z_15 V, z_16 V, z_17 V, z_18 V, z_19 V, z_20 V, z_21 V, z_22 V, z_23 V, z_24 V, z_25 V, z_26 V, z_27 V, z_28 V, z_29 V, z_30 V, z_31 V, z_32 V, z_33 V, z_34 V, z_35 V, z_36 V, z_37 V, z_38 V, z_39 V, z_40 V, z_41 V, z_42 V, z_43 V, z_44 V, z_45 V, z_46 V, z_47 V, z_48 V, z_49 V, z_50 V, z_51 V, z_52 V, z_53 V, z_54 V, z_55 V, z_56 V, z_57 V, z_58 V, z_59 V, z_60 V, z_61 V, z_62 V, z_63 V, z_64 V, z_65 V, z_66 V, z_67 V, z_68 V, z_69 V, z_70 V, z_71 V, z_72 V, z_73 V, z_74 V, z_75 V, z_76 V, z_77 V, z_78 V, z_79 V, z_80 V, z_81 V, z_82 V, z_83 V, z_84 V, z_85 V, z_86 V, z_87 V, z_88 V, z_89 V, z_90 V, z_91 V, .inr (9, [.ref (V.2.2.1 + 93), .ref (V.2.2.1 + 94), .int 0, .long 0, .long 1, .ref (V.2.2.1 + 95), .null, .null, .null, .null, .int 0, .int 0, .int 0, .int 0, .int 0, .int 0, .int 0, .int 0, .int 0, .int 0, .null, .int 0, .int 0, .int 0, .null, .null, .null, .null, .null, .null, .int 0, .null, .int 0, .int 0, .null, .null, .null, .int 0, .int 0]), .inl (V.2.1 0, 2060, .inl (fun _ => 0)), .inl (V.2.1 1, 60, .inr (.inl (fun _ => 0))), .inl (V.2.1 0, 4, .inl (fun _ => 0)), .inl (V.2.1 0, 4, .inl (upd (upd ((fun _ => 0)) (tn 0) (-1)) (tn 1) (-1)))] X.1 rfl rfl rfl dX12_init_44 ?_
  refine c_dup (pc := 45) X.1 rfl dX12_init_45 ?_
  refine c_iconst (v := 2) (pc := 46) X.1 rfl dX12_init_46 ?_
  refine c_iconst (v := (-1)) (pc := 47) X.1 rfl dX12_init_47 ?_
  refine c_iast (k := 96) (pc := 48) [z_0 V, z_1 V, z_2 V, z_3 V, z_4 V, z_5 V, z_6 V, z_7 V, z_8 V, z_9 V, z_10 V, z_11 V, z_12 V, z_13 V, z_14 V, z_15 V, z_16 V, z_17 V, z_18 V, z_19 V, z_20 V, z_21 V, z_22 V, z_23 V, z_24 V, z_25 V, z_26 V, z_27 V, z_28 V, z_29 V, z_30 V, z_31 V, z_32 V, z_33 V, z_34 V, z_35 V, z_36 V, z_37 V, z_38 V, z_39 V, z_40 V, z_41 V, z_42 V, z_43 V, z_44 V, z_45 V, z_46 V, z_47 V, z_48 V, z_49 V, z_50 V, z_51 V, z_52 V, z_53 V, z_54 V, z_55 V, z_56 V, z_57 V, z_58 V, z_59 V, z_60 V, z_61 V, z_62 V, z_63 V, z_64 V, z_65 V, z_66 V, z_67 V, z_68 V, z_69 V, z_70 V, z_71 V, z_72 V, z_73 V, z_74 V, z_75 V, z_76 V, z_77 V, z_78 V, z_79 V, z_80 V, z_81 V, z_82 V, z_83 V, z_84 V, z_85 V, z_86 V, z_87 V, z_88 V, z_89 V, z_90 V, z_91 V, .inr (9, [.ref (V.2.2.1 + 93), .ref (V.2.2.1 + 94), .int 0, .long 0, .long 1, .ref (V.2.2.1 + 95), .null, .null, .null, .null, .int 0, .int 0, .int 0, .int 0, .int 0, .int 0, .int 0, .int 0, .int 0, .int 0, .null, .int 0, .int 0, .int 0, .null, .null, .null, .null, .null, .null, .int 0, .null, .int 0, .int 0, .null, .null, .null, .int 0, .int 0]), .inl (V.2.1 0, 2060, .inl (fun _ => 0)), .inl (V.2.1 1, 60, .inr (.inl (fun _ => 0))), .inl (V.2.1 0, 4, .inl (fun _ => 0)), .inl (V.2.1 0, 4, .inl (upd (upd (upd ((fun _ => 0)) (tn 0) (-1)) (tn 1) (-1)) (tn 2) (-1)))] X.1 rfl rfl rfl dX12_init_48 ?_
  refine c_dup (pc := 49) X.1 rfl dX12_init_49 ?_
  refine c_iconst (v := 3) (pc := 50) X.1 rfl dX12_init_50 ?_
  refine c_iconst (v := (-1)) (pc := 51) X.1 rfl dX12_init_51 ?_
  refine c_iast (k := 96) (pc := 52) [z_0 V, z_1 V, z_2 V, z_3 V, z_4 V, z_5 V, z_6 V, z_7 V, z_8 V, z_9 V, z_10 V, z_11 V, z_12 V, z_13 V, z_14 V, z_15 V, z_16 V, z_17 V, z_18 V, z_19 V, z_20 V, z_21 V, z_22 V, z_23 V, z_24 V, z_25 V, z_26 V, z_27 V, z_28 V, z_29 V, z_30 V, z_31 V, z_32 V, z_33 V, z_34 V, z_35 V, z_36 V, z_37 V, z_38 V, z_39 V, z_40 V, z_41 V, z_42 V, z_43 V, z_44 V, z_45 V, z_46 V, z_47 V, z_48 V, z_49 V, z_50 V, z_51 V, z_52 V, z_53 V, z_54 V, z_55 V, z_56 V, z_57 V, z_58 V, z_59 V, z_60 V, z_61 V, z_62 V, z_63 V, z_64 V, z_65 V, z_66 V, z_67 V, z_68 V, z_69 V, z_70 V, z_71 V, z_72 V, z_73 V, z_74 V, z_75 V, z_76 V, z_77 V, z_78 V, z_79 V, z_80 V, z_81 V, z_82 V, z_83 V, z_84 V, z_85 V, z_86 V, z_87 V, z_88 V, z_89 V, z_90 V, z_91 V, .inr (9, [.ref (V.2.2.1 + 93), .ref (V.2.2.1 + 94), .int 0, .long 0, .long 1, .ref (V.2.2.1 + 95), .null, .null, .null, .null, .int 0, .int 0, .int 0, .int 0, .int 0, .int 0, .int 0, .int 0, .int 0, .int 0, .null, .int 0, .int 0, .int 0, .null, .null, .null, .null, .null, .null, .int 0, .null, .int 0, .int 0, .null, .null, .null, .int 0, .int 0]), .inl (V.2.1 0, 2060, .inl (fun _ => 0)), .inl (V.2.1 1, 60, .inr (.inl (fun _ => 0))), .inl (V.2.1 0, 4, .inl (fun _ => 0)), .inl (V.2.1 0, 4, .inl (upd (upd (upd (upd ((fun _ => 0)) (tn 0) (-1)) (tn 1) (-1)) (tn 2) (-1)) (tn 3) (-1)))] X.1 rfl rfl rfl dX12_init_52 ?_
  refine c_put (k := 92) (pc := 53) [z_0 V, z_1 V, z_2 V, z_3 V, z_4 V, z_5 V, z_6 V, z_7 V, z_8 V, z_9 V, z_10 V, z_11 V, z_12 V, z_13 V, z_14 V, z_15 V, z_16 V, z_17 V, z_18 V, z_19 V, z_20 V, z_21 V, z_22 V, z_23 V, z_24 V, z_25 V, z_26 V, z_27 V, z_28 V, z_29 V, z_30 V, z_31 V, z_32 V, z_33 V, z_34 V, z_35 V, z_36 V, z_37 V, z_38 V, z_39 V, z_40 V, z_41 V, z_42 V, z_43 V, z_44 V, z_45 V, z_46 V, z_47 V, z_48 V, z_49 V, z_50 V, z_51 V, z_52 V, z_53 V, z_54 V, z_55 V, z_56 V, z_57 V, z_58 V, z_59 V, z_60 V, z_61 V, z_62 V, z_63 V, z_64 V, z_65 V, z_66 V, z_67 V, z_68 V, z_69 V, z_70 V, z_71 V, z_72 V, z_73 V, z_74 V, z_75 V, z_76 V, z_77 V, z_78 V, z_79 V, z_80 V, z_81 V, z_82 V, z_83 V, z_84 V, z_85 V, z_86 V, z_87 V, z_88 V, z_89 V, z_90 V, z_91 V, .inr (9, [.ref (V.2.2.1 + 93), .ref (V.2.2.1 + 94), .int 0, .long 0, .long 1, .ref (V.2.2.1 + 95), .ref (V.2.2.1 + 96), .null, .null, .null, .int 0, .int 0, .int 0, .int 0, .int 0, .int 0, .int 0, .int 0, .int 0, .int 0, .null, .int 0, .int 0, .int 0, .null, .null, .null, .null, .null, .null, .int 0, .null, .int 0, .int 0, .null, .null, .null, .int 0, .int 0]), .inl (V.2.1 0, 2060, .inl (fun _ => 0)), .inl (V.2.1 1, 60, .inr (.inl (fun _ => 0))), .inl (V.2.1 0, 4, .inl (fun _ => 0)), .inl (V.2.1 0, 4, .inl (upd (upd (upd (upd ((fun _ => 0)) (tn 0) (-1)) (tn 1) (-1)) (tn 2) (-1)) (tn 3) (-1)))] X k_fl_X12_24 (dcl_Mo 6 (by decide)) rfl rfl rfl (Nat.le_of_ble_eq_true rfl) rfl dX12_init_53 ?_
  refine c_aload_n (pc := 56) X.1 0 rfl dX12_init_56 ?_
  refine c_sipush (v := 240) (pc := 57) X.1 (by decide) dX12_init_57 ?_
  refine c_newa (atype := .long) (ty := .long) (N := 240) (ak := 1) (a0 := .inr (.inl (fun _ => 0))) (pc := 60) X.1 X.2.2.1 rfl k_arr_1 rfl (fun _ h => by cases h) rfl (fun _ => rfl) (by decide) (by decide) (Nat.le_of_ble_eq_true rfl) (Nat.le_of_ble_eq_true rfl) (Nat.le_of_ble_eq_true rfl) dX12_init_60 ?_
  refine c_put (k := 92) (pc := 62) [z_0 V, z_1 V, z_2 V, z_3 V, z_4 V, z_5 V, z_6 V, z_7 V, z_8 V, z_9 V, z_10 V, z_11 V, z_12 V, z_13 V, z_14 V, z_15 V, z_16 V, z_17 V, z_18 V, z_19 V, z_20 V, z_21 V, z_22 V, z_23 V, z_24 V, z_25 V, z_26 V, z_27 V, z_28 V, z_29 V, z_30 V, z_31 V, z_32 V, z_33 V, z_34 V, z_35 V, z_36 V, z_37 V, z_38 V, z_39 V, z_40 V, z_41 V, z_42 V, z_43 V, z_44 V, z_45 V, z_46 V, z_47 V, z_48 V, z_49 V, z_50 V, z_51 V, z_52 V, z_53 V, z_54 V, z_55 V, z_56 V, z_57 V, z_58 V, z_59 V, z_60 V, z_61 V, z_62 V, z_63 V, z_64 V, z_65 V, z_66 V, z_67 V, z_68 V, z_69 V, z_70 V, z_71 V, z_72 V, z_73 V, z_74 V, z_75 V, z_76 V, z_77 V, z_78 V, z_79 V, z_80 V, z_81 V, z_82 V, z_83 V, z_84 V, z_85 V, z_86 V, z_87 V, z_88 V, z_89 V, z_90 V, z_91 V, .inr (9, [.ref (V.2.2.1 + 93), .ref (V.2.2.1 + 94), .int 0, .long 0, .long 1, .ref (V.2.2.1 + 95), .ref (V.2.2.1 + 96), .ref (V.2.2.1 + 97), .null, .null, .int 0, .int 0, .int 0, .int 0, .int 0, .int 0, .int 0, .int 0, .int 0, .int 0, .null, .int 0, .int 0, .int 0, .null, .null, .null, .null, .null, .null, .int 0, .null, .int 0, .int 0, .null, .null, .null, .int 0, .int 0]), .inl (V.2.1 0, 2060, .inl (fun _ => 0)), .inl (V.2.1 1, 60, .inr (.inl (fun _ => 0))), .inl (V.2.1 0, 4, .inl (fun _ => 0)), .inl (V.2.1 0, 4, .inl (upd (upd (upd (upd ((fun _ => 0)) (tn 0) (-1)) (tn 1) (-1)) (tn 2) (-1)) (tn 3) (-1))), .inl (V.2.1 1, 240, .inr (.inl (fun _ => 0)))] X k_fl_X12_27 (dcl_Mo 7 (by decide)) rfl rfl rfl (Nat.le_of_ble_eq_true rfl) rfl dX12_init_62 ?_
  refine c_aload_n (pc := 65) X.1 0 rfl dX12_init_65 ?_
  refine c_sipush (v := 900) (pc := 66) X.1 (by decide) dX12_init_66 ?_
  refine c_newa (atype := .byte) (ty := .byte) (N := 900) (ak := 2) (a0 := .inl (fun _ => 0)) (pc := 69) X.1 X.2.2.1 rfl k_arr_2 rfl (fun _ h => by cases h) rfl (fun _ => rfl) (by decide) (by decide) (Nat.le_of_ble_eq_true rfl) (Nat.le_of_ble_eq_true rfl) (Nat.le_of_ble_eq_true rfl) dX12_init_69 ?_
  refine c_put (k := 92) (pc := 71) [z_0 V, z_1 V, z_2 V, z_3 V, z_4 V, z_5 V, z_6 V, z_7 V, z_8 V, z_9 V, z_10 V, z_11 V, z_12 V, z_13 V, z_14 V, z_15 V, z_16 V, z_17 V, z_18 V, z_19 V, z_20 V, z_21 V, z_22 V, z_23 V, z_24 V, z_25 V, z_26 V, z_27 V, z_28 V, z_29 V, z_30 V, z_31 V, z_32 V, z_33 V, z_34 V, z_35 V, z_36 V, z_37 V, z_38 V, z_39 V, z_40 V, z_41 V, z_42 V, z_43 V, z_44 V, z_45 V, z_46 V, z_47 V, z_48 V, z_49 V, z_50 V, z_51 V, z_52 V, z_53 V, z_54 V, z_55 V, z_56 V, z_57 V, z_58 V, z_59 V, z_60 V, z_61 V, z_62 V, z_63 V, z_64 V, z_65 V, z_66 V, z_67 V, z_68 V, z_69 V, z_70 V, z_71 V, z_72 V, z_73 V, z_74 V, z_75 V, z_76 V, z_77 V, z_78 V, z_79 V, z_80 V, z_81 V, z_82 V, z_83 V, z_84 V, z_85 V, z_86 V, z_87 V, z_88 V, z_89 V, z_90 V, z_91 V, .inr (9, [.ref (V.2.2.1 + 93), .ref (V.2.2.1 + 94), .int 0, .long 0, .long 1, .ref (V.2.2.1 + 95), .ref (V.2.2.1 + 96), .ref (V.2.2.1 + 97), .ref (V.2.2.1 + 98), .null, .int 0, .int 0, .int 0, .int 0, .int 0, .int 0, .int 0, .int 0, .int 0, .int 0, .null, .int 0, .int 0, .int 0, .null, .null, .null, .null, .null, .null, .int 0, .null, .int 0, .int 0, .null, .null, .null, .int 0, .int 0]), .inl (V.2.1 0, 2060, .inl (fun _ => 0)), .inl (V.2.1 1, 60, .inr (.inl (fun _ => 0))), .inl (V.2.1 0, 4, .inl (fun _ => 0)), .inl (V.2.1 0, 4, .inl (upd (upd (upd (upd ((fun _ => 0)) (tn 0) (-1)) (tn 1) (-1)) (tn 2) (-1)) (tn 3) (-1))), .inl (V.2.1 1, 240, .inr (.inl (fun _ => 0))), .inl (V.2.1 2, 900, .inl (fun _ => 0))] X k_fl_X12_30 (dcl_Mo 8 (by decide)) rfl rfl rfl (Nat.le_of_ble_eq_true rfl) rfl dX12_init_71 ?_
  refine c_aload_n (pc := 74) X.1 0 rfl dX12_init_74 ?_
  refine c_sipush (v := 900) (pc := 75) X.1 (by decide) dX12_init_75 ?_
  refine c_newa (atype := .byte) (ty := .byte) (N := 900) (ak := 2) (a0 := .inl (fun _ => 0)) (pc := 78) X.1 X.2.2.1 rfl k_arr_2 rfl (fun _ h => by cases h) rfl (fun _ => rfl) (by decide) (by decide) (Nat.le_of_ble_eq_true rfl) (Nat.le_of_ble_eq_true rfl) (Nat.le_of_ble_eq_true rfl) dX12_init_78 ?_
  refine c_put (k := 92) (pc := 80) [z_0 V, z_1 V, z_2 V, z_3 V, z_4 V, z_5 V, z_6 V, z_7 V, z_8 V, z_9 V, z_10 V, z_11 V, z_12 V, z_13 V, z_14 V, z_15 V, z_16 V, z_17 V, z_18 V, z_19 V, z_20 V, z_21 V, z_22 V, z_23 V, z_24 V, z_25 V, z_26 V, z_27 V, z_28 V, z_29 V, z_30 V, z_31 V, z_32 V, z_33 V, z_34 V, z_35 V, z_36 V, z_37 V, z_38 V, z_39 V, z_40 V, z_41 V, z_42 V, z_43 V, z_44 V, z_45 V, z_46 V, z_47 V, z_48 V, z_49 V, z_50 V, z_51 V, z_52 V, z_53 V, z_54 V, z_55 V, z_56 V, z_57 V, z_58 V, z_59 V, z_60 V, z_61 V, z_62 V, z_63 V, z_64 V, z_65 V, z_66 V, z_67 V, z_68 V, z_69 V, z_70 V, z_71 V, z_72 V, z_73 V, z_74 V, z_75 V, z_76 V, z_77 V, z_78 V, z_79 V, z_80 V, z_81 V, z_82 V, z_83 V, z_84 V, z_85 V, z_86 V, z_87 V, z_88 V, z_89 V, z_90 V, z_91 V, .inr (9, [.ref (V.2.2.1 + 93), .ref (V.2.2.1 + 94), .int 0, .long 0, .long 1, .ref (V.2.2.1 + 95), .ref (V.2.2.1 + 96), .ref (V.2.2.1 + 97), .ref (V.2.2.1 + 98), .ref (V.2.2.1 + 99), .int 0, .int 0, .int 0, .int 0, .int 0, .int 0, .int 0, .int 0, .int 0, .int 0, .null, .int 0, .int 0, .int 0, .null, .null, .null, .null, .null, .null, .int 0, .null, .int 0, .int 0, .null, .null, .null, .int 0, .int 0]), .inl (V.2.1 0, 2060, .inl (fun _ => 0)), .inl (V.2.1 1, 60, .inr (.inl (fun _ => 0))), .inl (V.2.1 0, 4, .inl (fun _ => 0)), .inl (V.2.1 0, 4, .inl (upd (upd (upd (upd ((fun _ => 0)) (tn 0) (-1)) (tn 1) (-1)) (tn 2) (-1)) (tn 3) (-1))), .inl (V.2.1 1, 240, .inr (.inl (fun _ => 0))), .inl (V.2.1 2, 900, .inl (fun _ => 0)), .inl (V.2.1 2, 900, .inl (fun _ => 0))] X k_fl_X12_34 (dcl_Mo 9 (by decide)) rfl rfl rfl (Nat.le_of_ble_eq_true rfl) rfl dX12_init_80 ?_
  refine c_aload_n (pc := 83) X.1 0 rfl dX12_init_83 ?_
  refine c_iconst (v := (-1)) (pc := 84) X.1 rfl dX12_init_84 ?_
  refine c_put (k := 92) (pc := 85) [z_0 V, z_1 V, z_2 V, z_3 V, z_4 V, z_5 V, z_6 V, z_7 V, z_8 V, z_9 V, z_10 V, z_11 V, z_12 V, z_13 V, z_14 V, z_15 V, z_16 V, z_17 V, z_18 V, z_19 V, z_20 V, z_21 V, z_22 V, z_23 V, z_24 V, z_25 V, z_26 V, z_27 V, z_28 V, z_29 V, z_30 V, z_31 V, z_32 V, z_33 V, z_34 V, z_35 V, z_36 V, z_37 V, z_38 V, z_39 V, z_40 V, z_41 V, z_42 V, z_43 V, z_44 V, z_45 V, z_46 V, z_47 V, z_48 V, z_49 V, z_50 V, z_51 V, z_52 V, z_53 V, z_54 V, z_55 V, z_56 V, z_57 V, z_58 V, z_59 V, z_60 V, z_61 V, z_62 V, z_63 V, z_64 V, z_65 V, z_66 V, z_67 V, z_68 V, z_69 V, z_70 V, z_71 V, z_72 V, z_73 V, z_74 V, z_75 V, z_76 V, z_77 V, z_78 V, z_79 V, z_80 V, z_81 V, z_82 V, z_83 V, z_84 V, z_85 V, z_86 V, z_87 V, z_88 V, z_89 V, z_90 V, z_91 V, .inr (9, [.ref (V.2.2.1 + 93), .ref (V.2.2.1 + 94), .int 0, .long 0, .long 1, .ref (V.2.2.1 + 95), .ref (V.2.2.1 + 96), .ref (V.2.2.1 + 97), .ref (V.2.2.1 + 98), .ref (V.2.2.1 + 99), .int 0, .int 0, .int 0, .int 0, .int 0, .int 0, .int (-1), .int 0, .int 0, .int 0, .null, .int 0, .int 0, .int 0, .null, .null, .null, .null, .null, .null, .int 0, .null, .int 0, .int 0, .null, .null, .null, .int 0, .int 0]), .inl (V.2.1 0, 2060, .inl (fun _ => 0)), .inl (V.2.1 1, 60, .inr (.inl (fun _ => 0))), .inl (V.2.1 0, 4, .inl (fun _ => 0)), .inl (V.2.1 0, 4, .inl (upd (upd (upd (upd ((fun _ => 0)) (tn 0) (-1)) (tn 1) (-1)) (tn 2) (-1)) (tn 3) (-1))), .inl (V.2.1 1, 240, .inr (.inl (fun _ => 0))), .inl (V.2.1 2, 900, .inl (fun _ => 0)), .inl (V.2.1 2, 900, .inl (fun _ => 0))] X k_fl_X12_37 (dcl_Mo 16 (by decide)) rfl rfl rfl (Nat.le_of_ble_eq_true rfl) rfl dX12_init_85 ?_
  refine c_aload_n (pc := 88) X.1 0 rfl dX12_init_88 ?_
  refine c_iconst (v := (-1)) (pc := 89) X.1 rfl dX12_init_89 ?_
  refine c_put (k := 92) (pc := 90) [z_0 V, z_1 V, z_2 V, z_3 V, z_4 V, z_5 V, z_6 V, z_7 V, z_8 V, z_9 V, z_10 V, z_11 V, z_12 V, z_13 V, z_14 V, z_15 V, z_16 V, z_17 V, z_18 V, z_19 V, z_20 V, z_21 V, z_22 V, z_23 V, z_24 V, z_25 V, z_26 V, z_27 V, z_28 V, z_29 V, z_30 V, z_31 V, z_32 V, z_33 V, z_34 V, z_35 V, z_36 V, z_37 V, z_38 V, z_39 V, z_40 V, z_41 V, z_42 V, z_43 V, z_44 V, z_45 V, z_46 V, z_47 V, z_48 V, z_49 V, z_50 V, z_51 V, z_52 V, z_53 V, z_54 V, z_55 V, z_56 V, z_57 V, z_58 V, z_59 V, z_60 V, z_61 V, z_62 V, z_63 V, z_64 V, z_65 V, z_66 V, z_67 V, z_68 V, z_69 V, z_70 V, z_71 V, z_72 V, z_73 V, z_74 V, z_75 V, z_76 V, z_77 V, z_78 V, z_79 V, z_80 V, z_81 V, z_82 V, z_83 V, z_84 V, z_85 V, z_86 V, z_87 V, z_88 V, z_89 V, z_90 V, z_91 V, .inr (9, [.ref (V.2.2.1 + 93), .ref (V.2.2.1 + 94), .int 0, .long 0, .long 1, .ref (V.2.2.1 + 95), .ref (V.2.2.1 + 96), .ref (V.2.2.1 + 97), .ref (V.2.2.1 + 98), .ref (V.2.2.1 + 99), .int 0, .int 0, .int 0, .int 0, .int 0, .int 0, .int (-1), .int (-1), .int 0, .int 0, .null, .int 0, .int 0, .int 0, .null, .null, .null, .null, .null, .null, .int 0, .null, .int 0, .int 0, .null, .null, .null, .int 0, .int 0]), .inl (V.2.1 0, 2060, .inl (fun _ => 0)), .inl (V.2.1 1, 60, .inr (.inl (fun _ => 0))), .inl (V.2.1 0, 4, .inl (fun _ => 0)), .inl (V.2.1 0, 4, .inl (upd (upd (upd (upd ((fun _ => 0)) (tn 0) (-1)) (tn 1) (-1)) (tn 2) (-1)) (tn 3) (-1))), .inl (V.2.1 1, 240, .inr (.inl (fun _ => 0))), .inl (V.2.1 2, 900, .inl (fun _ => 0)), .inl (V.2.1 2, 900, .inl (fun _ => 0))] X k_fl_X12_41 (dcl_Mo 17 (by decide)) rfl rfl rfl (Nat.le_of_ble_eq_true rfl) rfl dX12_init_90 ?_
  refine c_aload_n (pc := 93) X.1 0 rfl dX12_init_93 ?_
  refine c_iconst (v := 3) (pc := 94) X.1 rfl dX12_init_94 ?_
  refine c_newa (atype := .int) (ty := .int) (N := 3) (ak := 0) (a0 := .inl (fun _ => 0)) (pc := 95) X.1 X.2.2.1 rfl k_arr_0 rfl (fun _ h => by cases h) rfl (fun _ => rfl) (by decide) (by decide) (Nat.le_of_ble_eq_true rfl) (Nat.le_of_ble_eq_true rfl) (Nat.le_of_ble_eq_true rfl) dX12_init_95 ?_
  refine c_put (k := 92) (pc := 97) [z_0 V, z_1 V, z_2 V, z_3 V, z_4 V, z_5 V, z_6 V, z_7 V, z_8 V, z_9 V, z_10 V, z_11 V, z_12 V, z_13 V, z_14 V, z_15 V, z_16 V, z_17 V, z_18 V, z_19 V, z_20 V, z_21 V, z_22 V, z_23 V, z_24 V, z_25 V, z_26 V, z_27 V, z_28 V, z_29 V, z_30 V, z_31 V, z_32 V, z_33 V, z_34 V, z_35 V, z_36 V, z_37 V, z_38 V, z_39 V, z_40 V, z_41 V, z_42 V, z_43 V, z_44 V, z_45 V, z_46 V, z_47 V, z_48 V, z_49 V, z_50 V, z_51 V, z_52 V, z_53 V, z_54 V, z_55 V, z_56 V, z_57 V, z_58 V, z_59 V, z_60 V, z_61 V, z_62 V, z_63 V, z_64 V, z_65 V, z_66 V, z_67 V, z_68 V, z_69 V, z_70 V, z_71 V, z_72 V, z_73 V, z_74 V, z_75 V, z_76 V, z_77 V, z_78 V, z_79 V, z_80 V, z_81 V, z_82 V, z_83 V, z_84 V, z_85 V, z_86 V, z_87 V, z_88 V, z_89 V, z_90 V, z_91 V, .inr (9, [.ref (V.2.2.1 + 93), .ref (V.2.2.1 + 94), .int 0, .long 0, .long 1, .ref (V.2.2.1 + 95), .ref (V.2.2.1 + 96), .ref (V.2.2.1 + 97), .ref (V.2.2.1 + 98), .ref (V.2.2.1 + 99), .int 0, .int 0, .int 0, .int 0, .int 0, .int 0, .int (-1), .int (-1), .int 0, .int 0, .ref (V.2.2.1 + 100), .int 0, .int 0, .int 0, .null, .null, .null, .null, .null, .null, .int 0, .null, .int 0, .int 0, .null, .null, .null, .int 0, .int 0]), .inl (V.2.1 0, 2060, .inl (fun _ => 0)), .inl (V.2.1 1, 60, .inr (.inl (fun _ => 0))), .inl (V.2.1 0, 4, .inl (fun _ => 0)), .inl (V.2.1 0, 4, .inl (upd (upd (upd (upd ((fun _ => 0)) (tn 0) (-1)) (tn 1) (-1)) (tn 2) (-1)) (tn 3) (-1))), .inl (V.2.1 1, 240, .inr (.inl (fun _ => 0))), .inl (V.2.1 2, 900, .inl (fun _ => 0)), .inl (V.2.1 2, 900, .inl (fun _ => 0)), .inl (V.2.1 0, 3, .inl (fun _ => 0))] X k_fl_X12_44 (dcl_Mo 20 (by decide)) rfl rfl rfl (Nat.le_of_ble_eq_true rfl) rfl dX12_init_97 ?_
  refine c_aload_n (pc := 100) X.1 0 rfl dX12_init_100 ?_
  refine c_sipush (v := 5040) (pc := 101) X.1 (by decide) dX12_init_101 ?_
  refine c_newa (atype := .int) (ty := .int) (N := 5040) (ak := 0) (a0 := .inl (fun _ => 0)) (pc := 104) X.1 X.2.2.1 rfl k_arr_0 rfl (fun _ h => by cases h) rfl (fun _ => rfl) (by decide) (by decide) (Nat.le_of_ble_eq_true rfl) (Nat.le_of_ble_eq_true rfl) (Nat.le_of_ble_eq_true rfl) dX12_init_104 ?_
  refine c_put (k := 92) (pc := 106) [z_0 V, z_1 V, z_2 V, z_3 V, z_4 V, z_5 V, z_6 V, z_7 V, z_8 V, z_9 V, z_10 V, z_11 V, z_12 V, z_13 V, z_14 V, z_15 V, z_16 V, z_17 V, z_18 V, z_19 V, z_20 V, z_21 V, z_22 V, z_23 V, z_24 V, z_25 V, z_26 V, z_27 V, z_28 V, z_29 V, z_30 V, z_31 V, z_32 V, z_33 V, z_34 V, z_35 V, z_36 V, z_37 V, z_38 V, z_39 V, z_40 V, z_41 V, z_42 V, z_43 V, z_44 V, z_45 V, z_46 V, z_47 V, z_48 V, z_49 V, z_50 V, z_51 V, z_52 V, z_53 V, z_54 V, z_55 V, z_56 V, z_57 V, z_58 V, z_59 V, z_60 V, z_61 V, z_62 V, z_63 V, z_64 V, z_65 V, z_66 V, z_67 V, z_68 V, z_69 V, z_70 V, z_71 V, z_72 V, z_73 V, z_74 V, z_75 V, z_76 V, z_77 V, z_78 V, z_79 V, z_80 V, z_81 V, z_82 V, z_83 V, z_84 V, z_85 V, z_86 V, z_87 V, z_88 V, z_89 V, z_90 V, z_91 V, .inr (9, [.ref (V.2.2.1 + 93), .ref (V.2.2.1 + 94), .int 0, .long 0, .long 1, .ref (V.2.2.1 + 95), .ref (V.2.2.1 + 96), .ref (V.2.2.1 + 97), .ref (V.2.2.1 + 98), .ref (V.2.2.1 + 99), .int 0, .int 0, .int 0, .int 0, .int 0, .int 0, .int (-1), .int (-1), .int 0, .int 0, .ref (V.2.2.1 + 100), .int 0, .int 0, .int 0, .ref (V.2.2.1 + 101), .null, .null, .null, .null, .null, .int 0, .null, .int 0, .int 0, .null, .null, .null, .int 0, .int 0]), .inl (V.2.1 0, 2060, .inl (fun _ => 0)), .inl (V.2.1 1, 60, .inr (.inl (fun _ => 0))), .inl (V.2.1 0, 4, .inl (fun _ => 0)), .inl (V.2.1 0, 4, .inl (upd (upd (upd (upd ((fun _ => 0)) (tn 0) (-1)) (tn 1) (-1)) (tn 2) (-1)) (tn 3) (-1))), .inl (V.2.1 1, 240, .inr (.inl (fun _ => 0))), .inl (V.2.1 2, 900, .inl (fun _ => 0)), .inl (V.2.1 2, 900, .inl (fun _ => 0)), .inl (V.2.1 0, 3, .inl (fun _ => 0)), .inl (V.2.1 0, 5040, .inl (fun _ => 0))] X k_fl_X12_47 (dcl_Mo 24 (by decide)) rfl rfl rfl (Nat.le_of_ble_eq_true rfl) rfl dX12_init_106 ?_
  refine c_aload_n (pc := 109) X.1 0 rfl dX12_init_109 ?_
  refine c_sipush (v := 4096) (pc := 110) X.1 (by decide) dX12_init_110 ?_
  refine c_newa (atype := .boolean) (ty := .boolean) (N := 4096) (ak := 3) (a0 := .inl (fun _ => 0)) (pc := 113) X.1 X.2.2.1 rfl k_arr_3 rfl (fun _ h => by cases h) rfl (fun _ => rfl) (by decide) (by decide) (Nat.le_of_ble_eq_true rfl) (Nat.le_of_ble_eq_true rfl) (Nat.le_of_ble_eq_true rfl) dX12_init_113 ?_
  refine c_put (k := 92) (pc := 115) [z_0 V, z_1 V, z_2 V, z_3 V, z_4 V, z_5 V, z_6 V, z_7 V, z_8 V, z_9 V, z_10 V, z_11 V, z_12 V, z_13 V, z_14 V, z_15 V, z_16 V, z_17 V, z_18 V, z_19 V, z_20 V, z_21 V, z_22 V, z_23 V, z_24 V, z_25 V, z_26 V, z_27 V, z_28 V, z_29 V, z_30 V, z_31 V, z_32 V, z_33 V, z_34 V, z_35 V, z_36 V, z_37 V, z_38 V, z_39 V, z_40 V, z_41 V, z_42 V, z_43 V, z_44 V, z_45 V, z_46 V, z_47 V, z_48 V, z_49 V, z_50 V, z_51 V, z_52 V, z_53 V, z_54 V, z_55 V, z_56 V, z_57 V, z_58 V, z_59 V, z_60 V, z_61 V, z_62 V, z_63 V, z_64 V, z_65 V, z_66 V, z_67 V, z_68 V, z_69 V, z_70 V, z_71 V, z_72 V, z_73 V, z_74 V, z_75 V, z_76 V, z_77 V, z_78 V, z_79 V, z_80 V, z_81 V, z_82 V, z_83 V, z_84 V, z_85 V, z_86 V, z_87 V, z_88 V, z_89 V, z_90 V, z_91 V, .inr (9, [.ref (V.2.2.1 + 93), .ref (V.2.2.1 + 94), .int 0, .long 0, .long 1, .ref (V.2.2.1 + 95), .ref (V.2.2.1 + 96), .ref (V.2.2.1 + 97), .ref (V.2.2.1 + 98), .ref (V.2.2.1 + 99), .int 0, .int 0, .int 0, .int 0, .int 0, .int 0, .int (-1), .int (-1), .int 0, .int 0, .ref (V.2.2.1 + 100), .int 0, .int 0, .int 0, .ref (V.2.2.1 + 101), .ref (V.2.2.1 + 102), .null, .null, .null, .null, .int 0, .null, .int 0, .int 0, .null, .null, .null, .int 0, .int 0]), .inl (V.2.1 0, 2060, .inl (fun _ => 0)), .inl (V.2.1 1, 60, .inr (.inl (fun _ => 0))), .inl (V.2.1 0, 4, .inl (fun _ => 0)), .inl (V.2.1 0, 4, .inl (upd (upd (upd (upd ((fun _ => 0)) (tn 0) (-1)) (tn 1) (-1)) (tn 2) (-1)) (tn 3) (-1))), .inl (V.2.1 1, 240, .inr (.inl (fun _ => 0))), .inl (V.2.1 2, 900, .inl (fun _ => 0)), .inl (V.2.1 2, 900, .inl (fun _ => 0)), .inl (V.2.1 0, 3, .inl (fun _ => 0)), .inl (V.2.1 0, 5040, .inl (fun _ => 0)), .inl (V.2.1 3, 4096, .inl (fun _ => 0))] X k_fl_X12_50 (dcl_Mo 25 (by decide)) rfl rfl rfl (Nat.le_of_ble_eq_true rfl) rfl dX12_init_115 ?_
  refine c_aload_n (pc := 118) X.1 0 rfl dX12_init_118 ?_
  refine c_sipush (v := 5040) (pc := 119) X.1 (by decide) dX12_init_119 ?_
  refine c_newa (atype := .boolean) (ty := .boolean) (N := 5040) (ak := 3) (a0 := .inl (fun _ => 0)) (pc := 122) X.1 X.2.2.1 rfl k_arr_3 rfl (fun _ h => by cases h) rfl (fun _ => rfl) (by decide) (by decide) (Nat.le_of_ble_eq_true rfl) (Nat.le_of_ble_eq_true rfl) (Nat.le_of_ble_eq_true rfl) dX12_init_122 ?_
  refine c_put (k := 92) (pc := 124) [z_0 V, z_1 V, z_2 V, z_3 V, z_4 V, z_5 V, z_6 V, z_7 V, z_8 V, z_9 V, z_10 V, z_11 V, z_12 V, z_13 V, z_14 V, z_15 V, z_16 V, z_17 V, z_18 V, z_19 V, z_20 V, z_21 V, z_22 V, z_23 V, z_24 V, z_25 V, z_26 V, z_27 V, z_28 V, z_29 V, z_30 V, z_31 V, z_32 V, z_33 V, z_34 V, z_35 V, z_36 V, z_37 V, z_38 V, z_39 V, z_40 V, z_41 V, z_42 V, z_43 V, z_44 V, z_45 V, z_46 V, z_47 V, z_48 V, z_49 V, z_50 V, z_51 V, z_52 V, z_53 V, z_54 V, z_55 V, z_56 V, z_57 V, z_58 V, z_59 V, z_60 V, z_61 V, z_62 V, z_63 V, z_64 V, z_65 V, z_66 V, z_67 V, z_68 V, z_69 V, z_70 V, z_71 V, z_72 V, z_73 V, z_74 V, z_75 V, z_76 V, z_77 V, z_78 V, z_79 V, z_80 V, z_81 V, z_82 V, z_83 V, z_84 V, z_85 V, z_86 V, z_87 V, z_88 V, z_89 V, z_90 V, z_91 V, .inr (9, [.ref (V.2.2.1 + 93), .ref (V.2.2.1 + 94), .int 0, .long 0, .long 1, .ref (V.2.2.1 + 95), .ref (V.2.2.1 + 96), .ref (V.2.2.1 + 97), .ref (V.2.2.1 + 98), .ref (V.2.2.1 + 99), .int 0, .int 0, .int 0, .int 0, .int 0, .int 0, .int (-1), .int (-1), .int 0, .int 0, .ref (V.2.2.1 + 100), .int 0, .int 0, .int 0, .ref (V.2.2.1 + 101), .ref (V.2.2.1 + 102), .ref (V.2.2.1 + 103), .null, .null, .null, .int 0, .null, .int 0, .int 0, .null, .null, .null, .int 0, .int 0]), .inl (V.2.1 0, 2060, .inl (fun _ => 0)), .inl (V.2.1 1, 60, .inr (.inl (fun _ => 0))), .inl (V.2.1 0, 4, .inl (fun _ => 0)), .inl (V.2.1 0, 4, .inl (upd (upd (upd (upd ((fun _ => 0)) (tn 0) (-1)) (tn 1) (-1)) (tn 2) (-1)) (tn 3) (-1))), .inl (V.2.1 1, 240, .inr (.inl (fun _ => 0))), .inl (V.2.1 2, 900, .inl (fun _ => 0)), .inl (V.2.1 2, 900, .inl (fun _ => 0)), .inl (V.2.1 0, 3, .inl (fun _ => 0)), .inl (V.2.1 0, 5040, .inl (fun _ => 0)), .inl (V.2.1 3, 4096, .inl (fun _ => 0)), .inl (V.2.1 3, 5040, .inl (fun _ => 0))] X k_fl_X12_54 (dcl_Mo 26 (by decide)) rfl rfl rfl (Nat.le_of_ble_eq_true rfl) rfl dX12_init_124 ?_
  refine c_aload_n (pc := 127) X.1 0 rfl dX12_init_127 ?_
  refine c_iconst (v := 4) (pc := 128) X.1 rfl dX12_init_128 ?_
  refine c_newa (atype := .int) (ty := .int) (N := 4) (ak := 0) (a0 := .inl (fun _ => 0)) (pc := 129) X.1 X.2.2.1 rfl k_arr_0 rfl (fun _ h => by cases h) rfl (fun _ => rfl) (by decide) (by decide) (Nat.le_of_ble_eq_true rfl) (Nat.le_of_ble_eq_true rfl) (Nat.le_of_ble_eq_true rfl) dX12_init_129 ?_
  refine c_put (k := 92) (pc := 131) [z_0 V, z_1 V, z_2 V, z_3 V, z_4 V, z_5 V, z_6 V, z_7 V, z_8 V, z_9 V, z_10 V, z_11 V, z_12 V, z_13 V, z_14 V, z_15 V, z_16 V, z_17 V, z_18 V, z_19 V, z_20 V, z_21 V, z_22 V, z_23 V, z_24 V, z_25 V, z_26 V, z_27 V, z_28 V, z_29 V, z_30 V, z_31 V, z_32 V, z_33 V, z_34 V, z_35 V, z_36 V, z_37 V, z_38 V, z_39 V, z_40 V, z_41 V, z_42 V, z_43 V, z_44 V, z_45 V, z_46 V, z_47 V, z_48 V, z_49 V, z_50 V, z_51 V, z_52 V, z_53 V, z_54 V, z_55 V, z_56 V, z_57 V, z_58 V, z_59 V, z_60 V, z_61 V, z_62 V, z_63 V, z_64 V, z_65 V, z_66 V, z_67 V, z_68 V, z_69 V, z_70 V, z_71 V, z_72 V, z_73 V, z_74 V, z_75 V, z_76 V, z_77 V, z_78 V, z_79 V, z_80 V, z_81 V, z_82 V, z_83 V, z_84 V, z_85 V, z_86 V, z_87 V, z_88 V, z_89 V, z_90 V, z_91 V, .inr (9, [.ref (V.2.2.1 + 93), .ref (V.2.2.1 + 94), .int 0, .long 0, .long 1, .ref (V.2.2.1 + 95), .ref (V.2.2.1 + 96), .ref (V.2.2.1 + 97), .ref (V.2.2.1 + 98), .ref (V.2.2.1 + 99), .int 0, .int 0, .int 0, .int 0, .int 0, .int 0, .int (-1), .int (-1), .int 0, .int 0, .ref (V.2.2.1 + 100), .int 0, .int 0, .int 0, .ref (V.2.2.1 + 101), .ref (V.2.2.1 + 102), .ref (V.2.2.1 + 103), .ref (V.2.2.1 + 104), .null, .null, .int 0, .null, .int 0, .int 0, .null, .null, .null, .int 0, .int 0]), .inl (V.2.1 0, 2060, .inl (fun _ => 0)), .inl (V.2.1 1, 60, .inr (.inl (fun _ => 0))), .inl (V.2.1 0, 4, .inl (fun _ => 0)), .inl (V.2.1 0, 4, .inl (upd (upd (upd (upd ((fun _ => 0)) (tn 0) (-1)) (tn 1) (-1)) (tn 2) (-1)) (tn 3) (-1))), .inl (V.2.1 1, 240, .inr (.inl (fun _ => 0))), .inl (V.2.1 2, 900, .inl (fun _ => 0)), .inl (V.2.1 2, 900, .inl (fun _ => 0)), .inl (V.2.1 0, 3, .inl (fun _ => 0)), .inl (V.2.1 0, 5040, .inl (fun _ => 0)), .inl (V.2.1 3, 4096, .inl (fun _ => 0)), .inl (V.2.1 3, 5040, .inl (fun _ => 0)), .inl (V.2.1 0, 4, .inl (fun _ => 0))] X k_fl_X12_57 (dcl_Mo 27 (by decide)) rfl rfl rfl (Nat.le_of_ble_eq_true rfl) rfl dX12_init_131 ?_
  refine c_aload_n (pc := 134) X.1 0 rfl dX12_init_134 ?_
  refine c_bipush (v := 6) (pc := 135) X.1 (by decide) dX12_init_135 ?_
  refine c_newa (atype := .int) (ty := .int) (N := 6) (ak := 0) (a0 := .inl (fun _ => 0)) (pc := 137) X.1 X.2.2.1 rfl k_arr_0 rfl (fun _ h => by cases h) rfl (fun _ => rfl) (by decide) (by decide) (Nat.le_of_ble_eq_true rfl) (Nat.le_of_ble_eq_true rfl) (Nat.le_of_ble_eq_true rfl) dX12_init_137 ?_
  refine c_put (k := 92) (pc := 139) [z_0 V, z_1 V, z_2 V, z_3 V, z_4 V, z_5 V, z_6 V, z_7 V, z_8 V, z_9 V, z_10 V, z_11 V, z_12 V, z_13 V, z_14 V, z_15 V, z_16 V, z_17 V, z_18 V, z_19 V, z_20 V, z_21 V, z_22 V, z_23 V, z_24 V, z_25 V, z_26 V, z_27 V, z_28 V, z_29 V, z_30 V, z_31 V, z_32 V, z_33 V, z_34 V, z_35 V, z_36 V, z_37 V, z_38 V, z_39 V, z_40 V, z_41 V, z_42 V, z_43 V, z_44 V, z_45 V, z_46 V, z_47 V, z_48 V, z_49 V, z_50 V, z_51 V, z_52 V, z_53 V, z_54 V, z_55 V, z_56 V, z_57 V, z_58 V, z_59 V, z_60 V, z_61 V, z_62 V, z_63 V, z_64 V, z_65 V, z_66 V, z_67 V, z_68 V, z_69 V, z_70 V, z_71 V, z_72 V, z_73 V, z_74 V, z_75 V, z_76 V, z_77 V, z_78 V, z_79 V, z_80 V, z_81 V, z_82 V, z_83 V, z_84 V, z_85 V, z_86 V, z_87 V, z_88 V, z_89 V, z_90 V, z_91 V, .inr (9, [.ref (V.2.2.1 + 93), .ref (V.2.2.1 + 94), .int 0, .long 0, .long 1, .ref (V.2.2.1 + 95), .ref (V.2.2.1 + 96), .ref (V.2.2.1 + 97), .ref (V.2.2.1 + 98), .ref (V.2.2.1 + 99), .int 0, .int 0, .int 0, .int 0, .int 0, .int 0, .int (-1), .int (-1), .int 0, .int 0, .ref (V.2.2.1 + 100), .int 0, .int 0, .int 0, .ref (V.2.2.1 + 101), .ref (V.2.2.1 + 102), .ref (V.2.2.1 + 103), .ref (V.2.2.1 + 104), .ref (V.2.2.1 + 105), .null, .int 0, .null, .int 0, .int 0, .null, .null, .null, .int 0, .int 0]), .inl (V.2.1 0, 2060, .inl (fun _ => 0)), .inl (V.2.1 1, 60, .inr (.inl (fun _ => 0))), .inl (V.2.1 0, 4, .inl (fun _ => 0)), .inl (V.2.1 0, 4, .inl (upd (upd (upd (upd ((fun _ => 0)) (tn 0) (-1)) (tn 1) (-1)) (tn 2) (-1)) (tn 3) (-1))), .inl (V.2.1 1, 240, .inr (.inl (fun _ => 0))), .inl (V.2.1 2, 900, .inl (fun _ => 0)), .inl (V.2.1 2, 900, .inl (fun _ => 0)), .inl (V.2.1 0, 3, .inl (fun _ => 0)), .inl (V.2.1 0, 5040, .inl (fun _ => 0)), .inl (V.2.1 3, 4096, .inl (fun _ => 0)), .inl (V.2.1 3, 5040, .inl (fun _ => 0)), .inl (V.2.1 0, 4, .inl (fun _ => 0)), .inl (V.2.1 0, 6, .inl (fun _ => 0))] X k_fl_X12_60 (dcl_Mo 28 (by decide)) rfl rfl rfl (Nat.le_of_ble_eq_true rfl) rfl dX12_init_139 ?_
  refine c_aload_n (pc := 142) X.1 0 rfl dX12_init_142 ?_
  refine c_bipush (v := 6) (pc := 143) X.1 (by decide) dX12_init_143 ?_
  refine c_newa (atype := .int) (ty := .int) (N := 6) (ak := 0) (a0 := .inl (fun _ => 0)) (pc := 145) X.1 X.2.2.1 rfl k_arr_0 rfl (fun _ h => by cases h) rfl (fun _ => rfl) (by decide) (by decide) (Nat.le_of_ble_eq_true rfl) (Nat.le_of_ble_eq_true rfl) (Nat.le_of_ble_eq_true rfl) dX12_init_145 ?_
  refine c_put (k := 92) (pc := 147) [z_0 V, z_1 V, z_2 V, z_3 V, z_4 V, z_5 V, z_6 V, z_7 V, z_8 V, z_9 V, z_10 V, z_11 V, z_12 V, z_13 V, z_14 V, z_15 V, z_16 V, z_17 V, z_18 V, z_19 V, z_20 V, z_21 V, z_22 V, z_23 V, z_24 V, z_25 V, z_26 V, z_27 V, z_28 V, z_29 V, z_30 V, z_31 V, z_32 V, z_33 V, z_34 V, z_35 V, z_36 V, z_37 V, z_38 V, z_39 V, z_40 V, z_41 V, z_42 V, z_43 V, z_44 V, z_45 V, z_46 V, z_47 V, z_48 V, z_49 V, z_50 V, z_51 V, z_52 V, z_53 V, z_54 V, z_55 V, z_56 V, z_57 V, z_58 V, z_59 V, z_60 V, z_61 V, z_62 V, z_63 V, z_64 V, z_65 V, z_66 V, z_67 V, z_68 V, z_69 V, z_70 V, z_71 V, z_72 V, z_73 V, z_74 V, z_75 V, z_76 V, z_77 V, z_78 V, z_79 V, z_80 V, z_81 V, z_82 V, z_83 V, z_84 V, z_85 V, z_86 V, z_87 V, z_88 V, z_89 V, z_90 V, z_91 V, .inr (9, [.ref (V.2.2.1 + 93), .ref (V.2.2.1 + 94), .int 0, .long 0, .long 1, .ref (V.2.2.1 + 95), .ref (V.2.2.1 + 96), .ref (V.2.2.1 + 97), .ref (V.2.2.1 + 98), .ref (V.2.2.1 + 99), .int 0, .int 0, .int 0, .int 0, .int 0, .int 0, .int (-1), .int (-1), .int 0, .int 0, .ref (V.2.2.1 + 100), .int 0, .int 0, .int 0, .ref (V.2.2.1 + 101), .ref (V.2.2.1 + 102), .ref (V.2.2.1 + 103), .ref (V.2.2.1 + 104), .ref (V.2.2.1 + 105), .ref (V.2.2.1 + 106), .int 0, .null, .int 0, .int 0, .null, .null, .null, .int 0, .int 0]), .inl (V.2.1 0, 2060, .inl (fun _ => 0)), .inl (V.2.1 1, 60, .inr (.inl (fun _ => 0))), .inl (V.2.1 0, 4, .inl (fun _ => 0)), .inl (V.2.1 0, 4, .inl (upd (upd (upd (upd ((fun _ => 0)) (tn 0) (-1)) (tn 1) (-1)) (tn 2) (-1)) (tn 3) (-1))), .inl (V.2.1 1, 240, .inr (.inl (fun _ => 0))), .inl (V.2.1 2, 900, .inl (fun _ => 0)), .inl (V.2.1 2, 900, .inl (fun _ => 0)), .inl (V.2.1 0, 3, .inl (fun _ => 0)), .inl (V.2.1 0, 5040, .inl (fun _ => 0)), .inl (V.2.1 3, 4096, .inl (fun _ => 0)), .inl (V.2.1 3, 5040, .inl (fun _ => 0)), .inl (V.2.1 0, 4, .inl (fun _ => 0)), .inl (V.2.1 0, 6, .inl (fun _ => 0)), .inl (V.2.1 0, 6, .inl (fun _ => 0))] X k_fl_X12_63 (dcl_Mo 29 (by decide)) rfl rfl rfl (Nat.le_of_ble_eq_true rfl) rfl dX12_init_147 ?_
  refine c_aload_n (pc := 150) X.1 0 rfl dX12_init_150 ?_
  refine c_bipush (v := 6) (pc := 151) X.1 (by decide) dX12_init_151 ?_
  refine c_newa (atype := .long) (ty := .long) (N := 6) (ak := 1) (a0 := .inr (.inl (fun _ => 0))) (pc := 153) X.1 X.2.2.1 rfl k_arr_1 rfl (fun _ h => by cases h) rfl (fun _ => rfl) (by decide) (by decide) (Nat.le_of_ble_eq_true rfl) (Nat.le_of_ble_eq_true rfl) (Nat.le_of_ble_eq_true rfl) dX12_init_153 ?_
  refine c_put (k := 92) (pc := 155) [z_0 V, z_1 V, z_2 V, z_3 V, z_4 V, z_5 V, z_6 V, z_7 V, z_8 V, z_9 V, z_10 V, z_11 V, z_12 V, z_13 V, z_14 V, z_15 V, z_16 V, z_17 V, z_18 V, z_19 V, z_20 V, z_21 V, z_22 V, z_23 V, z_24 V, z_25 V, z_26 V, z_27 V, z_28 V, z_29 V, z_30 V, z_31 V, z_32 V, z_33 V, z_34 V, z_35 V, z_36 V, z_37 V, z_38 V, z_39 V, z_40 V, z_41 V, z_42 V, z_43 V, z_44 V, z_45 V, z_46 V, z_47 V, z_48 V, z_49 V, z_50 V, z_51 V, z_52 V, z_53 V, z_54 V, z_55 V, z_56 V, z_57 V, z_58 V, z_59 V, z_60 V, z_61 V, z_62 V, z_63 V, z_64 V, z_65 V, z_66 V, z_67 V, z_68 V, z_69 V, z_70 V, z_71 V, z_72 V, z_73 V, z_74 V, z_75 V, z_76 V, z_77 V, z_78 V, z_79 V, z_80 V, z_81 V, z_82 V, z_83 V, z_84 V, z_85 V, z_86 V, z_87 V, z_88 V, z_89 V, z_90 V, z_91 V, .inr (9, [.ref (V.2.2.1 + 93), .ref (V.2.2.1 + 94), .int 0, .long 0, .long 1, .ref (V.2.2.1 + 95), .ref (V.2.2.1 + 96), .ref (V.2.2.1 + 97), .ref (V.2.2.1 + 98), .ref (V.2.2.1 + 99), .int 0, .int 0, .int 0, .int 0, .int 0, .int 0, .int (-1), .int (-1), .int 0, .int 0, .ref (V.2.2.1 + 100), .int 0, .int 0, .int 0, .ref (V.2.2.1 + 101), .ref (V.2.2.1 + 102), .ref (V.2.2.1 + 103), .ref (V.2.2.1 + 104), .ref (V.2.2.1 + 105), .ref (V.2.2.1 + 106), .int 0, .ref (V.2.2.1 + 107), .int 0, .int 0, .null, .null, .null, .int 0, .int 0]), .inl (V.2.1 0, 2060, .inl (fun _ => 0)), .inl (V.2.1 1, 60, .inr (.inl (fun _ => 0))), .inl (V.2.1 0, 4, .inl (fun _ => 0)), .inl (V.2.1 0, 4, .inl (upd (upd (upd (upd ((fun _ => 0)) (tn 0) (-1)) (tn 1) (-1)) (tn 2) (-1)) (tn 3) (-1))), .inl (V.2.1 1, 240, .inr (.inl (fun _ => 0))), .inl (V.2.1 2, 900, .inl (fun _ => 0)), .inl (V.2.1 2, 900, .inl (fun _ => 0)), .inl (V.2.1 0, 3, .inl (fun _ => 0)), .inl (V.2.1 0, 5040, .inl (fun _ => 0)), .inl (V.2.1 3, 4096, .inl (fun _ => 0)), .inl (V.2.1 3, 5040, .inl (fun _ => 0)), .inl (V.2.1 0, 4, .inl (fun _ => 0)), .inl (V.2.1 0, 6, .inl (fun _ => 0)), .inl (V.2.1 0, 6, .inl (fun _ => 0)), .inl (V.2.1 1, 6, .inr (.inl (fun _ => 0)))] X k_fl_X12_66 (dcl_Mo 31 (by decide)) rfl rfl rfl (Nat.le_of_ble_eq_true rfl) rfl dX12_init_155 ?_
  refine c_aload_n (pc := 158) X.1 0 rfl dX12_init_158 ?_
  refine c_bipush (v := 60) (pc := 159) X.1 (by decide) dX12_init_159 ?_
  refine c_newa (atype := .int) (ty := .int) (N := 60) (ak := 0) (a0 := .inl (fun _ => 0)) (pc := 161) X.1 X.2.2.1 rfl k_arr_0 rfl (fun _ h => by cases h) rfl (fun _ => rfl) (by decide) (by decide) (Nat.le_of_ble_eq_true rfl) (Nat.le_of_ble_eq_true rfl) (Nat.le_of_ble_eq_true rfl) dX12_init_161 ?_
  refine c_put (k := 92) (pc := 163) [z_0 V, z_1 V, z_2 V, z_3 V, z_4 V, z_5 V, z_6 V, z_7 V, z_8 V, z_9 V, z_10 V, z_11 V, z_12 V, z_13 V, z_14 V, z_15 V, z_16 V, z_17 V, z_18 V, z_19 V, z_20 V, z_21 V, z_22 V, z_23 V, z_24 V, z_25 V, z_26 V, z_27 V, z_28 V, z_29 V, z_30 V, z_31 V, z_32 V, z_33 V, z_34 V, z_35 V, z_36 V, z_37 V, z_38 V, z_39 V, z_40 V, z_41 V, z_42 V, z_43 V, z_44 V, z_45 V, z_46 V, z_47 V, z_48 V, z_49 V, z_50 V, z_51 V, z_52 V, z_53 V, z_54 V, z_55 V, z_56 V, z_57 V, z_58 V, z_59 V, z_60 V, z_61 V, z_62 V, z_63 V, z_64 V, z_65 V, z_66 V, z_67 V, z_68 V, z_69 V, z_70 V, z_71 V, z_72 V, z_73 V, z_74 V, z_75 V, z_76 V, z_77 V, z_78 V, z_79 V, z_80 V, z_81 V, z_82 V, z_83 V, z_84 V, z_85 V, z_86 V, z_87 V, z_88 V, z_89 V, z_90 V, z_91 V, .inr (9, [.ref (V.2.2.1 + 93), .ref (V.2.2.1 + 94), .int 0, .long 0, .long 1, .ref (V.2.2.1 + 95), .ref (V.2.2.1 + 96), .ref (V.2.2.1 + 97), .ref (V.2.2.1 + 98), .ref (V.2.2.1 + 99), .int 0, .int 0, .int 0, .int 0, .int 0, .int 0, .int (-1), .int (-1), .int 0, .int 0, .ref (V.2.2.1 + 100), .int 0, .int 0, .int 0, .ref (V.2.2.1 + 101), .ref (V.2.2.1 + 102), .ref (V.2.2.1 + 103), .ref (V.2.2.1 + 104), .ref (V.2.2.1 + 105), .ref (V.2.2.1 + 106), .int 0, .ref (V.2.2.1 + 107), .int 0, .int 0, .ref (V.2.2.1 + 108), .null, .null, .int 0, .int 0]), .inl (V.2.1 0, 2060, .inl (fun _ => 0)), .inl (V.2.1 1, 60, .inr (.inl (fun _ => 0))), .inl (V.2.1 0, 4, .inl (fun _ => 0)), .inl (V.2.1 0, 4, .inl (upd (upd (upd (upd ((fun _ => 0)) (tn 0) (-1)) (tn 1) (-1)) (tn 2) (-1)) (tn 3) (-1))), .inl (V.2.1 1, 240, .inr (.inl (fun _ => 0))), .inl (V.2.1 2, 900, .inl (fun _ => 0)), .inl (V.2.1 2, 900, .inl (fun _ => 0)), .inl (V.2.1 0, 3, .inl (fun _ => 0)), .inl (V.2.1 0, 5040, .inl (fun _ => 0)), .inl (V.2.1 3, 4096, .inl (fun _ => 0)), .inl (V.2.1 3, 5040, .inl (fun _ => 0)), .inl (V.2.1 0, 4, .inl (fun _ => 0)), .inl (V.2.1 0, 6, .inl (fun _ => 0)), .inl (V.2.1 0, 6, .inl (fun _ => 0)), .inl (V.2.1 1, 6, .inr (.inl (fun _ => 0))), .inl (V.2.1 0, 60, .inl (fun _ => 0))] X k_fl_X12_69 (dcl_Mo 34 (by decide)) rfl rfl rfl (Nat.le_of_ble_eq_true rfl) rfl dX12_init_163 ?_
  refine c_aload_n (pc := 166) X.1 0 rfl dX12_init_166 ?_
  refine c_iconst (v := 5) (pc := 167) X.1 rfl dX12_init_167 ?_
  refine c_newa (atype := .int) (ty := .int) (N := 5) (ak := 0) (a0 := .inl (fun _ => 0)) (pc := 168) X.1 X.2.2.1 rfl k_arr_0 rfl (fun _ h => by cases h) rfl (fun _ => rfl) (by decide) (by decide) (Nat.le_of_ble_eq_true rfl) (Nat.le_of_ble_eq_true rfl) (Nat.le_of_ble_eq_true rfl) dX12_init_168 ?_
  refine c_put (k := 92) (pc := 170) [z_0 V, z_1 V, z_2 V, z_3 V, z_4 V, z_5 V, z_6 V, z_7 V, z_8 V, z_9 V, z_10 V, z_11 V, z_12 V, z_13 V, z_14 V, z_15 V, z_16 V, z_17 V, z_18 V, z_19 V, z_20 V, z_21 V, z_22 V, z_23 V, z_24 V, z_25 V, z_26 V, z_27 V, z_28 V, z_29 V, z_30 V, z_31 V, z_32 V, z_33 V, z_34 V, z_35 V, z_36 V, z_37 V, z_38 V, z_39 V, z_40 V, z_41 V, z_42 V, z_43 V, z_44 V, z_45 V, z_46 V, z_47 V, z_48 V, z_49 V, z_50 V, z_51 V, z_52 V, z_53 V, z_54 V, z_55 V, z_56 V, z_57 V, z_58 V, z_59 V, z_60 V, z_61 V, z_62 V, z_63 V, z_64 V, z_65 V, z_66 V, z_67 V, z_68 V, z_69 V, z_70 V, z_71 V, z_72 V, z_73 V, z_74 V, z_75 V, z_76 V, z_77 V, z_78 V, z_79 V, z_80 V, z_81 V, z_82 V, z_83 V, z_84 V, z_85 V, z_86 V, z_87 V, z_88 V, z_89 V, z_90 V, z_91 V, .inr (9, [.ref (V.2.2.1 + 93), .ref (V.2.2.1 + 94), .int 0, .long 0, .long 1, .ref (V.2.2.1 + 95), .ref (V.2.2.1 + 96), .ref (V.2.2.1 + 97), .ref (V.2.2.1 + 98), .ref (V.2.2.1 + 99), .int 0, .int 0, .int 0, .int 0, .int 0, .int 0, .int (-1), .int (-1), .int 0, .int 0, .ref (V.2.2.1 + 100), .int 0, .int 0, .int 0, .ref (V.2.2.1 + 101), .ref (V.2.2.1 + 102), .ref (V.2.2.1 + 103), .ref (V.2.2.1 + 104), .ref (V.2.2.1 + 105), .ref (V.2.2.1 + 106), .int 0, .ref (V.2.2.1 + 107), .int 0, .int 0, .ref (V.2.2.1 + 108), .ref (V.2.2.1 + 109), .null, .int 0, .int 0]), .inl (V.2.1 0, 2060, .inl (fun _ => 0)), .inl (V.2.1 1, 60, .inr (.inl (fun _ => 0))), .inl (V.2.1 0, 4, .inl (fun _ => 0)), .inl (V.2.1 0, 4, .inl (upd (upd (upd (upd ((fun _ => 0)) (tn 0) (-1)) (tn 1) (-1)) (tn 2) (-1)) (tn 3) (-1))), .inl (V.2.1 1, 240, .inr (.inl (fun _ => 0))), .inl (V.2.1 2, 900, .inl (fun _ => 0)), .inl (V.2.1 2, 900, .inl (fun _ => 0)), .inl (V.2.1 0, 3, .inl (fun _ => 0)), .inl (V.2.1 0, 5040, .inl (fun _ => 0)), .inl (V.2.1 3, 4096, .inl (fun _ => 0)), .inl (V.2.1 3, 5040, .inl (fun _ => 0)), .inl (V.2.1 0, 4, .inl (fun _ => 0)), .inl (V.2.1 0, 6, .inl (fun _ => 0)), .inl (V.2.1 0, 6, .inl (fun _ => 0)), .inl (V.2.1 1, 6, .inr (.inl (fun _ => 0))), .inl (V.2.1 0, 60, .inl (fun _ => 0)), .inl (V.2.1 0, 5, .inl (fun _ => 0))] X k_fl_X12_72 (dcl_Mo 35 (by decide)) rfl rfl rfl (Nat.le_of_ble_eq_true rfl) rfl dX12_init_170 ?_
  refine c_aload_n (pc := 173) X.1 0 rfl dX12_init_173 ?_
  refine c_iconst (v := 5) (pc := 174) X.1 rfl dX12_init_174 ?_
  refine c_newa (atype := .int) (ty := .int) (N := 5) (ak := 0) (a0 := .inl (fun _ => 0)) (pc := 175) X.1 X.2.2.1 rfl k_arr_0 rfl (fun _ h => by cases h) rfl (fun _ => rfl) (by decide) (by decide) (Nat.le_of_ble_eq_true rfl) (Nat.le_of_ble_eq_true rfl) (Nat.le_of_ble_eq_true rfl) dX12_init_175 ?_
  refine c_put (k := 92) (pc := 177) [z_0 V, z_1 V, z_2 V, z_3 V, z_4 V, z_5 V, z_6 V, z_7 V, z_8 V, z_9 V, z_10 V, z_11 V, z_12 V, z_13 V, z_14 V, z_15 V, z_16 V, z_17 V, z_18 V, z_19 V, z_20 V, z_21 V, z_22 V, z_23 V, z_24 V, z_25 V, z_26 V, z_27 V, z_28 V, z_29 V, z_30 V, z_31 V, z_32 V, z_33 V, z_34 V, z_35 V, z_36 V, z_37 V, z_38 V, z_39 V, z_40 V, z_41 V, z_42 V, z_43 V, z_44 V, z_45 V, z_46 V, z_47 V, z_48 V, z_49 V, z_50 V, z_51 V, z_52 V, z_53 V, z_54 V, z_55 V, z_56 V, z_57 V, z_58 V, z_59 V, z_60 V, z_61 V, z_62 V, z_63 V, z_64 V, z_65 V, z_66 V, z_67 V, z_68 V, z_69 V, z_70 V, z_71 V, z_72 V, z_73 V, z_74 V, z_75 V, z_76 V, z_77 V, z_78 V, z_79 V, z_80 V, z_81 V, z_82 V, z_83 V, z_84 V, z_85 V, z_86 V, z_87 V, z_88 V, z_89 V, z_90 V, z_91 V, .inr (9, [.ref (V.2.2.1 + 93), .ref (V.2.2.1 + 94), .int 0, .long 0, .long 1, .ref (V.2.2.1 + 95), .ref (V.2.2.1 + 96), .ref (V.2.2.1 + 97), .ref (V.2.2.1 + 98), .ref (V.2.2.1 + 99), .int 0, .int 0, .int 0, .int 0, .int 0, .int 0, .int (-1), .int (-1), .int 0, .int 0, .ref (V.2.2.1 + 100), .int 0, .int 0, .int 0, .ref (V.2.2.1 + 101), .ref (V.2.2.1 + 102), .ref (V.2.2.1 + 103), .ref (V.2.2.1 + 104), .ref (V.2.2.1 + 105), .ref (V.2.2.1 + 106), .int 0, .ref (V.2.2.1 + 107), .int 0, .int 0, .ref (V.2.2.1 + 108), .ref (V.2.2.1 + 109), .ref (V.2.2.1 + 110), .int 0, .int 0]), .inl (V.2.1 0, 2060, .inl (fun _ => 0)), .inl (V.2.1 1, 60, .inr (.inl (fun _ => 0))), .inl (V.2.1 0, 4, .inl (fun _ => 0)), .inl (V.2.1 0, 4, .inl (upd (upd (upd (upd ((fun _ => 0)) (tn 0) (-1)) (tn 1) (-1)) (tn 2) (-1)) (tn 3) (-1))), .inl (V.2.1 1, 240, .inr (.inl (fun _ => 0))), .inl (V.2.1 2, 900, .inl (fun _ => 0)), .inl (V.2.1 2, 900, .inl (fun _ => 0)), .inl (V.2.1 0, 3, .inl (fun _ => 0)), .inl (V.2.1 0, 5040, .inl (fun _ => 0)), .inl (V.2.1 3, 4096, .inl (fun _ => 0)), .inl (V.2.1 3, 5040, .inl (fun _ => 0)), .inl (V.2.1 0, 4, .inl (fun _ => 0)), .inl (V.2.1 0, 6, .inl (fun _ => 0)), .inl (V.2.1 0, 6, .inl (fun _ => 0)), .inl (V.2.1 1, 6, .inr (.inl (fun _ => 0))), .inl (V.2.1 0, 60, .inl (fun _ => 0)), .inl (V.2.1 0, 5, .inl (fun _ => 0)), .inl (V.2.1 0, 5, .inl (fun _ => 0))] X k_fl_X12_75 (dcl_Mo 36 (by decide)) rfl rfl rfl (Nat.le_of_ble_eq_true rfl) rfl dX12_init_177 ?_
  refine c_aload_n (pc := 180) X.1 0 rfl dX12_init_180 ?_
  refine c_iconst (v := 0) (pc := 181) X.1 rfl dX12_init_181 ?_
  refine c_go (full_wd V) ?_
  refine g_callV (pc := 182) X.1 k_ml_X12_78 (run_Mo_plain h) s_92 rfl ⟨Nat.le_of_ble_eq_true rfl, Nat.le_of_ble_eq_true rfl⟩ ⟨Nat.le_of_ble_eq_true rfl, Nat.le_of_ble_eq_true rfl⟩ _ rfl (Nat.le_of_ble_eq_true rfl) dX12_init_182 ?_
  exact g_vretZ (pc := 185) X.1 rfl rfl dX12_init_185
theorem k_kl_L_7 : Kl "ResidueCoverLaw" 7 8 17 tyX11 := ⟨RX11, TX11, rfl, inF8, tyX11_ok, (gt1 23 rfl rfl), (gt1 24 rfl rfl), (gt1 1 rfl rfl)⟩
theorem k_kl_L_10 : Kl "ResidueCoverLaw" 10 9 39 tyX12 := ⟨RX12, TX12, rfl, inF9, tyX12_ok, (gt6 10 rfl rfl), (gt6 11 rfl rfl), (gt1 10 rfl rfl)⟩
theorem k_ct_L_9 : Lk "ResidueCoverLaw" 9 M_X11_init := Or.inl (gt1 25 rfl rfl)
theorem k_ct_L_12 : Lk "ResidueCoverLaw" 12 M_X12_init := Or.inl (gt6 12 rfl rfl)
set_option maxRecDepth 100000 in
set_option maxHeartbeats 4000000 in
theorem law_entry {V : Ev} {Γ : Cn} {Ln b : Nat} {xs : Nat → Int32} {Q : State → Prop} {σ : St} (X : Cx V Γ M_L_law) (hov : Aov Γ.2.2.2.1) (h0 : Γ.2.2.2.1.heap.size = V.2.2.1 + 0) (hX : va_X b Ln xs Γ.2.2.2.1 Γ.2.2.2.1.heap) (hbl : b < Γ.2.2.2.1.heap.size) (hbA : ¬ AA V b) (hret : ∀ lv σ, Go V Γ M_L_law (room_1, 111, 25373, Q) 1514 lv [.int 1] σ) (h : Mo_plain ini 0 = some σ) (hp : iter (fun s : (Int32 × St) => LW_law_L18 Ln xs s.2 s.1) FUEL (0, σ) = some 1) : Gc V Γ M_L_law (room_1, 0, 0, Q) 0 [(0, .ref b)] [] [] := by
  refine c_new (fs := [.int 0, .long 0, .long 0, .null, .null, .null, .null, .null, .null, .null, .null, .int 0, .null, .null, .null, .null, .null]) (pc := 0) X h0 rfl k_kl_L_7 df_RC (Nat.le_of_ble_eq_true rfl) (Nat.le_of_ble_eq_true rfl) dL_law_0 ?_
  refine c_dup (pc := 3) X rfl dL_law_3 ?_
  refine c_call (k := 0) (pc := 4) X hov h0 rfl k_ct_L_9 ok2_X11_init gi_X11_init rfl rfl rc_RC_0 ⟨Nat.le_of_ble_eq_true rfl, Nat.le_of_ble_eq_true rfl⟩ ⟨Nat.le_of_ble_eq_true rfl, Nat.le_of_ble_eq_true rfl⟩ (Nat.le_of_ble_eq_true rfl) dL_law_4 ?_
  refine c_astore_n (pc := 7) X [(1, .ref (V.2.2.1 + 0)), (0, .ref b)] rfl (Nat.le_of_ble_eq_true rfl) rfl dL_law_7 ?_
  refine c_new (fs := [.null, .null, .int 0, .long 0, .long 0, .null, .null, .null, .null, .null, .int 0, .int 0, .int 0, .int 0, .int 0, .int 0, .int 0, .int 0, .int 0, .int 0, .null, .int 0, .int 0, .int 0, .null, .null, .null, .null, .null, .null, .int 0, .null, .int 0, .int 0, .null, .null, .null, .int 0, .int 0]) (pc := 8) X h0 rfl k_kl_L_10 df_Mo (Nat.le_of_ble_eq_true rfl) (Nat.le_of_ble_eq_true rfl) dL_law_8 ?_
  refine c_dup (pc := 11) X rfl dL_law_11 ?_
  refine c_callM (k := 92) (pc := 12) X hov h0 rfl k_ct_L_12 ok2_X12_init gi_X12_init rfl rfl (rc_Mo h) ⟨Nat.le_of_ble_eq_true rfl, Nat.le_of_ble_eq_true rfl⟩ ⟨Nat.le_of_ble_eq_true rfl, Nat.le_of_ble_eq_true rfl⟩ (Nat.le_of_ble_eq_true rfl) dL_law_12 ?_
  refine g_astore_n (pc := 15) X [(2, .ref (V.2.2.1 + 92)), (1, .ref (V.2.2.1 + 0)), (0, .ref b)] rfl (Nat.le_of_ble_eq_true rfl) rfl dL_law_15 ?_
  refine g_iconst (v := 0) (pc := 16) X rfl dL_law_16 ?_
  refine g_istore_n (pc := 17) X [(3, .int 0), (2, .ref (V.2.2.1 + 92)), (1, .ref (V.2.2.1 + 0)), (0, .ref b)] rfl (Nat.le_of_ble_eq_true rfl) rfl dL_law_17 ?_
  refine g_sub [3, 2, 1, 0] rfl ?_
  exact tl_LW_law_L18 (A := fun r => r = 1) X hX hbl hbA rfl ⟨Nat.le_of_ble_eq_true rfl, Nat.le_of_ble_eq_true rfl⟩ hret (fun r h => h) hp rfl
set_option maxRecDepth 100000 in
theorem tmf_0 : ((flatC narrow_1).drop 41).take 128 = (List.range 128).map (fun j => Cond.eq (.elem (.field (.string "ResidueCover$Reader" 97) "java/lang/String" "value" "[B") (.int (Int32.ofNat j))) (.int ((txB tx0).getD j 0))) := by decide +kernel
theorem tmm_0 {j : Nat} (hj : j < 128) : Cond.eq (.elem (.field (.string "ResidueCover$Reader" 97) "java/lang/String" "value" "[B") (.int (Int32.ofNat j))) (.int ((txB tx0).getD j 0)) ∈ flatC narrow_1 := by
  have h : Cond.eq (.elem (.field (.string "ResidueCover$Reader" 97) "java/lang/String" "value" "[B") (.int (Int32.ofNat j))) (.int ((txB tx0).getD j 0)) ∈ ((flatC narrow_1).drop 41).take 128 := by
    rw [tmf_0]; exact List.mem_map.mpr ⟨j, List.mem_range.mpr hj, rfl⟩
  exact List.mem_of_mem_drop (List.mem_of_mem_take h)
theorem tma_0 : Cond.exactly (.string "ResidueCover$Reader" 97) "java/lang/String" ∈ flatC narrow_1 := List.mem_of_getElem? (i := 37) (by decide +kernel)
theorem tmb_0 : Cond.eq (.field (.string "ResidueCover$Reader" 97) "java/lang/String" "coder" "B") (.int 0) ∈ flatC narrow_1 := List.mem_of_getElem? (i := 38) (by decide +kernel)
theorem tmc_0 : Cond.arrayOf (.field (.string "ResidueCover$Reader" 97) "java/lang/String" "value" "[B") .byte ∈ flatC narrow_1 := List.mem_of_getElem? (i := 39) (by decide +kernel)
theorem tmd_0 : Cond.eq (.length (.field (.string "ResidueCover$Reader" 97) "java/lang/String" "value" "[B")) (.int 128) ∈ flatC narrow_1 := List.mem_of_getElem? (i := 40) (by decide +kernel)
set_option maxRecDepth 100000 in
theorem tmf_1 : ((flatC narrow_1).drop 173).take 82 = (List.range 82).map (fun j => Cond.eq (.elem (.field (.string "ResidueCoverModel" 170) "java/lang/String" "value" "[B") (.int (Int32.ofNat j))) (.int ((txB tx1).getD j 0))) := by decide +kernel
theorem tmm_1 {j : Nat} (hj : j < 82) : Cond.eq (.elem (.field (.string "ResidueCoverModel" 170) "java/lang/String" "value" "[B") (.int (Int32.ofNat j))) (.int ((txB tx1).getD j 0)) ∈ flatC narrow_1 := by
  have h : Cond.eq (.elem (.field (.string "ResidueCoverModel" 170) "java/lang/String" "value" "[B") (.int (Int32.ofNat j))) (.int ((txB tx1).getD j 0)) ∈ ((flatC narrow_1).drop 173).take 82 := by
    rw [tmf_1]; exact List.mem_map.mpr ⟨j, List.mem_range.mpr hj, rfl⟩
  exact List.mem_of_mem_drop (List.mem_of_mem_take h)
theorem tma_1 : Cond.exactly (.string "ResidueCoverModel" 170) "java/lang/String" ∈ flatC narrow_1 := List.mem_of_getElem? (i := 169) (by decide +kernel)
theorem tmb_1 : Cond.eq (.field (.string "ResidueCoverModel" 170) "java/lang/String" "coder" "B") (.int 0) ∈ flatC narrow_1 := List.mem_of_getElem? (i := 170) (by decide +kernel)
theorem tmc_1 : Cond.arrayOf (.field (.string "ResidueCoverModel" 170) "java/lang/String" "value" "[B") .byte ∈ flatC narrow_1 := List.mem_of_getElem? (i := 171) (by decide +kernel)
theorem tmd_1 : Cond.eq (.length (.field (.string "ResidueCoverModel" 170) "java/lang/String" "value" "[B")) (.int 82) ∈ flatC narrow_1 := List.mem_of_getElem? (i := 172) (by decide +kernel)
theorem tme : Cond.not (Cond.eq (.string "ResidueCover$Reader" 97) (.string "ResidueCoverModel" 170)) ∈ flatC narrow_1 := List.mem_of_getElem? (i := 255) (by decide +kernel)
theorem tmg : Cond.eq (.static "java/lang/String" "COMPACT_STRINGS" "Z") (.int 1) ∈ flatC narrow_1 := List.mem_of_getElem? (i := 2) (by decide +kernel)
theorem tmh : Cond.isRef (.static "jdk/internal/util/Preconditions" "SIOOBE_FORMATTER" "Ljava/util/function/BiFunction;") ∈ flatC narrow_1 := List.mem_of_getElem? (i := 3) (by decide +kernel)
theorem txlen0 : (txB tx0).length = 128 := by decide +kernel
theorem txlen1 : (txB tx1).length = 82 := by decide +kernel
theorem two {P : Nat → Prop} (h0 : P 0) (h1 : P 1) : ∀ i, i < 2 → P i := fun i hi => by
  rcases (show i = 0 ∨ i = 1 by omega) with h | h <;> subst h <;> assumption
def tmt (i : Nat) : Term := if i = 0 then .string "ResidueCover$Reader" 97 else .string "ResidueCoverModel" 170
set_option maxRecDepth 100000 in
set_option maxHeartbeats 4000000 in
theorem env_at {s : State} {b : Nat} (hts : ∀ w ∈ lw_tbl, w.before #[Value.ref b] s = true) (hgv : (Jvm.Cond.and given_1 narrow_1).before #[Value.ref b] s = true) : ∃ V : Ev, V.2.2.1 = s.heap.size ∧ Wk V s ∧ Aov s := by
  have hg : ∀ w ∈ lw_good, w.before #[Value.ref b] s = true := fun w hw => hts w (List.mem_filter.mp hw).1
  have hfl : ∀ w ∈ flatC narrow_1, w.before #[Value.ref b] s = true := fun w hw => flat_of_before _ hgv w (List.mem_append_right _ hw)
  obtain ⟨c0, i0, hk0⟩ := u_known (C := RX0) (T := TX0) (N := 6) (n := 6) hg inF0 (hg _ (gt1 223 rfl rfl))
  obtain ⟨c1, i1, hk1⟩ := u_known (C := RX1) (T := TX1) (N := 6) (n := 6) hg inF1 (hg _ (gt1 80 rfl rfl))
  obtain ⟨c2, i2, hk2⟩ := u_known (C := RX2) (T := TX2) (N := 9) (n := 9) hg inF2 (hg _ (gt1 122 rfl rfl))
  obtain ⟨c3, i3, hk3⟩ := u_known (C := RX5) (T := TX5) (N := 9) (n := 9) hg inF3 (hg _ (gt2 10 rfl rfl))
  obtain ⟨c4, i4, hk4⟩ := u_known (C := RX6) (T := TX6) (N := 11) (n := 11) hg inF4 (hg _ (gt1 34 rfl rfl))
  obtain ⟨c5, i5, hk5⟩ := u_known (C := RX7) (T := TX7) (N := 5) (n := 5) hg inF5 (hg _ (gt1 176 rfl rfl))
  obtain ⟨c6, i6, hk6⟩ := u_known (C := RX9) (T := TX9) (N := 3) (n := 3) hg inF6 (hg _ (gt2 50 rfl rfl))
  obtain ⟨c7, i7, hk7⟩ := u_known (C := RX10) (T := TX10) (N := 4) (n := 4) hg inF7 (hg _ (gt1 200 rfl rfl))
  obtain ⟨c8, i8, hk8⟩ := u_known (C := RX11) (T := TX11) (N := 17) (n := 17) hg inF8 (hg _ (gt1 24 rfl rfl))
  obtain ⟨c9, i9, hk9⟩ := u_known (C := RX12) (T := TX12) (N := 39) (n := 39) hg inF9 (hg _ (gt6 11 rfl rfl))
  obtain ⟨a0, ka0, cm0, ha0, hb0, hc0⟩ := Cond.arrayClass_spec (hg _ k_arr_0)
  obtain ⟨a1, ka1, cm1, ha1, hb1, hc1⟩ := Cond.arrayClass_spec (hg _ k_arr_1)
  obtain ⟨a2, ka2, cm2, ha2, hb2, hc2⟩ := Cond.arrayClass_spec (hg _ k_arr_2)
  obtain ⟨a3, ka3, cm3, ha3, hb3, hc3⟩ := Cond.arrayClass_spec (hg _ k_arr_3)
  have ho4 := hts _ (tbl_mem (in_t1 (List.mem_of_getElem? (i := 32) rfl)))
  obtain ⟨cm4, a4, ka4, hf4, -, hb4, hc4, ha4⟩ := Cond.arrayOver_spec ho4
  have ho5 := hts _ (tbl_mem (in_t1 (List.mem_of_getElem? (i := 173) rfl)))
  obtain ⟨cm5, a5, ka5, hf5, -, hb5, hc5, ha5⟩ := Cond.arrayOver_spec ho5
  have ho6 := hts _ (tbl_mem (in_t1 (List.mem_of_getElem? (i := 174) rfl)))
  obtain ⟨cm6, a6, ka6, hf6, -, hb6, hc6, ha6⟩ := Cond.arrayOver_spec ho6
  have ho7 := hts _ (tbl_mem (in_t1 (List.mem_of_getElem? (i := 229) rfl)))
  obtain ⟨cm7, a7, ka7, hf7, -, hb7, hc7, ha7⟩ := arrayOverA_spec ho7
  obtain ⟨adK, adV, hS, hev⟩ := vk_Sof (args := #[Value.ref b]) (s := s) (N := 2) (tm := tmt) (len := [(txB tx0).length, (txB tx1).length]) (byt := [txB tx0, txB tx1]) (A := fun q => s.heap.size ≤ q) (two (by show (txB tx0).length < _; rw [txlen0]; decide) (by show (txB tx1).length < _; rw [txlen1]; decide)) (two (hfl _ tma_0) (hfl _ tma_1)) (two (hfl _ tmb_0) (hfl _ tmb_1)) (two (hfl _ tmc_0) (hfl _ tmc_1)) (two (by show (Cond.eq _ (.int (Int32.ofNat (txB tx0).length))).before _ _ = true; rw [txlen0]; exact hfl _ tmd_0) (by show (Cond.eq _ (.int (Int32.ofNat (txB tx1).length))).before _ _ = true; rw [txlen1]; exact hfl _ tmd_1)) (two (fun j hj => hfl _ (tmm_0 (by rw [← txlen0]; exact hj))) (fun j hj => hfl _ (tmm_1 (by rw [← txlen1]; exact hj)))) (fun i j hi hj hne => by
      have hij : (i = 0 ∧ j = 1) ∨ (i = 1 ∧ j = 0) := by omega
      rcases hij with ⟨rfl, rfl⟩ | ⟨rfl, rfl⟩
      · exact Or.inl (hfl _ tme)
      · exact Or.inr (hfl _ tme)) (fun a h1 h2 => absurd h1 (Nat.not_lt.mpr h2))
  have hE0 := hev 0 (by decide)
  have hE1 := hev 1 (by decide)
  obtain ⟨vp, hvp, hvr⟩ := Cond.isRef_spec (hfl _ tmh)
  let V : Ev := ((fun k => [c0, c1, c2, c3, c4, c5, c6, c7, c8, c9].getD k c0, fun k => [i0, i1, i2, i3, i4, i5, i6, i7, i8, i9].getD k i0), (fun k => [a0, a1, a2, a3, a4, a5, a6, a7].getD k a0), s.heap.size, fun i => if i < 2 then adK i else adV (i - 2))
  refine ⟨V, rfl, ⟨⟨?_, ?_⟩, ?_, ?_⟩, ?_⟩
  · intro k q hq
    match k, hq with
    | 0, hq => cases hq; exact hk0
    | 1, hq => cases hq; exact hk1
    | 2, hq => cases hq; exact hk2
    | 3, hq => cases hq; exact hk3
    | 4, hq => cases hq; exact hk4
    | 5, hq => cases hq; exact hk5
    | 6, hq => cases hq; exact hk6
    | 7, hq => cases hq; exact hk7
    | 8, hq => cases hq; exact hk8
    | 9, hq => cases hq; exact hk9
    | k + 10, hq => exact absurd hq (by simp [vwCl])
  · intro k q hq
    match k, hq with
    | 0, hq => cases hq; exact ⟨fun n z => ⟨(fun k h => by cases h), ka0, hb0, cm0, hc0⟩, ha0⟩
    | 1, hq => cases hq; exact ⟨fun n z => ⟨(fun k h => by cases h), ka1, hb1, cm1, hc1⟩, ha1⟩
    | 2, hq => cases hq; exact ⟨fun n z => ⟨(fun k h => by cases h), ka2, hb2, cm2, hc2⟩, ha2⟩
    | 3, hq => cases hq; exact ⟨fun n z => ⟨(fun k h => by cases h), ka3, hb3, cm3, hc3⟩, ha3⟩
    | 4, hq => cases hq; exact ⟨fun n z => ⟨(fun k h => by cases h), ka4, hb4, cm4, hc4⟩, ka4, cm4, hb4, hc4, hf4, ha4⟩
    | 5, hq => cases hq; exact ⟨fun n z => ⟨(fun k h => by cases h), ka5, hb5, cm5, hc5⟩, ka5, cm5, hb5, hc5, hf5, ha5⟩
    | 6, hq => cases hq; exact ⟨fun n z => ⟨(fun k h => by cases h), ka6, hb6, cm6, hc6⟩, ka6, cm6, hb6, hc6, hf6, ha6⟩
    | 7, hq => cases hq; exact ⟨fun n z => ⟨(fun k h => by cases h), ka7, hb7, cm7, hc7⟩, ha7⟩
    | k + 8, hq => exact absurd hq (by simp [tys])
  · intro w hw
    exact va_Nw.of (nest_on (List.mem_filter.mp hw).2) (hts w (tbl_mem (List.mem_filter.mp hw).1))
  · have hAA : ∀ a : Nat, a < s.heap.size → ¬ AA V a := fun a h1 h2 => absurd h1 (Nat.not_lt.mpr h2)
    refine ⟨vk_R.of (hts _ (tbl_mem (in_t3 (List.mem_of_getElem? (i := 11) rfl)))) hE0, vk_R.of (hts _ (tbl_mem (in_t6 (List.mem_of_getElem? (i := 226) rfl)))) hE1, ?_, va_Zof (hts _ (tbl_mem (in_t3 (List.mem_of_getElem? (i := 21) rfl)))) (hg _ (gt1 14 rfl rfl)) (va_eqi (hfl _ tmg)) hAA, vp, ?_, va_Zof (hts _ (tbl_mem (in_t3 (List.mem_of_getElem? (i := 41) rfl)))) (hg _ (gt1 16 rfl rfl)) hvp hAA⟩
    · refine ⟨fun i hi => ?_, fun i j hi hj e => ?_⟩
      · have h9 := hS.1 i hi
        have e1 : V.2.2.2 i = adK i := if_pos hi
        have e2 : V.2.2.2 (i + 2) = adV i := by show (if i + 2 < 2 then adK (i + 2) else adV (i + 2 - 2)) = adV i; rw [if_neg (by omega), Nat.add_sub_cancel]
        have e3 : (fun i => V.2.2.2 (i + 2)) i = adV i := e2
        rw [e1, e3]
        exact h9
      · have e1 : V.2.2.2 i = adK i := if_pos hi
        have e2 : V.2.2.2 j = adK j := if_pos hj
        rw [e1, e2] at e
        exact hS.2 i j hi hj e
    · cases vp <;> first | rfl | cases hvr
  · exact ⟨va_AO.of ho4, va_AO.of ho5, va_AO.of ho6, ho7⟩
set_option maxRecDepth 100000 in
set_option maxHeartbeats 4000000 in
/-- the law from its entry, out of what its plain functions say -/
theorem start_of (hpure : ∀ (Ln : Nat) (xs : Nat → Int32), Ln ≤ 3072 → ∃ σ1, Mo_plain ini 0 = some σ1 ∧ iter (fun s : (Int32 × St) => LW_law_L18 Ln xs s.2 s.1) FUEL (0, σ1) = some 1) {p : Program} {e : Env} {s : State} {m : MethodId} {below : List Frame} {meth : Method} {c : Code} (l : Launch) {b L : Nat} {xs : Nat → Int32} (hL : L ≤ 3072) (C0 : lw_At p s m meth c b L xs) : W p l e room_1 s m #[Value.ref b] below meth c s.heap [] 0 0 (lw_Z below #[Value.ref b] s) (entryFrame m ([Value.ref b] : List Value).toArray 4) := by
  obtain ⟨hx, hb, hr, hml, hown, hts, hX, hbl, hlocks, hgv⟩ := C0
  obtain ⟨V, hV, hW, hov⟩ := env_at hts hgv
  obtain ⟨σ1, h1, h2⟩ := hpure L xs hL
  have hg : ∀ w ∈ lw_good, w.before #[Value.ref b] s = true := fun w hw => hts w (List.mem_filter.mp hw).1
  have X : Cx V (p, l, e, s, m, #[Value.ref b], below, meth, c) M_L_law := ⟨hx, hb, hml, hown, hg, hr, hlocks, hW⟩
  have hA : ∀ q : Nat, AA V q → s.heap.size ≤ q := fun q h => by rw [← hV]; exact h
  have hret : ∀ lv σ, Go V (p, l, e, s, m, #[Value.ref b], below, meth, c) M_L_law (room_1, 111, 25373, lw_Z below #[Value.ref b] s) 1514 lv [.int 1] σ := by
    intro lv σ H locs ls hP hS hl
    refine va_forget (fun q hq => hA _ (hS.2.2 q hq)) ?_
    refine W.widen (k := 600000) (n := 7302250) (Nat.le_of_ble_eq_true rfl) (Nat.le_of_ble_eq_true rfl) ?_
    exact lw_ret hx hb hr hlocks dL_law_1514
  have key := law_entry X hov (by rw [hV]; rfl) hX hbl (fun q => absurd hbl (Nat.not_lt.mpr (hA _ q))) hret h1 h2
  rw [lg_entry_eq]
  refine key s.heap [] _ (fun k q h => by simp [mkw] at h) va_S.rf (lv_entry [Value.ref b] (n := 4) (Nat.le_of_ble_eq_true rfl))
