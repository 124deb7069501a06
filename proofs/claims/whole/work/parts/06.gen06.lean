theorem dX12_leastPrime_0 : decode cX12_leastPrime 0 = .ok (.iconst 2, 1) := by decide +kernel
theorem dX12_leastPrime_1 : decode cX12_leastPrime 1 = .ok (.istore_n 1, 1) := by decide +kernel
theorem dX12_leastPrime_2 : decode cX12_leastPrime 2 = .ok (.iload_n 0, 1) := by decide +kernel
theorem dX12_leastPrime_3 : decode cX12_leastPrime 3 = .ok (.iload_n 1, 1) := by decide +kernel
theorem dX12_leastPrime_4 : decode cX12_leastPrime 4 = .ok (.irem, 1) := by decide +kernel
theorem dX12_leastPrime_5 : decode cX12_leastPrime 5 = .ok (.ifCond .eq 9, 3) := by decide +kernel
theorem dX12_leastPrime_8 : decode cX12_leastPrime 8 = .ok (.iinc 1 1, 3) := by decide +kernel
theorem dX12_leastPrime_11 : decode cX12_leastPrime 11 = .ok (.goto (-9), 3) := by decide +kernel
theorem dX12_leastPrime_14 : decode cX12_leastPrime 14 = .ok (.iload_n 1, 1) := by decide +kernel
theorem dX12_leastPrime_15 : decode cX12_leastPrime 15 = .ok (.ireturn, 1) := by decide +kernel
noncomputable def Mo_leastPrime_L2 (l0 : Int32) (x1 : Int32) : Option (Int32 ⊕ Int32) :=
  chk (nzI x1) (if (jrem l0 x1) = 0 then (some (.inr x1)) else (bnd (x1 + 1) (fun v2 => some (.inl v2))))
set_option maxRecDepth 100000 in
set_option maxHeartbeats 4000000 in
theorem tb_Mo_leastPrime_L2 {V : Ev} {Γ : Cn} {fin : Option Value × St} {σ : St} {l0 : Int32} {x1 : Int32} {o : (Int32 ⊕ Int32)} (X : Cx V Γ M_X12_leastPrime) {A : (Int32 ⊕ Int32) → Prop}  (hb2 : ∀ (x1 : Int32), A (.inl x1) → Go V Γ M_X12_leastPrime (Zm V Γ 0 fin) 2 [(0, .int l0), (1, .int x1)] [] σ) (hx2 : ∀ (x1 : Int32), A (.inr x1) → Go V Γ M_X12_leastPrime (Zm V Γ 0 fin) 14 [(1, .int x1)] [] σ) (h : Mo_leastPrime_L2 l0 x1 = some o) (hA : A o) : Go V Γ M_X12_leastPrime (Zm V Γ 0 fin) 2 [(0, .int l0), (1, .int x1)] [] σ := by
  unfold Mo_leastPrime_L2 at h
  refine g_iload_n (pc := 2) X 0 rfl dX12_leastPrime_2 ?_
  refine g_iload_n (pc := 3) X 1 rfl dX12_leastPrime_3 ?_
  obtain ⟨c1, h⟩ := chk_e h
  refine g_irem (pc := 4) X (nzI_e c1) dX12_leastPrime_4 ?_
  refine g_if_eq (pc := 5) (tgt := 14) X dX12_leastPrime_5 rfl (fun c3 => ?_) (fun c3 => ?_)
  · replace h := if_t c3 h
    refine g_sub [1] rfl ?_
    cases h
    exact hx2 _ hA
  · replace h := if_f c3 h
    obtain ⟨v2, e_v2, h⟩ := bnd_e h
    refine g_iinc (pc := 8) (v := v2) X [(1, .int v2), (0, .int l0)] 1 rfl (by rw [e_v2]; rfl) (Nat.le_of_ble_eq_true rfl) rfl dX12_leastPrime_8 ?_
    refine g_goto (pc := 11) (tgt := 2) X dX12_leastPrime_11 rfl ?_
    refine g_sub [1, 0] rfl ?_
    cases h
    exact hb2 _ hA
set_option maxRecDepth 100000 in
theorem tl_Mo_leastPrime_L2 {V : Ev} {Γ : Cn} {fin : Option Value × St} {l0 : Int32} {σ : St} {x1 : Int32} (X : Cx V Γ M_X12_leastPrime)  {y1 : Int32} {n : Nat} (h : iter (fun s : Int32 => Mo_leastPrime_L2 l0 s) n x1 = some y1) (hK : Go V Γ M_X12_leastPrime (Zm V Γ 0 fin) 14 [(1, .int y1)] [] σ) : Go V Γ M_X12_leastPrime (Zm V Γ 0 fin) 2 [(0, .int l0), (1, .int x1)] [] σ := by
  refine iter_go (G := (fun s : Int32 => Go V Γ M_X12_leastPrime (Zm V Γ 0 fin) 2 [(0, .int l0), (1, .int s)] [] σ)) (fun s o ho hS => ?_) n x1 h
  exact tb_Mo_leastPrime_L2 X  (fun _ h9 => h9) (fun _ he => by cases he; exact hK) ho hS
noncomputable def Mo_leastPrime (p0 : Int32) : Option Int32 :=
  bd (iter (fun s : Int32 => Mo_leastPrime_L2 p0 s) FUEL 2) (fun v4 => some v4)
set_option maxRecDepth 100000 in
set_option maxHeartbeats 4000000 in
theorem tm_Mo_leastPrime {V : Ev} {Γ : Cn} {fin : Option Value × St} {σ : St} {p0 : Int32} {o : Int32} (X : Cx V Γ M_X12_leastPrime) {A : Int32 → Prop}  (hr : ∀ (r : Int32), A r → (some (.int r), σ) = fin) (h : Mo_leastPrime p0 = some o) (hA : A o) : Go V Γ M_X12_leastPrime (Zm V Γ 0 fin) 0 [(0, .int p0)] [] σ := by
  unfold Mo_leastPrime at h
  refine g_iconst (v := 2) (pc := 0) X rfl dX12_leastPrime_0 ?_
  refine g_istore_n (pc := 1) X [(1, .int 2), (0, .int p0)] rfl (Nat.le_of_ble_eq_true rfl) rfl dX12_leastPrime_1 ?_
  refine g_sub [1, 0] rfl ?_
  obtain ⟨v4, hi5, h⟩ := bd_e h
  refine tl_Mo_leastPrime_L2 X  hi5 ?_
  refine g_iload_n (pc := 14) X 0 rfl dX12_leastPrime_14 ?_
  cases h
  exact g_iret (pc := 15) X rfl rfl (hr _ hA) dX12_leastPrime_15
set_option maxRecDepth 100000 in
theorem run_Mo_leastPrime {V : Ev} {σ : St} {p0 : Int32} {o : Int32}   (h : Mo_leastPrime p0 = some o) : Rs V 0 M_X12_leastPrime [.int p0] σ (some (.int o), σ) := by
  refine Rs.of (by decide +kernel) (Nat.le_of_ble_eq_true rfl) (fun Γ X => ?_)
  exact tm_Mo_leastPrime X (A := fun o1 => o1 = o)  (fun _ e => by rw [e]) h rfl
theorem dX12_laysTree_0 : decode cX12_laysTree 0 = .ok (.iconst 1, 1) := by decide +kernel
theorem dX12_laysTree_1 : decode cX12_laysTree 1 = .ok (.istore_n 1, 1) := by decide +kernel
theorem dX12_laysTree_2 : decode cX12_laysTree 2 = .ok (.iconst 1, 1) := by decide +kernel
theorem dX12_laysTree_3 : decode cX12_laysTree 3 = .ok (.istore_n 2, 1) := by decide +kernel
theorem dX12_laysTree_4 : decode cX12_laysTree 4 = .ok (.iconst 0, 1) := by decide +kernel
theorem dX12_laysTree_5 : decode cX12_laysTree 5 = .ok (.istore_n 3, 1) := by decide +kernel
theorem dX12_laysTree_6 : decode cX12_laysTree 6 = .ok (.iload_n 3, 1) := by decide +kernel
theorem dX12_laysTree_7 : decode cX12_laysTree 7 = .ok (.iconst 4, 1) := by decide +kernel
theorem dX12_laysTree_8 : decode cX12_laysTree 8 = .ok (.if_icmp .ge 16, 3) := by decide +kernel
theorem dX12_laysTree_11 : decode cX12_laysTree 11 = .ok (.aload_n 0, 1) := by decide +kernel
theorem dX12_laysTree_12 : decode cX12_laysTree 12 = .ok (.getfield 57, 3) := by decide +kernel
theorem dX12_laysTree_15 : decode cX12_laysTree 15 = .ok (.iload_n 3, 1) := by decide +kernel
theorem dX12_laysTree_16 : decode cX12_laysTree 16 = .ok (.iconst 0, 1) := by decide +kernel
theorem dX12_laysTree_17 : decode cX12_laysTree 17 = .ok (.iastore, 1) := by decide +kernel
theorem dX12_laysTree_18 : decode cX12_laysTree 18 = .ok (.iinc 3 1, 3) := by decide +kernel
theorem dX12_laysTree_21 : decode cX12_laysTree 21 = .ok (.goto (-15), 3) := by decide +kernel
theorem dX12_laysTree_24 : decode cX12_laysTree 24 = .ok (.aload_n 0, 1) := by decide +kernel
theorem dX12_laysTree_25 : decode cX12_laysTree 25 = .ok (.getfield 54, 3) := by decide +kernel
theorem dX12_laysTree_28 : decode cX12_laysTree 28 = .ok (.iconst 0, 1) := by decide +kernel
theorem dX12_laysTree_29 : decode cX12_laysTree 29 = .ok (.iconst 1, 1) := by decide +kernel
theorem dX12_laysTree_30 : decode cX12_laysTree 30 = .ok (.bastore, 1) := by decide +kernel
theorem dX12_laysTree_31 : decode cX12_laysTree 31 = .ok (.iload_n 2, 1) := by decide +kernel
theorem dX12_laysTree_32 : decode cX12_laysTree 32 = .ok (.ifCond .le 160, 3) := by decide +kernel
theorem dX12_laysTree_35 : decode cX12_laysTree 35 = .ok (.iconst 0, 1) := by decide +kernel
theorem dX12_laysTree_36 : decode cX12_laysTree 36 = .ok (.istore_n 2, 1) := by decide +kernel
theorem dX12_laysTree_37 : decode cX12_laysTree 37 = .ok (.aload_n 0, 1) := by decide +kernel
theorem dX12_laysTree_38 : decode cX12_laysTree 38 = .ok (.getfield 57, 3) := by decide +kernel
theorem dX12_laysTree_41 : decode cX12_laysTree 41 = .ok (.iconst 3, 1) := by decide +kernel
theorem dX12_laysTree_42 : decode cX12_laysTree 42 = .ok (.iload_n 1, 1) := by decide +kernel
theorem dX12_laysTree_43 : decode cX12_laysTree 43 = .ok (.iastore, 1) := by decide +kernel
theorem dX12_laysTree_44 : decode cX12_laysTree 44 = .ok (.iconst 0, 1) := by decide +kernel
theorem dX12_laysTree_45 : decode cX12_laysTree 45 = .ok (.istore_n 3, 1) := by decide +kernel
theorem dX12_laysTree_46 : decode cX12_laysTree 46 = .ok (.iload_n 3, 1) := by decide +kernel
theorem dX12_laysTree_47 : decode cX12_laysTree 47 = .ok (.iload_n 1, 1) := by decide +kernel
theorem dX12_laysTree_48 : decode cX12_laysTree 48 = .ok (.if_icmp .ge 87, 3) := by decide +kernel
theorem dX12_laysTree_51 : decode cX12_laysTree 51 = .ok (.aload_n 0, 1) := by decide +kernel
theorem dX12_laysTree_52 : decode cX12_laysTree 52 = .ok (.getfield 54, 3) := by decide +kernel
theorem dX12_laysTree_55 : decode cX12_laysTree 55 = .ok (.iload_n 3, 1) := by decide +kernel
theorem dX12_laysTree_56 : decode cX12_laysTree 56 = .ok (.baload, 1) := by decide +kernel
theorem dX12_laysTree_57 : decode cX12_laysTree 57 = .ok (.ifCond .ne 6, 3) := by decide +kernel
theorem dX12_laysTree_60 : decode cX12_laysTree 60 = .ok (.goto 69, 3) := by decide +kernel
theorem dX12_laysTree_63 : decode cX12_laysTree 63 = .ok (.aload_n 0, 1) := by decide +kernel
theorem dX12_laysTree_64 : decode cX12_laysTree 64 = .ok (.iload_n 3, 1) := by decide +kernel
theorem dX12_laysTree_65 : decode cX12_laysTree 65 = .ok (.iload_n 1, 1) := by decide +kernel
theorem dX12_laysTree_66 : decode cX12_laysTree 66 = .ok (.invokevirtual 345, 3) := by decide +kernel
theorem dX12_laysTree_69 : decode cX12_laysTree 69 = .ok (.istore 4, 2) := by decide +kernel
theorem dX12_laysTree_71 : decode cX12_laysTree 71 = .ok (.aload_n 0, 1) := by decide +kernel
theorem dX12_laysTree_72 : decode cX12_laysTree 72 = .ok (.getfield 57, 3) := by decide +kernel
theorem dX12_laysTree_75 : decode cX12_laysTree 75 = .ok (.iconst 2, 1) := by decide +kernel
theorem dX12_laysTree_76 : decode cX12_laysTree 76 = .ok (.dup2, 1) := by decide +kernel
theorem dX12_laysTree_77 : decode cX12_laysTree 77 = .ok (.iaload, 1) := by decide +kernel
theorem dX12_laysTree_78 : decode cX12_laysTree 78 = .ok (.iconst 1, 1) := by decide +kernel
theorem dX12_laysTree_79 : decode cX12_laysTree 79 = .ok (.iadd, 1) := by decide +kernel
theorem dX12_laysTree_80 : decode cX12_laysTree 80 = .ok (.iastore, 1) := by decide +kernel
theorem dX12_laysTree_81 : decode cX12_laysTree 81 = .ok (.iload 4, 2) := by decide +kernel
theorem dX12_laysTree_83 : decode cX12_laysTree 83 = .ok (.iconst 2, 1) := by decide +kernel
theorem dX12_laysTree_84 : decode cX12_laysTree 84 = .ok (.if_icmp .ge 14, 3) := by decide +kernel
theorem dX12_laysTree_87 : decode cX12_laysTree 87 = .ok (.aload_n 0, 1) := by decide +kernel
theorem dX12_laysTree_88 : decode cX12_laysTree 88 = .ok (.getfield 57, 3) := by decide +kernel
theorem dX12_laysTree_91 : decode cX12_laysTree 91 = .ok (.iload 4, 2) := by decide +kernel
theorem dX12_laysTree_93 : decode cX12_laysTree 93 = .ok (.dup2, 1) := by decide +kernel
theorem dX12_laysTree_94 : decode cX12_laysTree 94 = .ok (.iaload, 1) := by decide +kernel
theorem dX12_laysTree_95 : decode cX12_laysTree 95 = .ok (.iconst 1, 1) := by decide +kernel
theorem dX12_laysTree_96 : decode cX12_laysTree 96 = .ok (.iadd, 1) := by decide +kernel
theorem dX12_laysTree_97 : decode cX12_laysTree 97 = .ok (.iastore, 1) := by decide +kernel
theorem dX12_laysTree_98 : decode cX12_laysTree 98 = .ok (.aload_n 0, 1) := by decide +kernel
theorem dX12_laysTree_99 : decode cX12_laysTree 99 = .ok (.getfield 54, 3) := by decide +kernel
theorem dX12_laysTree_102 : decode cX12_laysTree 102 = .ok (.iload_n 3, 1) := by decide +kernel
theorem dX12_laysTree_103 : decode cX12_laysTree 103 = .ok (.iload 4, 2) := by decide +kernel
theorem dX12_laysTree_105 : decode cX12_laysTree 105 = .ok (.iconst 2, 1) := by decide +kernel
theorem dX12_laysTree_106 : decode cX12_laysTree 106 = .ok (.if_icmp .ne 7, 3) := by decide +kernel
theorem dX12_laysTree_109 : decode cX12_laysTree 109 = .ok (.iconst 1, 1) := by decide +kernel
theorem dX12_laysTree_110 : decode cX12_laysTree 110 = .ok (.goto 4, 3) := by decide +kernel
theorem dX12_laysTree_113 : decode cX12_laysTree 113 = .ok (.iconst 0, 1) := by decide +kernel
theorem dX12_laysTree_114 : decode cX12_laysTree 114 = .ok (.bastore, 1) := by decide +kernel
theorem dX12_laysTree_115 : decode cX12_laysTree 115 = .ok (.iload_n 2, 1) := by decide +kernel
theorem dX12_laysTree_116 : decode cX12_laysTree 116 = .ok (.iload 4, 2) := by decide +kernel
theorem dX12_laysTree_118 : decode cX12_laysTree 118 = .ok (.iconst 2, 1) := by decide +kernel
theorem dX12_laysTree_119 : decode cX12_laysTree 119 = .ok (.if_icmp .ne 7, 3) := by decide +kernel
theorem dX12_laysTree_122 : decode cX12_laysTree 122 = .ok (.iconst 1, 1) := by decide +kernel
theorem dX12_laysTree_123 : decode cX12_laysTree 123 = .ok (.goto 4, 3) := by decide +kernel
theorem dX12_laysTree_126 : decode cX12_laysTree 126 = .ok (.iconst 0, 1) := by decide +kernel
theorem dX12_laysTree_127 : decode cX12_laysTree 127 = .ok (.iadd, 1) := by decide +kernel
theorem dX12_laysTree_128 : decode cX12_laysTree 128 = .ok (.istore_n 2, 1) := by decide +kernel
theorem dX12_laysTree_129 : decode cX12_laysTree 129 = .ok (.iinc 3 1, 3) := by decide +kernel
theorem dX12_laysTree_132 : decode cX12_laysTree 132 = .ok (.goto (-86), 3) := by decide +kernel
theorem dX12_laysTree_135 : decode cX12_laysTree 135 = .ok (.iload_n 2, 1) := by decide +kernel
theorem dX12_laysTree_136 : decode cX12_laysTree 136 = .ok (.ifCond .ne 6, 3) := by decide +kernel
theorem dX12_laysTree_139 : decode cX12_laysTree 139 = .ok (.goto 53, 3) := by decide +kernel
theorem dX12_laysTree_142 : decode cX12_laysTree 142 = .ok (.aload_n 0, 1) := by decide +kernel
theorem dX12_laysTree_143 : decode cX12_laysTree 143 = .ok (.getfield 253, 3) := by decide +kernel
theorem dX12_laysTree_146 : decode cX12_laysTree 146 = .ok (.iload_n 1, 1) := by decide +kernel
theorem dX12_laysTree_147 : decode cX12_laysTree 147 = .ok (.idiv, 1) := by decide +kernel
theorem dX12_laysTree_148 : decode cX12_laysTree 148 = .ok (.invokestatic 348, 3) := by decide +kernel
theorem dX12_laysTree_151 : decode cX12_laysTree 151 = .ok (.istore_n 3, 1) := by decide +kernel
theorem dX12_laysTree_152 : decode cX12_laysTree 152 = .ok (.iload_n 1, 1) := by decide +kernel
theorem dX12_laysTree_153 : decode cX12_laysTree 153 = .ok (.istore 4, 2) := by decide +kernel
theorem dX12_laysTree_155 : decode cX12_laysTree 155 = .ok (.iload 4, 2) := by decide +kernel
theorem dX12_laysTree_157 : decode cX12_laysTree 157 = .ok (.iload_n 1, 1) := by decide +kernel
theorem dX12_laysTree_158 : decode cX12_laysTree 158 = .ok (.iload_n 3, 1) := by decide +kernel
theorem dX12_laysTree_159 : decode cX12_laysTree 159 = .ok (.imul, 1) := by decide +kernel
theorem dX12_laysTree_160 : decode cX12_laysTree 160 = .ok (.if_icmp .ge 25, 3) := by decide +kernel
theorem dX12_laysTree_163 : decode cX12_laysTree 163 = .ok (.aload_n 0, 1) := by decide +kernel
theorem dX12_laysTree_164 : decode cX12_laysTree 164 = .ok (.getfield 54, 3) := by decide +kernel
theorem dX12_laysTree_167 : decode cX12_laysTree 167 = .ok (.iload 4, 2) := by decide +kernel
theorem dX12_laysTree_169 : decode cX12_laysTree 169 = .ok (.aload_n 0, 1) := by decide +kernel
theorem dX12_laysTree_170 : decode cX12_laysTree 170 = .ok (.getfield 54, 3) := by decide +kernel
theorem dX12_laysTree_173 : decode cX12_laysTree 173 = .ok (.iload 4, 2) := by decide +kernel
theorem dX12_laysTree_175 : decode cX12_laysTree 175 = .ok (.iload_n 1, 1) := by decide +kernel
theorem dX12_laysTree_176 : decode cX12_laysTree 176 = .ok (.irem, 1) := by decide +kernel
theorem dX12_laysTree_177 : decode cX12_laysTree 177 = .ok (.baload, 1) := by decide +kernel
theorem dX12_laysTree_178 : decode cX12_laysTree 178 = .ok (.bastore, 1) := by decide +kernel
theorem dX12_laysTree_179 : decode cX12_laysTree 179 = .ok (.iinc 4 1, 3) := by decide +kernel
theorem dX12_laysTree_182 : decode cX12_laysTree 182 = .ok (.goto (-27), 3) := by decide +kernel
theorem dX12_laysTree_185 : decode cX12_laysTree 185 = .ok (.iload_n 1, 1) := by decide +kernel
theorem dX12_laysTree_186 : decode cX12_laysTree 186 = .ok (.iload_n 3, 1) := by decide +kernel
theorem dX12_laysTree_187 : decode cX12_laysTree 187 = .ok (.imul, 1) := by decide +kernel
theorem dX12_laysTree_188 : decode cX12_laysTree 188 = .ok (.istore_n 1, 1) := by decide +kernel
theorem dX12_laysTree_189 : decode cX12_laysTree 189 = .ok (.goto (-158), 3) := by decide +kernel
theorem dX12_laysTree_192 : decode cX12_laysTree 192 = .ok (.return_, 1) := by decide +kernel
noncomputable def Mo_laysTree_L6 (l1 : Int32) (l2 : Int32) (σ : St) (x3 : Int32) : Option ((Int32 × St) ⊕ St) :=
  if 4 ≤ x3 then (some (.inr σ)) else (chk (ix x3 4) (bnd (wI σ 104 (tn x3) 0) (fun σ2 => bnd (x3 + 1) (fun v3 => some (.inl (v3, σ2))))))
set_option maxRecDepth 100000 in
set_option maxHeartbeats 4000000 in
theorem tb_Mo_laysTree_L6 {V : Ev} {Γ : Cn} {fin : Option Value × St} {l1 : Int32} {l2 : Int32} {σ : St} {x3 : Int32} {o : ((Int32 × St) ⊕ St)} (X : Cx V Γ M_X12_laysTree) {A : ((Int32 × St) ⊕ St) → Prop}  (hb6 : ∀ (x3 : Int32) (σ9 : St), A (.inl (x3, σ9)) → Go V Γ M_X12_laysTree (Zm V Γ 3 fin) 6 [(0, .ref (V.2.2.1 + 92)), (1, .int l1), (2, .int l2), (3, .int x3)] [] σ9) (hx6 : ∀ (σ9 : St), A (.inr σ9) → Go V Γ M_X12_laysTree (Zm V Γ 3 fin) 24 [(0, .ref (V.2.2.1 + 92)), (1, .int l1), (2, .int l2)] [] σ9) (h : Mo_laysTree_L6 l1 l2 σ x3 = some o) (hA : A o) : Go V Γ M_X12_laysTree (Zm V Γ 3 fin) 6 [(0, .ref (V.2.2.1 + 92)), (1, .int l1), (2, .int l2), (3, .int x3)] [] σ := by
  unfold Mo_laysTree_L6 at h
  refine g_iload_n (pc := 6) X 3 rfl dX12_laysTree_6 ?_
  refine g_iconst (v := 4) (pc := 7) X rfl dX12_laysTree_7 ?_
  refine g_icmp_ge (pc := 8) (tgt := 24) X dX12_laysTree_8 rfl (fun c4 => ?_) (fun c4 => ?_)
  · replace h := if_t c4 h
    refine g_sub [0, 1, 2] rfl ?_
    cases h
    exact hx6 _ hA
  · replace h := if_f c4 h
    refine g_aload_n (pc := 11) X 0 rfl dX12_laysTree_11 ?_
    refine g_getR (r := 104) (pc := 12) X k_fl_X12_57 s_92 rfl dX12_laysTree_12 ?_
    refine g_iload_n (pc := 15) X 3 rfl dX12_laysTree_15 ?_
    refine g_iconst (v := 0) (pc := 16) X rfl dX12_laysTree_16 ?_
    obtain ⟨c1, h⟩ := chk_e h
    refine g_iast (pc := 17) X s_104 c1 dX12_laysTree_17 ?_
    obtain ⟨σ2, e_σ2, h⟩ := bnd_e h
    refine g_nmS e_σ2 ?_
    obtain ⟨v3, e_v3, h⟩ := bnd_e h
    refine g_iinc (pc := 18) (v := v3) X [(3, .int v3), (0, .ref (V.2.2.1 + 92)), (1, .int l1), (2, .int l2)] 3 rfl (by rw [e_v3]; rfl) (Nat.le_of_ble_eq_true rfl) rfl dX12_laysTree_18 ?_
    refine g_goto (pc := 21) (tgt := 6) X dX12_laysTree_21 rfl ?_
    refine g_sub [1, 2, 3, 0] rfl ?_
    cases h
    exact hb6 _ _ hA
set_option maxRecDepth 100000 in
theorem tl_Mo_laysTree_L6 {V : Ev} {Γ : Cn} {fin : Option Value × St} {l1 : Int32} {l2 : Int32} {x3 : Int32} {σ9 : St} (X : Cx V Γ M_X12_laysTree)  {σ8 : St} {n : Nat} (h : iter (fun s : (Int32 × St) => Mo_laysTree_L6 l1 l2 s.2 s.1) n (x3, σ9) = some σ8) (hK : Go V Γ M_X12_laysTree (Zm V Γ 3 fin) 24 [(0, .ref (V.2.2.1 + 92)), (1, .int l1), (2, .int l2)] [] σ8) : Go V Γ M_X12_laysTree (Zm V Γ 3 fin) 6 [(0, .ref (V.2.2.1 + 92)), (1, .int l1), (2, .int l2), (3, .int x3)] [] σ9 := by
  refine iter_go (G := (fun s : (Int32 × St) => Go V Γ M_X12_laysTree (Zm V Γ 3 fin) 6 [(0, .ref (V.2.2.1 + 92)), (1, .int l1), (2, .int l2), (3, .int s.1)] [] s.2)) (fun s o ho hS => ?_) n (x3, σ9) h
  exact tb_Mo_laysTree_L6 X  (fun _ _ h9 => h9) (fun _ he => by cases he; exact hK) ho hS
noncomputable def Mo_laysTree_J114_46 (σ : St) (l1 : Int32) (l2 : Int32) (l3 : Int32) (l4 : Int32) (s0 : Int32) (s1 : Int32) : Option (((Int32 × Int32 × St) ⊕ (Int32 × St))) :=
  chk (ix s1 5040) (bnd (wI σ 103 (tn s1) (vp_nar .boolean s0)) (fun σ18 => if l4 = 2 then (bnd ((l2 + 1)) (fun v21 => bnd (l3 + 1) (fun v22 => some (.inl (v21, v22, σ18))))) else (bnd ((l2 + 0)) (fun v19 => bnd (l3 + 1) (fun v20 => some (.inl (v19, v20, σ18)))))))
set_option maxRecDepth 100000 in
set_option maxHeartbeats 4000000 in
theorem tj_Mo_laysTree_J114_46 {V : Ev} {Γ : Cn} {fin : Option Value × St} {σ : St} {l1 : Int32} {l2 : Int32} {l3 : Int32} {l4 : Int32} {s0 : Int32} {s1 : Int32} {o : ((Int32 × Int32 × St) ⊕ (Int32 × St))} (X : Cx V Γ M_X12_laysTree) {A : ((Int32 × Int32 × St) ⊕ (Int32 × St)) → Prop}  (hb46 : ∀ (x2 : Int32) (x3 : Int32) (σ9 : St), A (.inl (x2, x3, σ9)) → Go V Γ M_X12_laysTree (Zm V Γ 3 fin) 46 [(0, .ref (V.2.2.1 + 92)), (1, .int l1), (2, .int x2), (3, .int x3)] [] σ9) (hx46 : ∀ (x2 : Int32) (σ9 : St), A (.inr (x2, σ9)) → Go V Γ M_X12_laysTree (Zm V Γ 3 fin) 135 [(0, .ref (V.2.2.1 + 92)), (1, .int l1), (2, .int x2)] [] σ9) (h : Mo_laysTree_J114_46 σ l1 l2 l3 l4 s0 s1 = some o) (hA : A o) : Go V Γ M_X12_laysTree (Zm V Γ 3 fin) 114 [(0, .ref (V.2.2.1 + 92)), (1, .int l1), (2, .int l2), (3, .int l3), (4, .int l4)] [.int s0, .int s1, .ref (V.2.2.1 + 103)] σ := by
  unfold Mo_laysTree_J114_46 at h
  obtain ⟨c17, h⟩ := chk_e h
  refine g_zast (pc := 114) X s_103 c17 dX12_laysTree_114 ?_
  obtain ⟨σ18, e_σ18, h⟩ := bnd_e h
  refine g_nmS e_σ18 ?_
  refine g_iload_n (pc := 115) X 2 rfl dX12_laysTree_115 ?_
  refine g_iload (pc := 116) X 4 rfl dX12_laysTree_116 ?_
  refine g_iconst (v := 2) (pc := 118) X rfl dX12_laysTree_118 ?_
  refine g_icmp_ne (pc := 119) (tgt := 126) X dX12_laysTree_119 rfl (fun c23 => ?_) (fun c23 => ?_)
  · replace h := if_f c23 h
    refine g_iconst (v := 0) (pc := 126) X rfl dX12_laysTree_126 ?_
    refine g_iadd (pc := 127) X dX12_laysTree_127 ?_
    obtain ⟨v19, e_v19, h⟩ := bnd_e h
    refine g_nmI e_v19 ?_
    refine g_istore_n (pc := 128) X [(2, .int v19), (0, .ref (V.2.2.1 + 92)), (1, .int l1), (3, .int l3), (4, .int l4)] rfl (Nat.le_of_ble_eq_true rfl) rfl dX12_laysTree_128 ?_
    obtain ⟨v20, e_v20, h⟩ := bnd_e h
    refine g_iinc (pc := 129) (v := v20) X [(3, .int v20), (2, .int v19), (0, .ref (V.2.2.1 + 92)), (1, .int l1), (4, .int l4)] 3 rfl (by rw [e_v20]; rfl) (Nat.le_of_ble_eq_true rfl) rfl dX12_laysTree_129 ?_
    refine g_goto (pc := 132) (tgt := 46) X dX12_laysTree_132 rfl ?_
    refine g_sub [2, 3, 1, 0] rfl ?_
    cases h
    exact hb46 _ _ _ hA
  · replace h := if_t c23 h
    refine g_iconst (v := 1) (pc := 122) X rfl dX12_laysTree_122 ?_
    refine g_goto (pc := 123) (tgt := 127) X dX12_laysTree_123 rfl ?_
    refine g_iadd (pc := 127) X dX12_laysTree_127 ?_
    obtain ⟨v21, e_v21, h⟩ := bnd_e h
    refine g_nmI e_v21 ?_
    refine g_istore_n (pc := 128) X [(2, .int v21), (0, .ref (V.2.2.1 + 92)), (1, .int l1), (3, .int l3), (4, .int l4)] rfl (Nat.le_of_ble_eq_true rfl) rfl dX12_laysTree_128 ?_
    obtain ⟨v22, e_v22, h⟩ := bnd_e h
    refine g_iinc (pc := 129) (v := v22) X [(3, .int v22), (2, .int v21), (0, .ref (V.2.2.1 + 92)), (1, .int l1), (4, .int l4)] 3 rfl (by rw [e_v22]; rfl) (Nat.le_of_ble_eq_true rfl) rfl dX12_laysTree_129 ?_
    refine g_goto (pc := 132) (tgt := 46) X dX12_laysTree_132 rfl ?_
    refine g_sub [2, 3, 1, 0] rfl ?_
    cases h
    exact hb46 _ _ _ hA
noncomputable def Mo_laysTree_J98_46 (σ : St) (l1 : Int32) (l2 : Int32) (l3 : Int32) (l4 : Int32) : Option (((Int32 × Int32 × St) ⊕ (Int32 × St))) :=
  if l4 = 2 then (Mo_laysTree_J114_46 σ l1 l2 l3 l4 1 l3) else (Mo_laysTree_J114_46 σ l1 l2 l3 l4 0 l3)
set_option maxRecDepth 100000 in
set_option maxHeartbeats 4000000 in
theorem tj_Mo_laysTree_J98_46 {V : Ev} {Γ : Cn} {fin : Option Value × St} {σ : St} {l1 : Int32} {l2 : Int32} {l3 : Int32} {l4 : Int32} {o : ((Int32 × Int32 × St) ⊕ (Int32 × St))} (X : Cx V Γ M_X12_laysTree) {A : ((Int32 × Int32 × St) ⊕ (Int32 × St)) → Prop}  (hb46 : ∀ (x2 : Int32) (x3 : Int32) (σ9 : St), A (.inl (x2, x3, σ9)) → Go V Γ M_X12_laysTree (Zm V Γ 3 fin) 46 [(0, .ref (V.2.2.1 + 92)), (1, .int l1), (2, .int x2), (3, .int x3)] [] σ9) (hx46 : ∀ (x2 : Int32) (σ9 : St), A (.inr (x2, σ9)) → Go V Γ M_X12_laysTree (Zm V Γ 3 fin) 135 [(0, .ref (V.2.2.1 + 92)), (1, .int l1), (2, .int x2)] [] σ9) (h : Mo_laysTree_J98_46 σ l1 l2 l3 l4 = some o) (hA : A o) : Go V Γ M_X12_laysTree (Zm V Γ 3 fin) 98 [(0, .ref (V.2.2.1 + 92)), (1, .int l1), (2, .int l2), (3, .int l3), (4, .int l4)] [] σ := by
  unfold Mo_laysTree_J98_46 at h
  refine g_aload_n (pc := 98) X 0 rfl dX12_laysTree_98 ?_
  refine g_getR (r := 103) (pc := 99) X k_fl_X12_54 s_92 rfl dX12_laysTree_99 ?_
  refine g_iload_n (pc := 102) X 3 rfl dX12_laysTree_102 ?_
  refine g_iload (pc := 103) X 4 rfl dX12_laysTree_103 ?_
  refine g_iconst (v := 2) (pc := 105) X rfl dX12_laysTree_105 ?_
  refine g_icmp_ne (pc := 106) (tgt := 113) X dX12_laysTree_106 rfl (fun c24 => ?_) (fun c24 => ?_)
  · replace h := if_f c24 h
    refine g_iconst (v := 0) (pc := 113) X rfl dX12_laysTree_113 ?_
    refine g_sub [0, 1, 2, 3, 4] rfl ?_
    exact tj_Mo_laysTree_J114_46 X  hb46 hx46 h hA
  · replace h := if_t c24 h
    refine g_iconst (v := 1) (pc := 109) X rfl dX12_laysTree_109 ?_
    refine g_goto (pc := 110) (tgt := 114) X dX12_laysTree_110 rfl ?_
    refine g_sub [0, 1, 2, 3, 4] rfl ?_
    exact tj_Mo_laysTree_J114_46 X  hb46 hx46 h hA
noncomputable def Mo_laysTree_L46 (l1 : Int32) (σ : St) (x2 : Int32) (x3 : Int32) : Option ((Int32 × Int32 × St) ⊕ (Int32 × St)) :=
  if l1 ≤ x3 then (some (.inr (x2, σ))) else (chk (ix x3 5040) (if (σ.1 103 (tn x3)) = 0 then (bnd (x3 + 1) (fun v29 => some (.inl (x2, v29, σ)))) else (bd (Mo_kindOf σ x3 l1) (fun r13 => chk (ix 2 4) (chk (ix 2 4) (bnd (wI σ 104 (tn 2) ((σ.1 104 (tn 2)) + 1)) (fun σ16 => if 2 ≤ r13 then (Mo_laysTree_J98_46 σ16 l1 x2 x3 r13) else (chk (ix r13 4) (chk (ix r13 4) (bnd (wI σ16 104 (tn r13) ((σ16.1 104 (tn r13)) + 1)) (fun σ27 => Mo_laysTree_J98_46 σ27 l1 x2 x3 r13)))))))))))
set_option maxRecDepth 100000 in
set_option maxHeartbeats 4000000 in
theorem tb_Mo_laysTree_L46 {V : Ev} {Γ : Cn} {fin : Option Value × St} {l1 : Int32} {σ : St} {x2 : Int32} {x3 : Int32} {o : ((Int32 × Int32 × St) ⊕ (Int32 × St))} (X : Cx V Γ M_X12_laysTree) {A : ((Int32 × Int32 × St) ⊕ (Int32 × St)) → Prop}  (hb46 : ∀ (x2 : Int32) (x3 : Int32) (σ9 : St), A (.inl (x2, x3, σ9)) → Go V Γ M_X12_laysTree (Zm V Γ 3 fin) 46 [(0, .ref (V.2.2.1 + 92)), (1, .int l1), (2, .int x2), (3, .int x3)] [] σ9) (hx46 : ∀ (x2 : Int32) (σ9 : St), A (.inr (x2, σ9)) → Go V Γ M_X12_laysTree (Zm V Γ 3 fin) 135 [(0, .ref (V.2.2.1 + 92)), (1, .int l1), (2, .int x2)] [] σ9) (h : Mo_laysTree_L46 l1 σ x2 x3 = some o) (hA : A o) : Go V Γ M_X12_laysTree (Zm V Γ 3 fin) 46 [(0, .ref (V.2.2.1 + 92)), (1, .int l1), (2, .int x2), (3, .int x3)] [] σ := by
  unfold Mo_laysTree_L46 at h
  refine g_iload_n (pc := 46) X 3 rfl dX12_laysTree_46 ?_
  refine g_iload_n (pc := 47) X 1 rfl dX12_laysTree_47 ?_
  refine g_icmp_ge (pc := 48) (tgt := 135) X dX12_laysTree_48 rfl (fun c31 => ?_) (fun c31 => ?_)
  · replace h := if_t c31 h
    refine g_sub [0, 1, 2] rfl ?_
    cases h
    exact hx46 _ _ hA
  · replace h := if_f c31 h
    refine g_aload_n (pc := 51) X 0 rfl dX12_laysTree_51 ?_
    refine g_getR (r := 103) (pc := 52) X k_fl_X12_54 s_92 rfl dX12_laysTree_52 ?_
    refine g_iload_n (pc := 55) X 3 rfl dX12_laysTree_55 ?_
    obtain ⟨c11, h⟩ := chk_e h
    refine g_zald (pc := 56) X s_103 c11 dX12_laysTree_56 ?_
    refine g_if_ne (pc := 57) (tgt := 63) X dX12_laysTree_57 rfl (fun c30 => ?_) (fun c30 => ?_)
    · replace h := if_f c30 h
      refine g_aload_n (pc := 63) X 0 rfl dX12_laysTree_63 ?_
      refine g_iload_n (pc := 64) X 3 rfl dX12_laysTree_64 ?_
      refine g_iload_n (pc := 65) X 1 rfl dX12_laysTree_65 ?_
      obtain ⟨r13, hc12, h⟩ := bd_e h
      refine g_callV (pc := 66) X k_ml_X12_345 (run_Mo_kindOf  hc12) s_92 rfl (room_ok (Nat.le_of_ble_eq_true rfl) (Nat.le_of_ble_eq_true rfl)) ⟨Nat.le_refl _, Nat.le_refl _⟩ _ rfl (Nat.le_of_ble_eq_true rfl) dX12_laysTree_66 ?_
      show Go V Γ M_X12_laysTree (Zm V Γ 3 fin) 69 [(0, .ref (V.2.2.1 + 92)), (1, .int l1), (2, .int x2), (3, .int x3)] [.int r13] σ
      refine g_istore (pc := 69) X [(4, .int r13), (0, .ref (V.2.2.1 + 92)), (1, .int l1), (2, .int x2), (3, .int x3)] (Nat.le_of_ble_eq_true rfl) rfl dX12_laysTree_69 ?_
      refine g_aload_n (pc := 71) X 1 rfl dX12_laysTree_71 ?_
      refine g_getR (r := 104) (pc := 72) X k_fl_X12_57 s_92 rfl dX12_laysTree_72 ?_
      refine g_iconst (v := 2) (pc := 75) X rfl dX12_laysTree_75 ?_
      refine g_dup2 (pc := 76) X rfl rfl dX12_laysTree_76 ?_
      obtain ⟨c14, h⟩ := chk_e h
      refine g_iald (pc := 77) X s_104 c14 dX12_laysTree_77 ?_
      refine g_iconst (v := 1) (pc := 78) X rfl dX12_laysTree_78 ?_
      refine g_iadd (pc := 79) X dX12_laysTree_79 ?_
      obtain ⟨c15, h⟩ := chk_e h
      refine g_iast (pc := 80) X s_104 c15 dX12_laysTree_80 ?_
      obtain ⟨σ16, e_σ16, h⟩ := bnd_e h
      refine g_nmS e_σ16 ?_
      refine g_iload (pc := 81) X 0 rfl dX12_laysTree_81 ?_
      refine g_iconst (v := 2) (pc := 83) X rfl dX12_laysTree_83 ?_
      refine g_icmp_ge (pc := 84) (tgt := 98) X dX12_laysTree_84 rfl (fun c28 => ?_) (fun c28 => ?_)
      · replace h := if_t c28 h
        refine g_sub [1, 2, 3, 4, 0] rfl ?_
        exact tj_Mo_laysTree_J98_46 X  hb46 hx46 h hA
      · replace h := if_f c28 h
        refine g_aload_n (pc := 87) X 1 rfl dX12_laysTree_87 ?_
        refine g_getR (r := 104) (pc := 88) X k_fl_X12_57 s_92 rfl dX12_laysTree_88 ?_
        refine g_iload (pc := 91) X 0 rfl dX12_laysTree_91 ?_
        refine g_dup2 (pc := 93) X rfl rfl dX12_laysTree_93 ?_
        obtain ⟨c25, h⟩ := chk_e h
        refine g_iald (pc := 94) X s_104 c25 dX12_laysTree_94 ?_
        refine g_iconst (v := 1) (pc := 95) X rfl dX12_laysTree_95 ?_
        refine g_iadd (pc := 96) X dX12_laysTree_96 ?_
        obtain ⟨c26, h⟩ := chk_e h
        refine g_iast (pc := 97) X s_104 c26 dX12_laysTree_97 ?_
        obtain ⟨σ27, e_σ27, h⟩ := bnd_e h
        refine g_nmS e_σ27 ?_
        refine g_sub [1, 2, 3, 4, 0] rfl ?_
        exact tj_Mo_laysTree_J98_46 X  hb46 hx46 h hA
    · replace h := if_t c30 h
      refine g_goto (pc := 60) (tgt := 129) X dX12_laysTree_60 rfl ?_
      obtain ⟨v29, e_v29, h⟩ := bnd_e h
      refine g_iinc (pc := 129) (v := v29) X [(3, .int v29), (0, .ref (V.2.2.1 + 92)), (1, .int l1), (2, .int x2)] 3 rfl (by rw [e_v29]; rfl) (Nat.le_of_ble_eq_true rfl) rfl dX12_laysTree_129 ?_
      refine g_goto (pc := 132) (tgt := 46) X dX12_laysTree_132 rfl ?_
      refine g_sub [1, 2, 3, 0] rfl ?_
      cases h
      exact hb46 _ _ _ hA
set_option maxRecDepth 100000 in
theorem tl_Mo_laysTree_L46 {V : Ev} {Γ : Cn} {fin : Option Value × St} {l1 : Int32} {x2 : Int32} {x3 : Int32} {σ9 : St} (X : Cx V Γ M_X12_laysTree)  {y2 : Int32} {σ8 : St} {n : Nat} (h : iter (fun s : (Int32 × Int32 × St) => Mo_laysTree_L46 l1 s.2.2 s.1 s.2.1) n (x2, x3, σ9) = some (y2, σ8)) (hK : Go V Γ M_X12_laysTree (Zm V Γ 3 fin) 135 [(0, .ref (V.2.2.1 + 92)), (1, .int l1), (2, .int y2)] [] σ8) : Go V Γ M_X12_laysTree (Zm V Γ 3 fin) 46 [(0, .ref (V.2.2.1 + 92)), (1, .int l1), (2, .int x2), (3, .int x3)] [] σ9 := by
  refine iter_go (G := (fun s : (Int32 × Int32 × St) => Go V Γ M_X12_laysTree (Zm V Γ 3 fin) 46 [(0, .ref (V.2.2.1 + 92)), (1, .int l1), (2, .int s.1), (3, .int s.2.1)] [] s.2.2)) (fun s o ho hS => ?_) n (x2, x3, σ9) h
  exact tb_Mo_laysTree_L46 X  (fun _ _ _ h9 => h9) (fun _ _ he => by cases he; exact hK) ho hS
noncomputable def Mo_laysTree_L155 (l1 : Int32) (l2 : Int32) (l3 : Int32) (σ : St) (x4 : Int32) : Option ((Int32 × St) ⊕ St) :=
  if (l1 * l3) ≤ x4 then (some (.inr σ)) else (chk (nzI l1) (chk (ix (jrem x4 l1) 5040) (chk (ix x4 5040) (bnd (wI σ 103 (tn x4) (vp_nar .boolean (σ.1 103 (tn (jrem x4 l1))))) (fun σ41 => bnd (x4 + 1) (fun v42 => some (.inl (v42, σ41))))))))
set_option maxRecDepth 100000 in
set_option maxHeartbeats 4000000 in
theorem tb_Mo_laysTree_L155 {V : Ev} {Γ : Cn} {fin : Option Value × St} {l1 : Int32} {l2 : Int32} {l3 : Int32} {σ : St} {x4 : Int32} {o : ((Int32 × St) ⊕ St)} (X : Cx V Γ M_X12_laysTree) {A : ((Int32 × St) ⊕ St) → Prop}  (hb155 : ∀ (x4 : Int32) (σ9 : St), A (.inl (x4, σ9)) → Go V Γ M_X12_laysTree (Zm V Γ 3 fin) 155 [(0, .ref (V.2.2.1 + 92)), (1, .int l1), (2, .int l2), (3, .int l3), (4, .int x4)] [] σ9) (hx155 : ∀ (σ9 : St), A (.inr σ9) → Go V Γ M_X12_laysTree (Zm V Γ 3 fin) 185 [(0, .ref (V.2.2.1 + 92)), (1, .int l1), (2, .int l2), (3, .int l3)] [] σ9) (h : Mo_laysTree_L155 l1 l2 l3 σ x4 = some o) (hA : A o) : Go V Γ M_X12_laysTree (Zm V Γ 3 fin) 155 [(0, .ref (V.2.2.1 + 92)), (1, .int l1), (2, .int l2), (3, .int l3), (4, .int x4)] [] σ := by
  unfold Mo_laysTree_L155 at h
  refine g_iload (pc := 155) X 4 rfl dX12_laysTree_155 ?_
  refine g_iload_n (pc := 157) X 1 rfl dX12_laysTree_157 ?_
  refine g_iload_n (pc := 158) X 3 rfl dX12_laysTree_158 ?_
  refine g_imul (pc := 159) X dX12_laysTree_159 ?_
  refine g_icmp_ge (pc := 160) (tgt := 185) X dX12_laysTree_160 rfl (fun c43 => ?_) (fun c43 => ?_)
  · replace h := if_t c43 h
    refine g_sub [0, 1, 2, 3] rfl ?_
    cases h
    exact hx155 _ hA
  · replace h := if_f c43 h
    refine g_aload_n (pc := 163) X 0 rfl dX12_laysTree_163 ?_
    refine g_getR (r := 103) (pc := 164) X k_fl_X12_54 s_92 rfl dX12_laysTree_164 ?_
    refine g_iload (pc := 167) X 4 rfl dX12_laysTree_167 ?_
    refine g_aload_n (pc := 169) X 0 rfl dX12_laysTree_169 ?_
    refine g_getR (r := 103) (pc := 170) X k_fl_X12_54 s_92 rfl dX12_laysTree_170 ?_
    refine g_iload (pc := 173) X 4 rfl dX12_laysTree_173 ?_
    refine g_iload_n (pc := 175) X 1 rfl dX12_laysTree_175 ?_
    obtain ⟨c38, h⟩ := chk_e h
    refine g_irem (pc := 176) X (nzI_e c38) dX12_laysTree_176 ?_
    obtain ⟨c39, h⟩ := chk_e h
    refine g_zald (pc := 177) X s_103 c39 dX12_laysTree_177 ?_
    obtain ⟨c40, h⟩ := chk_e h
    refine g_zast (pc := 178) X s_103 c40 dX12_laysTree_178 ?_
    obtain ⟨σ41, e_σ41, h⟩ := bnd_e h
    refine g_nmS e_σ41 ?_
    obtain ⟨v42, e_v42, h⟩ := bnd_e h
    refine g_iinc (pc := 179) (v := v42) X [(4, .int v42), (0, .ref (V.2.2.1 + 92)), (1, .int l1), (2, .int l2), (3, .int l3)] 4 rfl (by rw [e_v42]; rfl) (Nat.le_of_ble_eq_true rfl) rfl dX12_laysTree_179 ?_
    refine g_goto (pc := 182) (tgt := 155) X dX12_laysTree_182 rfl ?_
    refine g_sub [1, 2, 3, 4, 0] rfl ?_
    cases h
    exact hb155 _ _ hA
set_option maxRecDepth 100000 in
theorem tl_Mo_laysTree_L155 {V : Ev} {Γ : Cn} {fin : Option Value × St} {l1 : Int32} {l2 : Int32} {l3 : Int32} {x4 : Int32} {σ9 : St} (X : Cx V Γ M_X12_laysTree)  {σ8 : St} {n : Nat} (h : iter (fun s : (Int32 × St) => Mo_laysTree_L155 l1 l2 l3 s.2 s.1) n (x4, σ9) = some σ8) (hK : Go V Γ M_X12_laysTree (Zm V Γ 3 fin) 185 [(0, .ref (V.2.2.1 + 92)), (1, .int l1), (2, .int l2), (3, .int l3)] [] σ8) : Go V Γ M_X12_laysTree (Zm V Γ 3 fin) 155 [(0, .ref (V.2.2.1 + 92)), (1, .int l1), (2, .int l2), (3, .int l3), (4, .int x4)] [] σ9 := by
  refine iter_go (G := (fun s : (Int32 × St) => Go V Γ M_X12_laysTree (Zm V Γ 3 fin) 155 [(0, .ref (V.2.2.1 + 92)), (1, .int l1), (2, .int l2), (3, .int l3), (4, .int s.1)] [] s.2)) (fun s o ho hS => ?_) n (x4, σ9) h
  exact tb_Mo_laysTree_L155 X  (fun _ _ h9 => h9) (fun _ he => by cases he; exact hK) ho hS
noncomputable def Mo_laysTree_L31 (σ : St) (x1 : Int32) (x2 : Int32) : Option ((Int32 × Int32 × St) ⊕ St) :=
  if x2 ≤ 0 then (some (.inr σ)) else (chk (ix 3 4) (bnd (wI σ 104 (tn 3) x1) (fun σ10 => bd2 (iter (fun s : (Int32 × Int32 × St) => Mo_laysTree_L46 x1 s.2.2 s.1 s.2.1) FUEL (0, 0, σ10)) (fun v32 σ33 => if v32 = 0 then (some (.inr σ33)) else (chk (nzI x1) (bd (Mo_leastPrime ((σ33.1 92 23) / x1)) (fun r37 => bd (iter (fun s : (Int32 × St) => Mo_laysTree_L155 x1 v32 r37 s.2 s.1) FUEL (x1, σ33)) (fun σ44 => bnd ((x1 * r37)) (fun v46 => some (.inl (v46, v32, σ44)))))))))))
set_option maxRecDepth 100000 in
set_option maxHeartbeats 4000000 in
theorem tb_Mo_laysTree_L31 {V : Ev} {Γ : Cn} {fin : Option Value × St} {σ : St} {x1 : Int32} {x2 : Int32} {o : ((Int32 × Int32 × St) ⊕ St)} (X : Cx V Γ M_X12_laysTree) {A : ((Int32 × Int32 × St) ⊕ St) → Prop}  (hr : ∀ (σ9 : St), A (.inr σ9) → (none, σ9) = fin) (hb31 : ∀ (x1 : Int32) (x2 : Int32) (σ9 : St), A (.inl (x1, x2, σ9)) → Go V Γ M_X12_laysTree (Zm V Γ 3 fin) 31 [(0, .ref (V.2.2.1 + 92)), (1, .int x1), (2, .int x2)] [] σ9) (h : Mo_laysTree_L31 σ x1 x2 = some o) (hA : A o) : Go V Γ M_X12_laysTree (Zm V Γ 3 fin) 31 [(0, .ref (V.2.2.1 + 92)), (1, .int x1), (2, .int x2)] [] σ := by
  unfold Mo_laysTree_L31 at h
  refine g_iload_n (pc := 31) X 2 rfl dX12_laysTree_31 ?_
  refine g_if_le (pc := 32) (tgt := 192) X dX12_laysTree_32 rfl (fun c48 => ?_) (fun c48 => ?_)
  · replace h := if_t c48 h
    cases h
    exact g_vret (pc := 192) X rfl (hr _ hA) dX12_laysTree_192
  · replace h := if_f c48 h
    refine g_iconst (v := 0) (pc := 35) X rfl dX12_laysTree_35 ?_
    refine g_istore_n (pc := 36) X [(2, .int 0), (0, .ref (V.2.2.1 + 92)), (1, .int x1)] rfl (Nat.le_of_ble_eq_true rfl) rfl dX12_laysTree_36 ?_
    refine g_aload_n (pc := 37) X 1 rfl dX12_laysTree_37 ?_
    refine g_getR (r := 104) (pc := 38) X k_fl_X12_57 s_92 rfl dX12_laysTree_38 ?_
    refine g_iconst (v := 3) (pc := 41) X rfl dX12_laysTree_41 ?_
    refine g_iload_n (pc := 42) X 2 rfl dX12_laysTree_42 ?_
    obtain ⟨c9, h⟩ := chk_e h
    refine g_iast (pc := 43) X s_104 c9 dX12_laysTree_43 ?_
    obtain ⟨σ10, e_σ10, h⟩ := bnd_e h
    refine g_nmS e_σ10 ?_
    refine g_iconst (v := 0) (pc := 44) X rfl dX12_laysTree_44 ?_
    refine g_istore_n (pc := 45) X [(3, .int 0), (2, .int 0), (0, .ref (V.2.2.1 + 92)), (1, .int x1)] rfl (Nat.le_of_ble_eq_true rfl) rfl dX12_laysTree_45 ?_
    refine g_sub [2, 3, 1, 0] rfl ?_
    obtain ⟨v32, σ33, hi34, h⟩ := bd2_e h
    refine tl_Mo_laysTree_L46 X  hi34 ?_
    refine g_iload_n (pc := 135) X 2 rfl dX12_laysTree_135 ?_
    refine g_if_ne (pc := 136) (tgt := 142) X dX12_laysTree_136 rfl (fun c47 => ?_) (fun c47 => ?_)
    · replace h := if_f c47 h
      refine g_aload_n (pc := 142) X 0 rfl dX12_laysTree_142 ?_
      refine g_getI (pc := 143) X k_fl_X12_253 s_92 rfl dX12_laysTree_143 ?_
      refine g_iload_n (pc := 146) X 1 rfl dX12_laysTree_146 ?_
      obtain ⟨c35, h⟩ := chk_e h
      refine g_idiv (pc := 147) X (nzI_e c35) dX12_laysTree_147 ?_
      obtain ⟨r37, hc36, h⟩ := bd_e h
      refine g_callS (pc := 148) X k_ml_X12_348 (run_Mo_leastPrime  hc36) rfl (room_ok (Nat.le_of_ble_eq_true rfl) (Nat.le_of_ble_eq_true rfl)) ⟨Nat.le_refl _, Nat.le_refl _⟩ _ rfl (Nat.le_of_ble_eq_true rfl) dX12_laysTree_148 ?_
      show Go V Γ M_X12_laysTree (Zm V Γ 3 fin) 151 [(0, .ref (V.2.2.1 + 92)), (1, .int x1), (2, .int v32)] [.int r37] σ33
      refine g_istore_n (pc := 151) X [(3, .int r37), (0, .ref (V.2.2.1 + 92)), (1, .int x1), (2, .int v32)] rfl (Nat.le_of_ble_eq_true rfl) rfl dX12_laysTree_151 ?_
      refine g_iload_n (pc := 152) X 2 rfl dX12_laysTree_152 ?_
      refine g_istore (pc := 153) X [(4, .int x1), (3, .int r37), (0, .ref (V.2.2.1 + 92)), (1, .int x1), (2, .int v32)] (Nat.le_of_ble_eq_true rfl) rfl dX12_laysTree_153 ?_
      refine g_sub [2, 3, 4, 1, 0] rfl ?_
      obtain ⟨σ44, hi45, h⟩ := bd_e h
      refine tl_Mo_laysTree_L155 X  hi45 ?_
      refine g_iload_n (pc := 185) X 1 rfl dX12_laysTree_185 ?_
      refine g_iload_n (pc := 186) X 3 rfl dX12_laysTree_186 ?_
      refine g_imul (pc := 187) X dX12_laysTree_187 ?_
      obtain ⟨v46, e_v46, h⟩ := bnd_e h
      refine g_nmI e_v46 ?_
      refine g_istore_n (pc := 188) X [(1, .int v46), (0, .ref (V.2.2.1 + 92)), (2, .int v32), (3, .int r37)] rfl (Nat.le_of_ble_eq_true rfl) rfl dX12_laysTree_188 ?_
      refine g_goto (pc := 189) (tgt := 31) X dX12_laysTree_189 rfl ?_
      refine g_sub [1, 0, 2] rfl ?_
      cases h
      exact hb31 _ _ _ hA
    · replace h := if_t c47 h
      refine g_goto (pc := 139) (tgt := 192) X dX12_laysTree_139 rfl ?_
      cases h
      exact g_vret (pc := 192) X rfl (hr _ hA) dX12_laysTree_192
set_option maxRecDepth 100000 in
theorem tl_Mo_laysTree_L31 {V : Ev} {Γ : Cn} {fin : Option Value × St} {x1 : Int32} {x2 : Int32} {σ9 : St} (X : Cx V Γ M_X12_laysTree)  {e : St} {A : St → Prop} (hr : ∀ (σ9 : St), A σ9 → (none, σ9) = fin) {n : Nat} (h : iter (fun s : (Int32 × Int32 × St) => Mo_laysTree_L31 s.2.2 s.1 s.2.1) n (x1, x2, σ9) = some e) (hA : A e) : Go V Γ M_X12_laysTree (Zm V Γ 3 fin) 31 [(0, .ref (V.2.2.1 + 92)), (1, .int x1), (2, .int x2)] [] σ9 := by
  refine iter_go (G := (fun s : (Int32 × Int32 × St) => Go V Γ M_X12_laysTree (Zm V Γ 3 fin) 31 [(0, .ref (V.2.2.1 + 92)), (1, .int s.1), (2, .int s.2.1)] [] s.2.2)) (fun s o ho hS => ?_) n (x1, x2, σ9) h
  exact tb_Mo_laysTree_L31 X  (fun z0 he => hr z0 (by rw [he]; exact hA)) (fun _ _ _ h9 => h9) ho hS
noncomputable def Mo_laysTree (σ : St) : Option St :=
  bd (iter (fun s : (Int32 × St) => Mo_laysTree_L6 1 1 s.2 s.1) FUEL (0, σ)) (fun σ5 => chk (ix 0 5040) (bnd (wI σ5 103 (tn 0) (vp_nar .boolean 1)) (fun σ8 => iter (fun s : (Int32 × Int32 × St) => Mo_laysTree_L31 s.2.2 s.1 s.2.1) FUEL (1, 1, σ8))))
set_option maxRecDepth 100000 in
set_option maxHeartbeats 4000000 in
theorem tm_Mo_laysTree {V : Ev} {Γ : Cn} {fin : Option Value × St} {σ : St} {o : St} (X : Cx V Γ M_X12_laysTree) {A : St → Prop}  (hr : ∀ (σ9 : St), A σ9 → (none, σ9) = fin) (h : Mo_laysTree σ = some o) (hA : A o) : Go V Γ M_X12_laysTree (Zm V Γ 3 fin) 0 [(0, .ref (V.2.2.1 + 92))] [] σ := by
  unfold Mo_laysTree at h
  refine g_iconst (v := 1) (pc := 0) X rfl dX12_laysTree_0 ?_
  refine g_istore_n (pc := 1) X [(1, .int 1), (0, .ref (V.2.2.1 + 92))] rfl (Nat.le_of_ble_eq_true rfl) rfl dX12_laysTree_1 ?_
  refine g_iconst (v := 1) (pc := 2) X rfl dX12_laysTree_2 ?_
  refine g_istore_n (pc := 3) X [(2, .int 1), (1, .int 1), (0, .ref (V.2.2.1 + 92))] rfl (Nat.le_of_ble_eq_true rfl) rfl dX12_laysTree_3 ?_
  refine g_iconst (v := 0) (pc := 4) X rfl dX12_laysTree_4 ?_
  refine g_istore_n (pc := 5) X [(3, .int 0), (2, .int 1), (1, .int 1), (0, .ref (V.2.2.1 + 92))] rfl (Nat.le_of_ble_eq_true rfl) rfl dX12_laysTree_5 ?_
  refine g_sub [3, 2, 1, 0] rfl ?_
  obtain ⟨σ5, hi6, h⟩ := bd_e h
  refine tl_Mo_laysTree_L6 X  hi6 ?_
  refine g_aload_n (pc := 24) X 0 rfl dX12_laysTree_24 ?_
  refine g_getR (r := 103) (pc := 25) X k_fl_X12_54 s_92 rfl dX12_laysTree_25 ?_
  refine g_iconst (v := 0) (pc := 28) X rfl dX12_laysTree_28 ?_
  refine g_iconst (v := 1) (pc := 29) X rfl dX12_laysTree_29 ?_
  obtain ⟨c7, h⟩ := chk_e h
  refine g_zast (pc := 30) X s_103 c7 dX12_laysTree_30 ?_
  obtain ⟨σ8, e_σ8, h⟩ := bnd_e h
  refine g_nmS e_σ8 ?_
  refine g_sub [0, 1, 2] rfl ?_
  exact tl_Mo_laysTree_L31 X  hr h hA
set_option maxRecDepth 100000 in
theorem run_Mo_laysTree {V : Ev} {σ : St} {o : St}   (h : Mo_laysTree σ = some o) : Rs V 3 M_X12_laysTree [.ref (V.2.2.1 + 92)] σ (none, o) := by
  refine Rs.of (by decide +kernel) (Nat.le_of_ble_eq_true rfl) (fun Γ X => ?_)
  exact tm_Mo_laysTree X (A := fun o1 => o1 = o)  (fun _ e => by rw [e]) h rfl
theorem dX12_tree_0 : decode cX12_tree 0 = .ok (.iload_n 1, 1) := by decide +kernel
theorem dX12_tree_1 : decode cX12_tree 1 = .ok (.i2l, 1) := by decide +kernel
theorem dX12_tree_2 : decode cX12_tree 2 = .ok (.lconst 0, 1) := by decide +kernel
theorem dX12_tree_3 : decode cX12_tree 3 = .ok (.ldc2_w 351, 3) := by decide +kernel
theorem dX12_tree_6 : decode cX12_tree 6 = .ok (.invokestatic 270, 3) := by decide +kernel
theorem dX12_tree_9 : decode cX12_tree 9 = .ok (.ifCond .ne 9, 3) := by decide +kernel
theorem dX12_tree_12 : decode cX12_tree 12 = .ok (.aload_n 0, 1) := by decide +kernel
theorem dX12_tree_13 : decode cX12_tree 13 = .ok (.iconst 1, 1) := by decide +kernel
theorem dX12_tree_14 : decode cX12_tree 14 = .ok (.invokevirtual 88, 3) := by decide +kernel
theorem dX12_tree_17 : decode cX12_tree 17 = .ok (.ireturn, 1) := by decide +kernel
theorem dX12_tree_18 : decode cX12_tree 18 = .ok (.aload_n 0, 1) := by decide +kernel
theorem dX12_tree_19 : decode cX12_tree 19 = .ok (.invokevirtual 274, 3) := by decide +kernel
theorem dX12_tree_22 : decode cX12_tree 22 = .ok (.ifCond .ne 10, 3) := by decide +kernel
theorem dX12_tree_25 : decode cX12_tree 25 = .ok (.aload_n 0, 1) := by decide +kernel
theorem dX12_tree_26 : decode cX12_tree 26 = .ok (.bipush 7, 2) := by decide +kernel
theorem dX12_tree_28 : decode cX12_tree 28 = .ok (.invokevirtual 88, 3) := by decide +kernel
theorem dX12_tree_31 : decode cX12_tree 31 = .ok (.ireturn, 1) := by decide +kernel
theorem dX12_tree_32 : decode cX12_tree 32 = .ok (.aload_n 0, 1) := by decide +kernel
theorem dX12_tree_33 : decode cX12_tree 33 = .ok (.invokevirtual 353, 3) := by decide +kernel
theorem dX12_tree_36 : decode cX12_tree 36 = .ok (.aload_n 0, 1) := by decide +kernel
theorem dX12_tree_37 : decode cX12_tree 37 = .ok (.aload_n 0, 1) := by decide +kernel
theorem dX12_tree_38 : decode cX12_tree 38 = .ok (.getfield 57, 3) := by decide +kernel
theorem dX12_tree_41 : decode cX12_tree 41 = .ok (.iload_n 1, 1) := by decide +kernel
theorem dX12_tree_42 : decode cX12_tree 42 = .ok (.iaload, 1) := by decide +kernel
theorem dX12_tree_43 : decode cX12_tree 43 = .ok (.invokevirtual 92, 3) := by decide +kernel
theorem dX12_tree_46 : decode cX12_tree 46 = .ok (.ireturn, 1) := by decide +kernel
noncomputable def Mo_tree (σ : St) (p1 : Int32) : Option (Int32 × St) :=
  bd (Mo_isFrom p1.toInt64 0 3) (fun r2 => if r2 = 0 then (bd2 (Mo_refuse σ 1) (fun r17 σ18 => some (r17, σ18))) else (bd2 (Mo_laysNow σ) (fun r4 σ5 => if r4 = 0 then (bd2 (Mo_refuse σ5 7) (fun r13 σ14 => some (r13, σ14))) else (bd (Mo_laysTree σ5) (fun σ7 => chk (ix p1 4) (bd2 (Mo_gives σ7 (σ7.1 104 (tn p1))) (fun r10 σ11 => some (r10, σ11))))))))
set_option maxRecDepth 100000 in
set_option maxHeartbeats 4000000 in
theorem tm_Mo_tree {V : Ev} {Γ : Cn} {fin : Option Value × St} {σ : St} {p1 : Int32} {o : (Int32 × St)} (X : Cx V Γ M_X12_tree) {A : (Int32 × St) → Prop}  (hr : ∀ (r : Int32) (σ9 : St), A (r, σ9) → (some (.int r), σ9) = fin) (h : Mo_tree σ p1 = some o) (hA : A o) : Go V Γ M_X12_tree (Zm V Γ 5 fin) 0 [(0, .ref (V.2.2.1 + 92)), (1, .int p1)] [] σ := by
  unfold Mo_tree at h
  refine g_iload_n (pc := 0) X 1 rfl dX12_tree_0 ?_
  refine g_i2l (pc := 1) X dX12_tree_1 ?_
  refine g_lconst (v := 0) (pc := 2) X rfl dX12_tree_2 ?_
  refine g_ldc2 (v := 3) (pc := 3) X k_constl_X12_351 dX12_tree_3 ?_
  obtain ⟨r2, hc1, h⟩ := bd_e h
  refine g_callS (pc := 6) X k_ml_X12_270 (run_Mo_isFrom  hc1) rfl (room_ok (Nat.le_of_ble_eq_true rfl) (Nat.le_of_ble_eq_true rfl)) ⟨Nat.le_refl _, Nat.le_refl _⟩ _ rfl (Nat.le_of_ble_eq_true rfl) dX12_tree_6 ?_
  show Go V Γ M_X12_tree (Zm V Γ 5 fin) 9 [(0, .ref (V.2.2.1 + 92)), (1, .int p1)] [.int r2] σ
  refine g_if_ne (pc := 9) (tgt := 18) X dX12_tree_9 rfl (fun c19 => ?_) (fun c19 => ?_)
  · replace h := if_f c19 h
    refine g_aload_n (pc := 18) X 0 rfl dX12_tree_18 ?_
    obtain ⟨r4, σ5, hc3, h⟩ := bd2_e h
    refine g_callV (pc := 19) X k_ml_X12_274 (run_Mo_laysNow  hc3) s_92 rfl (room_ok (Nat.le_of_ble_eq_true rfl) (Nat.le_of_ble_eq_true rfl)) ⟨Nat.le_refl _, Nat.le_refl _⟩ _ rfl (Nat.le_of_ble_eq_true rfl) dX12_tree_19 ?_
    show Go V Γ M_X12_tree (Zm V Γ 5 fin) 22 [(0, .ref (V.2.2.1 + 92)), (1, .int p1)] [.int r4] σ5
    refine g_if_ne (pc := 22) (tgt := 32) X dX12_tree_22 rfl (fun c15 => ?_) (fun c15 => ?_)
    · replace h := if_f c15 h
      refine g_aload_n (pc := 32) X 0 rfl dX12_tree_32 ?_
      obtain ⟨σ7, hc6, h⟩ := bd_e h
      refine g_callV (pc := 33) X k_ml_X12_353 (run_Mo_laysTree  hc6) s_92 rfl (room_ok (Nat.le_of_ble_eq_true rfl) (Nat.le_of_ble_eq_true rfl)) ⟨Nat.le_refl _, Nat.le_refl _⟩ _ rfl (Nat.le_of_ble_eq_true rfl) dX12_tree_33 ?_
      show Go V Γ M_X12_tree (Zm V Γ 5 fin) 36 [(0, .ref (V.2.2.1 + 92)), (1, .int p1)] [] σ7
      refine g_aload_n (pc := 36) X 0 rfl dX12_tree_36 ?_
      refine g_aload_n (pc := 37) X 0 rfl dX12_tree_37 ?_
      refine g_getR (r := 104) (pc := 38) X k_fl_X12_57 s_92 rfl dX12_tree_38 ?_
      refine g_iload_n (pc := 41) X 1 rfl dX12_tree_41 ?_
      obtain ⟨c8, h⟩ := chk_e h
      refine g_iald (pc := 42) X s_104 c8 dX12_tree_42 ?_
      obtain ⟨r10, σ11, hc9, h⟩ := bd2_e h
      refine g_callV (pc := 43) X k_ml_X12_92 (run_Mo_gives  hc9) s_92 rfl (room_ok (Nat.le_of_ble_eq_true rfl) (Nat.le_of_ble_eq_true rfl)) ⟨Nat.le_refl _, Nat.le_refl _⟩ _ rfl (Nat.le_of_ble_eq_true rfl) dX12_tree_43 ?_
      show Go V Γ M_X12_tree (Zm V Γ 5 fin) 46 [(0, .ref (V.2.2.1 + 92)), (1, .int p1)] [.int r10] σ11
      cases h
      exact g_iret (pc := 46) X rfl rfl (hr _ _ hA) dX12_tree_46
    · replace h := if_t c15 h
      refine g_aload_n (pc := 25) X 0 rfl dX12_tree_25 ?_
      refine g_bipush (v := 7) (pc := 26) X (by decide) dX12_tree_26 ?_
      obtain ⟨r13, σ14, hc12, h⟩ := bd2_e h
      refine g_callV (pc := 28) X k_ml_X12_88 (run_Mo_refuse  hc12) s_92 rfl (room_ok (Nat.le_of_ble_eq_true rfl) (Nat.le_of_ble_eq_true rfl)) ⟨Nat.le_refl _, Nat.le_refl _⟩ _ rfl (Nat.le_of_ble_eq_true rfl) dX12_tree_28 ?_
      show Go V Γ M_X12_tree (Zm V Γ 5 fin) 31 [(0, .ref (V.2.2.1 + 92)), (1, .int p1)] [.int r13] σ14
      cases h
      exact g_iret (pc := 31) X rfl rfl (hr _ _ hA) dX12_tree_31
  · replace h := if_t c19 h
    refine g_aload_n (pc := 12) X 0 rfl dX12_tree_12 ?_
    refine g_iconst (v := 1) (pc := 13) X rfl dX12_tree_13 ?_
    obtain ⟨r17, σ18, hc16, h⟩ := bd2_e h
    refine g_callV (pc := 14) X k_ml_X12_88 (run_Mo_refuse  hc16) s_92 rfl (room_ok (Nat.le_of_ble_eq_true rfl) (Nat.le_of_ble_eq_true rfl)) ⟨Nat.le_refl _, Nat.le_refl _⟩ _ rfl (Nat.le_of_ble_eq_true rfl) dX12_tree_14 ?_
    show Go V Γ M_X12_tree (Zm V Γ 5 fin) 17 [(0, .ref (V.2.2.1 + 92)), (1, .int p1)] [.int r17] σ18
    cases h
    exact g_iret (pc := 17) X rfl rfl (hr _ _ hA) dX12_tree_17
set_option maxRecDepth 100000 in
theorem run_Mo_tree {V : Ev} {σ : St} {p1 : Int32} {o : (Int32 × St)}   (h : Mo_tree σ p1 = some o) : Rs V 5 M_X12_tree [.ref (V.2.2.1 + 92), .int p1] σ (some (.int o.1), o.2) := by
  refine Rs.of (by decide +kernel) (Nat.le_of_ble_eq_true rfl) (fun Γ X => ?_)
  exact tm_Mo_tree X (A := fun o1 => o1 = o)  (fun _ _ e => by rw [← e]) h rfl
theorem dX12_leafOf_0 : decode cX12_leafOf 0 = .ok (.iload_n 1, 1) := by decide +kernel
theorem dX12_leafOf_1 : decode cX12_leafOf 1 = .ok (.i2l, 1) := by decide +kernel
theorem dX12_leafOf_2 : decode cX12_leafOf 2 = .ok (.lconst 0, 1) := by decide +kernel
theorem dX12_leafOf_3 : decode cX12_leafOf 3 = .ok (.ldc2_w 289, 3) := by decide +kernel
theorem dX12_leafOf_6 : decode cX12_leafOf 6 = .ok (.invokestatic 270, 3) := by decide +kernel
theorem dX12_leafOf_9 : decode cX12_leafOf 9 = .ok (.ifCond .ne 9, 3) := by decide +kernel
theorem dX12_leafOf_12 : decode cX12_leafOf 12 = .ok (.aload_n 0, 1) := by decide +kernel
theorem dX12_leafOf_13 : decode cX12_leafOf 13 = .ok (.iconst 1, 1) := by decide +kernel
theorem dX12_leafOf_14 : decode cX12_leafOf 14 = .ok (.invokevirtual 88, 3) := by decide +kernel
theorem dX12_leafOf_17 : decode cX12_leafOf 17 = .ok (.ireturn, 1) := by decide +kernel
theorem dX12_leafOf_18 : decode cX12_leafOf 18 = .ok (.aload_n 0, 1) := by decide +kernel
theorem dX12_leafOf_19 : decode cX12_leafOf 19 = .ok (.invokevirtual 274, 3) := by decide +kernel
theorem dX12_leafOf_22 : decode cX12_leafOf 22 = .ok (.ifCond .ne 10, 3) := by decide +kernel
theorem dX12_leafOf_25 : decode cX12_leafOf 25 = .ok (.aload_n 0, 1) := by decide +kernel
theorem dX12_leafOf_26 : decode cX12_leafOf 26 = .ok (.bipush 7, 2) := by decide +kernel
theorem dX12_leafOf_28 : decode cX12_leafOf 28 = .ok (.invokevirtual 88, 3) := by decide +kernel
theorem dX12_leafOf_31 : decode cX12_leafOf 31 = .ok (.ireturn, 1) := by decide +kernel
theorem dX12_leafOf_32 : decode cX12_leafOf 32 = .ok (.iconst 1, 1) := by decide +kernel
theorem dX12_leafOf_33 : decode cX12_leafOf 33 = .ok (.istore_n 2, 1) := by decide +kernel
theorem dX12_leafOf_34 : decode cX12_leafOf 34 = .ok (.aload_n 0, 1) := by decide +kernel
theorem dX12_leafOf_35 : decode cX12_leafOf 35 = .ok (.iload_n 1, 1) := by decide +kernel
theorem dX12_leafOf_36 : decode cX12_leafOf 36 = .ok (.iload_n 2, 1) := by decide +kernel
theorem dX12_leafOf_37 : decode cX12_leafOf 37 = .ok (.irem, 1) := by decide +kernel
theorem dX12_leafOf_38 : decode cX12_leafOf 38 = .ok (.iload_n 2, 1) := by decide +kernel
theorem dX12_leafOf_39 : decode cX12_leafOf 39 = .ok (.invokevirtual 345, 3) := by decide +kernel
theorem dX12_leafOf_42 : decode cX12_leafOf 42 = .ok (.iconst 2, 1) := by decide +kernel
theorem dX12_leafOf_43 : decode cX12_leafOf 43 = .ok (.if_icmp .ne 18, 3) := by decide +kernel
theorem dX12_leafOf_46 : decode cX12_leafOf 46 = .ok (.iload_n 2, 1) := by decide +kernel
theorem dX12_leafOf_47 : decode cX12_leafOf 47 = .ok (.aload_n 0, 1) := by decide +kernel
theorem dX12_leafOf_48 : decode cX12_leafOf 48 = .ok (.getfield 253, 3) := by decide +kernel
theorem dX12_leafOf_51 : decode cX12_leafOf 51 = .ok (.iload_n 2, 1) := by decide +kernel
theorem dX12_leafOf_52 : decode cX12_leafOf 52 = .ok (.idiv, 1) := by decide +kernel
theorem dX12_leafOf_53 : decode cX12_leafOf 53 = .ok (.invokestatic 348, 3) := by decide +kernel
theorem dX12_leafOf_56 : decode cX12_leafOf 56 = .ok (.imul, 1) := by decide +kernel
theorem dX12_leafOf_57 : decode cX12_leafOf 57 = .ok (.istore_n 2, 1) := by decide +kernel
theorem dX12_leafOf_58 : decode cX12_leafOf 58 = .ok (.goto (-24), 3) := by decide +kernel
theorem dX12_leafOf_61 : decode cX12_leafOf 61 = .ok (.aload_n 0, 1) := by decide +kernel
theorem dX12_leafOf_62 : decode cX12_leafOf 62 = .ok (.iload_n 2, 1) := by decide +kernel
theorem dX12_leafOf_63 : decode cX12_leafOf 63 = .ok (.invokevirtual 92, 3) := by decide +kernel
theorem dX12_leafOf_66 : decode cX12_leafOf 66 = .ok (.ireturn, 1) := by decide +kernel
noncomputable def Mo_leafOf_L34 (l1 : Int32) (σ : St) (x2 : Int32) : Option (Int32 ⊕ Int32) :=
  chk (nzI x2) (bd (Mo_kindOf σ (jrem l1 x2) x2) (fun r8 => if r8 = 2 then (chk (nzI x2) (bd (Mo_leastPrime ((σ.1 92 23) / x2)) (fun r11 => bnd ((x2 * r11)) (fun v12 => some (.inl v12))))) else (some (.inr x2))))
set_option maxRecDepth 100000 in
set_option maxHeartbeats 4000000 in
theorem tb_Mo_leafOf_L34 {V : Ev} {Γ : Cn} {fin : Option Value × St} {l1 : Int32} {σ : St} {x2 : Int32} {o : (Int32 ⊕ Int32)} (X : Cx V Γ M_X12_leafOf) {A : (Int32 ⊕ Int32) → Prop}  (hb34 : ∀ (x2 : Int32), A (.inl x2) → Go V Γ M_X12_leafOf (Zm V Γ 5 fin) 34 [(0, .ref (V.2.2.1 + 92)), (1, .int l1), (2, .int x2)] [] σ) (hx34 : ∀ (x2 : Int32), A (.inr x2) → Go V Γ M_X12_leafOf (Zm V Γ 5 fin) 61 [(0, .ref (V.2.2.1 + 92)), (2, .int x2)] [] σ) (h : Mo_leafOf_L34 l1 σ x2 = some o) (hA : A o) : Go V Γ M_X12_leafOf (Zm V Γ 5 fin) 34 [(0, .ref (V.2.2.1 + 92)), (1, .int l1), (2, .int x2)] [] σ := by
  unfold Mo_leafOf_L34 at h
  refine g_aload_n (pc := 34) X 0 rfl dX12_leafOf_34 ?_
  refine g_iload_n (pc := 35) X 1 rfl dX12_leafOf_35 ?_
  refine g_iload_n (pc := 36) X 2 rfl dX12_leafOf_36 ?_
  obtain ⟨c6, h⟩ := chk_e h
  refine g_irem (pc := 37) X (nzI_e c6) dX12_leafOf_37 ?_
  refine g_iload_n (pc := 38) X 2 rfl dX12_leafOf_38 ?_
  obtain ⟨r8, hc7, h⟩ := bd_e h
  refine g_callV (pc := 39) X k_ml_X12_345 (run_Mo_kindOf  hc7) s_92 rfl (room_ok (Nat.le_of_ble_eq_true rfl) (Nat.le_of_ble_eq_true rfl)) ⟨Nat.le_refl _, Nat.le_refl _⟩ _ rfl (Nat.le_of_ble_eq_true rfl) dX12_leafOf_39 ?_
  show Go V Γ M_X12_leafOf (Zm V Γ 5 fin) 42 [(0, .ref (V.2.2.1 + 92)), (1, .int l1), (2, .int x2)] [.int r8] σ
  refine g_iconst (v := 2) (pc := 42) X rfl dX12_leafOf_42 ?_
  refine g_icmp_ne (pc := 43) (tgt := 61) X dX12_leafOf_43 rfl (fun c13 => ?_) (fun c13 => ?_)
  · replace h := if_f c13 h
    refine g_sub [0, 2] rfl ?_
    cases h
    exact hx34 _ hA
  · replace h := if_t c13 h
    refine g_iload_n (pc := 46) X 2 rfl dX12_leafOf_46 ?_
    refine g_aload_n (pc := 47) X 0 rfl dX12_leafOf_47 ?_
    refine g_getI (pc := 48) X k_fl_X12_253 s_92 rfl dX12_leafOf_48 ?_
    refine g_iload_n (pc := 51) X 2 rfl dX12_leafOf_51 ?_
    obtain ⟨c9, h⟩ := chk_e h
    refine g_idiv (pc := 52) X (nzI_e c9) dX12_leafOf_52 ?_
    obtain ⟨r11, hc10, h⟩ := bd_e h
    refine g_callS (pc := 53) X k_ml_X12_348 (run_Mo_leastPrime  hc10) rfl (room_ok (Nat.le_of_ble_eq_true rfl) (Nat.le_of_ble_eq_true rfl)) ⟨Nat.le_refl _, Nat.le_refl _⟩ _ rfl (Nat.le_of_ble_eq_true rfl) dX12_leafOf_53 ?_
    show Go V Γ M_X12_leafOf (Zm V Γ 5 fin) 56 [(0, .ref (V.2.2.1 + 92)), (1, .int l1), (2, .int x2)] [.int r11, .int x2] σ
    refine g_imul (pc := 56) X dX12_leafOf_56 ?_
    obtain ⟨v12, e_v12, h⟩ := bnd_e h
    refine g_nmI e_v12 ?_
    refine g_istore_n (pc := 57) X [(2, .int v12), (0, .ref (V.2.2.1 + 92)), (1, .int l1)] rfl (Nat.le_of_ble_eq_true rfl) rfl dX12_leafOf_57 ?_
    refine g_goto (pc := 58) (tgt := 34) X dX12_leafOf_58 rfl ?_
    refine g_sub [1, 2, 0] rfl ?_
    cases h
    exact hb34 _ hA
set_option maxRecDepth 100000 in
theorem tl_Mo_leafOf_L34 {V : Ev} {Γ : Cn} {fin : Option Value × St} {l1 : Int32} {σ : St} {x2 : Int32} (X : Cx V Γ M_X12_leafOf)  {y2 : Int32} {n : Nat} (h : iter (fun s : Int32 => Mo_leafOf_L34 l1 σ s) n x2 = some y2) (hK : Go V Γ M_X12_leafOf (Zm V Γ 5 fin) 61 [(0, .ref (V.2.2.1 + 92)), (2, .int y2)] [] σ) : Go V Γ M_X12_leafOf (Zm V Γ 5 fin) 34 [(0, .ref (V.2.2.1 + 92)), (1, .int l1), (2, .int x2)] [] σ := by
  refine iter_go (G := (fun s : Int32 => Go V Γ M_X12_leafOf (Zm V Γ 5 fin) 34 [(0, .ref (V.2.2.1 + 92)), (1, .int l1), (2, .int s)] [] σ)) (fun s o ho hS => ?_) n x2 h
  exact tb_Mo_leafOf_L34 X  (fun _ h9 => h9) (fun _ he => by cases he; exact hK) ho hS
noncomputable def Mo_leafOf (σ : St) (p1 : Int32) : Option (Int32 × St) :=
  bd (Mo_isFrom p1.toInt64 0 9999) (fun r2 => if r2 = 0 then (bd2 (Mo_refuse σ 1) (fun r24 σ25 => some (r24, σ25))) else (bd2 (Mo_laysNow σ) (fun r4 σ5 => if r4 = 0 then (bd2 (Mo_refuse σ5 7) (fun r20 σ21 => some (r20, σ21))) else (bd (iter (fun s : Int32 => Mo_leafOf_L34 p1 σ5 s) FUEL 1) (fun v14 => bd2 (Mo_gives σ5 v14) (fun r17 σ18 => some (r17, σ18)))))))
set_option maxRecDepth 100000 in
set_option maxHeartbeats 4000000 in
theorem tm_Mo_leafOf {V : Ev} {Γ : Cn} {fin : Option Value × St} {σ : St} {p1 : Int32} {o : (Int32 × St)} (X : Cx V Γ M_X12_leafOf) {A : (Int32 × St) → Prop}  (hr : ∀ (r : Int32) (σ9 : St), A (r, σ9) → (some (.int r), σ9) = fin) (h : Mo_leafOf σ p1 = some o) (hA : A o) : Go V Γ M_X12_leafOf (Zm V Γ 5 fin) 0 [(0, .ref (V.2.2.1 + 92)), (1, .int p1)] [] σ := by
  unfold Mo_leafOf at h
  refine g_iload_n (pc := 0) X 1 rfl dX12_leafOf_0 ?_
  refine g_i2l (pc := 1) X dX12_leafOf_1 ?_
  refine g_lconst (v := 0) (pc := 2) X rfl dX12_leafOf_2 ?_
  refine g_ldc2 (v := 9999) (pc := 3) X k_constl_X12_289 dX12_leafOf_3 ?_
  obtain ⟨r2, hc1, h⟩ := bd_e h
  refine g_callS (pc := 6) X k_ml_X12_270 (run_Mo_isFrom  hc1) rfl (room_ok (Nat.le_of_ble_eq_true rfl) (Nat.le_of_ble_eq_true rfl)) ⟨Nat.le_refl _, Nat.le_refl _⟩ _ rfl (Nat.le_of_ble_eq_true rfl) dX12_leafOf_6 ?_
  show Go V Γ M_X12_leafOf (Zm V Γ 5 fin) 9 [(0, .ref (V.2.2.1 + 92)), (1, .int p1)] [.int r2] σ
  refine g_if_ne (pc := 9) (tgt := 18) X dX12_leafOf_9 rfl (fun c26 => ?_) (fun c26 => ?_)
  · replace h := if_f c26 h
    refine g_aload_n (pc := 18) X 0 rfl dX12_leafOf_18 ?_
    obtain ⟨r4, σ5, hc3, h⟩ := bd2_e h
    refine g_callV (pc := 19) X k_ml_X12_274 (run_Mo_laysNow  hc3) s_92 rfl (room_ok (Nat.le_of_ble_eq_true rfl) (Nat.le_of_ble_eq_true rfl)) ⟨Nat.le_refl _, Nat.le_refl _⟩ _ rfl (Nat.le_of_ble_eq_true rfl) dX12_leafOf_19 ?_
    show Go V Γ M_X12_leafOf (Zm V Γ 5 fin) 22 [(0, .ref (V.2.2.1 + 92)), (1, .int p1)] [.int r4] σ5
    refine g_if_ne (pc := 22) (tgt := 32) X dX12_leafOf_22 rfl (fun c22 => ?_) (fun c22 => ?_)
    · replace h := if_f c22 h
      refine g_iconst (v := 1) (pc := 32) X rfl dX12_leafOf_32 ?_
      refine g_istore_n (pc := 33) X [(2, .int 1), (0, .ref (V.2.2.1 + 92)), (1, .int p1)] rfl (Nat.le_of_ble_eq_true rfl) rfl dX12_leafOf_33 ?_
      refine g_sub [1, 2, 0] rfl ?_
      obtain ⟨v14, hi15, h⟩ := bd_e h
      refine tl_Mo_leafOf_L34 X  hi15 ?_
      refine g_aload_n (pc := 61) X 0 rfl dX12_leafOf_61 ?_
      refine g_iload_n (pc := 62) X 1 rfl dX12_leafOf_62 ?_
      obtain ⟨r17, σ18, hc16, h⟩ := bd2_e h
      refine g_callV (pc := 63) X k_ml_X12_92 (run_Mo_gives  hc16) s_92 rfl (room_ok (Nat.le_of_ble_eq_true rfl) (Nat.le_of_ble_eq_true rfl)) ⟨Nat.le_refl _, Nat.le_refl _⟩ _ rfl (Nat.le_of_ble_eq_true rfl) dX12_leafOf_63 ?_
      show Go V Γ M_X12_leafOf (Zm V Γ 5 fin) 66 [(0, .ref (V.2.2.1 + 92)), (2, .int v14)] [.int r17] σ18
      cases h
      exact g_iret (pc := 66) X rfl rfl (hr _ _ hA) dX12_leafOf_66
    · replace h := if_t c22 h
      refine g_aload_n (pc := 25) X 0 rfl dX12_leafOf_25 ?_
      refine g_bipush (v := 7) (pc := 26) X (by decide) dX12_leafOf_26 ?_
      obtain ⟨r20, σ21, hc19, h⟩ := bd2_e h
      refine g_callV (pc := 28) X k_ml_X12_88 (run_Mo_refuse  hc19) s_92 rfl (room_ok (Nat.le_of_ble_eq_true rfl) (Nat.le_of_ble_eq_true rfl)) ⟨Nat.le_refl _, Nat.le_refl _⟩ _ rfl (Nat.le_of_ble_eq_true rfl) dX12_leafOf_28 ?_
      show Go V Γ M_X12_leafOf (Zm V Γ 5 fin) 31 [(0, .ref (V.2.2.1 + 92)), (1, .int p1)] [.int r20] σ21
      cases h
      exact g_iret (pc := 31) X rfl rfl (hr _ _ hA) dX12_leafOf_31
  · replace h := if_t c26 h
    refine g_aload_n (pc := 12) X 0 rfl dX12_leafOf_12 ?_
    refine g_iconst (v := 1) (pc := 13) X rfl dX12_leafOf_13 ?_
    obtain ⟨r24, σ25, hc23, h⟩ := bd2_e h
    refine g_callV (pc := 14) X k_ml_X12_88 (run_Mo_refuse  hc23) s_92 rfl (room_ok (Nat.le_of_ble_eq_true rfl) (Nat.le_of_ble_eq_true rfl)) ⟨Nat.le_refl _, Nat.le_refl _⟩ _ rfl (Nat.le_of_ble_eq_true rfl) dX12_leafOf_14 ?_
    show Go V Γ M_X12_leafOf (Zm V Γ 5 fin) 17 [(0, .ref (V.2.2.1 + 92)), (1, .int p1)] [.int r24] σ25
    cases h
    exact g_iret (pc := 17) X rfl rfl (hr _ _ hA) dX12_leafOf_17
set_option maxRecDepth 100000 in
theorem run_Mo_leafOf {V : Ev} {σ : St} {p1 : Int32} {o : (Int32 × St)}   (h : Mo_leafOf σ p1 = some o) : Rs V 5 M_X12_leafOf [.ref (V.2.2.1 + 92), .int p1] σ (some (.int o.1), o.2) := by
  refine Rs.of (by decide +kernel) (Nat.le_of_ble_eq_true rfl) (fun Γ X => ?_)
  exact tm_Mo_leafOf X (A := fun o1 => o1 = o)  (fun _ _ e => by rw [← e]) h rfl
theorem dX12_wrongChoices_0 : decode cX12_wrongChoices 0 = .ok (.iload_n 1, 1) := by decide +kernel
theorem dX12_wrongChoices_1 : decode cX12_wrongChoices 1 = .ok (.invokestatic 99, 3) := by decide +kernel
theorem dX12_wrongChoices_4 : decode cX12_wrongChoices 4 = .ok (.ifCond .eq 27, 3) := by decide +kernel
theorem dX12_wrongChoices_7 : decode cX12_wrongChoices 7 = .ok (.iload_n 2, 1) := by decide +kernel
theorem dX12_wrongChoices_8 : decode cX12_wrongChoices 8 = .ok (.i2l, 1) := by decide +kernel
theorem dX12_wrongChoices_9 : decode cX12_wrongChoices 9 = .ok (.lconst 0, 1) := by decide +kernel
theorem dX12_wrongChoices_10 : decode cX12_wrongChoices 10 = .ok (.ldc2_w 356, 3) := by decide +kernel
theorem dX12_wrongChoices_13 : decode cX12_wrongChoices 13 = .ok (.invokestatic 270, 3) := by decide +kernel
theorem dX12_wrongChoices_16 : decode cX12_wrongChoices 16 = .ok (.ifCond .eq 15, 3) := by decide +kernel
theorem dX12_wrongChoices_19 : decode cX12_wrongChoices 19 = .ok (.iload_n 3, 1) := by decide +kernel
theorem dX12_wrongChoices_20 : decode cX12_wrongChoices 20 = .ok (.i2l, 1) := by decide +kernel
theorem dX12_wrongChoices_21 : decode cX12_wrongChoices 21 = .ok (.lconst 0, 1) := by decide +kernel
theorem dX12_wrongChoices_22 : decode cX12_wrongChoices 22 = .ok (.ldc2_w 311, 3) := by decide +kernel
theorem dX12_wrongChoices_25 : decode cX12_wrongChoices 25 = .ok (.invokestatic 270, 3) := by decide +kernel
theorem dX12_wrongChoices_28 : decode cX12_wrongChoices 28 = .ok (.ifCond .ne 5, 3) := by decide +kernel
theorem dX12_wrongChoices_31 : decode cX12_wrongChoices 31 = .ok (.iconst 1, 1) := by decide +kernel
theorem dX12_wrongChoices_32 : decode cX12_wrongChoices 32 = .ok (.ireturn, 1) := by decide +kernel
theorem dX12_wrongChoices_33 : decode cX12_wrongChoices 33 = .ok (.aload_n 0, 1) := by decide +kernel
theorem dX12_wrongChoices_34 : decode cX12_wrongChoices 34 = .ok (.getfield 24, 3) := by decide +kernel
theorem dX12_wrongChoices_37 : decode cX12_wrongChoices 37 = .ok (.iload_n 1, 1) := by decide +kernel
theorem dX12_wrongChoices_38 : decode cX12_wrongChoices 38 = .ok (.iaload, 1) := by decide +kernel
theorem dX12_wrongChoices_39 : decode cX12_wrongChoices 39 = .ok (.iconst (-1), 1) := by decide +kernel
theorem dX12_wrongChoices_40 : decode cX12_wrongChoices 40 = .ok (.if_icmp .ne 5, 3) := by decide +kernel
theorem dX12_wrongChoices_43 : decode cX12_wrongChoices 43 = .ok (.iconst 2, 1) := by decide +kernel
theorem dX12_wrongChoices_44 : decode cX12_wrongChoices 44 = .ok (.ireturn, 1) := by decide +kernel
theorem dX12_wrongChoices_45 : decode cX12_wrongChoices 45 = .ok (.aload_n 0, 1) := by decide +kernel
theorem dX12_wrongChoices_46 : decode cX12_wrongChoices 46 = .ok (.getfield 24, 3) := by decide +kernel
theorem dX12_wrongChoices_49 : decode cX12_wrongChoices 49 = .ok (.iload_n 1, 1) := by decide +kernel
theorem dX12_wrongChoices_50 : decode cX12_wrongChoices 50 = .ok (.iaload, 1) := by decide +kernel
theorem dX12_wrongChoices_51 : decode cX12_wrongChoices 51 = .ok (.iload_n 2, 1) := by decide +kernel
theorem dX12_wrongChoices_52 : decode cX12_wrongChoices 52 = .ok (.if_icmp .ge 5, 3) := by decide +kernel
theorem dX12_wrongChoices_55 : decode cX12_wrongChoices 55 = .ok (.iconst 3, 1) := by decide +kernel
theorem dX12_wrongChoices_56 : decode cX12_wrongChoices 56 = .ok (.ireturn, 1) := by decide +kernel
theorem dX12_wrongChoices_57 : decode cX12_wrongChoices 57 = .ok (.lconst 1, 1) := by decide +kernel
theorem dX12_wrongChoices_58 : decode cX12_wrongChoices 58 = .ok (.lstore 4, 2) := by decide +kernel
theorem dX12_wrongChoices_60 : decode cX12_wrongChoices 60 = .ok (.iconst 0, 1) := by decide +kernel
theorem dX12_wrongChoices_61 : decode cX12_wrongChoices 61 = .ok (.istore 6, 2) := by decide +kernel
theorem dX12_wrongChoices_63 : decode cX12_wrongChoices 63 = .ok (.iload 6, 2) := by decide +kernel
theorem dX12_wrongChoices_65 : decode cX12_wrongChoices 65 = .ok (.iload_n 2, 1) := by decide +kernel
theorem dX12_wrongChoices_66 : decode cX12_wrongChoices 66 = .ok (.if_icmp .ge 66, 3) := by decide +kernel
theorem dX12_wrongChoices_69 : decode cX12_wrongChoices 69 = .ok (.aload_n 0, 1) := by decide +kernel
theorem dX12_wrongChoices_70 : decode cX12_wrongChoices 70 = .ok (.getfield 27, 3) := by decide +kernel
theorem dX12_wrongChoices_73 : decode cX12_wrongChoices 73 = .ok (.bipush 60, 2) := by decide +kernel
theorem dX12_wrongChoices_75 : decode cX12_wrongChoices 75 = .ok (.iload_n 1, 1) := by decide +kernel
theorem dX12_wrongChoices_76 : decode cX12_wrongChoices 76 = .ok (.imul, 1) := by decide +kernel
theorem dX12_wrongChoices_77 : decode cX12_wrongChoices 77 = .ok (.iload 6, 2) := by decide +kernel
theorem dX12_wrongChoices_79 : decode cX12_wrongChoices 79 = .ok (.iadd, 1) := by decide +kernel
theorem dX12_wrongChoices_80 : decode cX12_wrongChoices 80 = .ok (.laload, 1) := by decide +kernel
theorem dX12_wrongChoices_81 : decode cX12_wrongChoices 81 = .ok (.lconst 1, 1) := by decide +kernel
theorem dX12_wrongChoices_82 : decode cX12_wrongChoices 82 = .ok (.ldc2_w 299, 3) := by decide +kernel
theorem dX12_wrongChoices_85 : decode cX12_wrongChoices 85 = .ok (.invokestatic 270, 3) := by decide +kernel
theorem dX12_wrongChoices_88 : decode cX12_wrongChoices 88 = .ok (.ifCond .ne 5, 3) := by decide +kernel
theorem dX12_wrongChoices_91 : decode cX12_wrongChoices 91 = .ok (.iconst 5, 1) := by decide +kernel
theorem dX12_wrongChoices_92 : decode cX12_wrongChoices 92 = .ok (.ireturn, 1) := by decide +kernel
theorem dX12_wrongChoices_93 : decode cX12_wrongChoices 93 = .ok (.aload_n 0, 1) := by decide +kernel
theorem dX12_wrongChoices_94 : decode cX12_wrongChoices 94 = .ok (.getfield 60, 3) := by decide +kernel
theorem dX12_wrongChoices_97 : decode cX12_wrongChoices 97 = .ok (.iload 6, 2) := by decide +kernel
theorem dX12_wrongChoices_99 : decode cX12_wrongChoices 99 = .ok (.aload_n 0, 1) := by decide +kernel
theorem dX12_wrongChoices_100 : decode cX12_wrongChoices 100 = .ok (.getfield 27, 3) := by decide +kernel
theorem dX12_wrongChoices_103 : decode cX12_wrongChoices 103 = .ok (.bipush 60, 2) := by decide +kernel
theorem dX12_wrongChoices_105 : decode cX12_wrongChoices 105 = .ok (.iload_n 1, 1) := by decide +kernel
theorem dX12_wrongChoices_106 : decode cX12_wrongChoices 106 = .ok (.imul, 1) := by decide +kernel
theorem dX12_wrongChoices_107 : decode cX12_wrongChoices 107 = .ok (.iload 6, 2) := by decide +kernel
theorem dX12_wrongChoices_109 : decode cX12_wrongChoices 109 = .ok (.iadd, 1) := by decide +kernel
theorem dX12_wrongChoices_110 : decode cX12_wrongChoices 110 = .ok (.laload, 1) := by decide +kernel
theorem dX12_wrongChoices_111 : decode cX12_wrongChoices 111 = .ok (.l2i, 1) := by decide +kernel
theorem dX12_wrongChoices_112 : decode cX12_wrongChoices 112 = .ok (.iastore, 1) := by decide +kernel
theorem dX12_wrongChoices_113 : decode cX12_wrongChoices 113 = .ok (.lload 4, 2) := by decide +kernel
theorem dX12_wrongChoices_115 : decode cX12_wrongChoices 115 = .ok (.aload_n 0, 1) := by decide +kernel
theorem dX12_wrongChoices_116 : decode cX12_wrongChoices 116 = .ok (.getfield 60, 3) := by decide +kernel
theorem dX12_wrongChoices_119 : decode cX12_wrongChoices 119 = .ok (.iload 6, 2) := by decide +kernel
theorem dX12_wrongChoices_121 : decode cX12_wrongChoices 121 = .ok (.iaload, 1) := by decide +kernel
theorem dX12_wrongChoices_122 : decode cX12_wrongChoices 122 = .ok (.i2l, 1) := by decide +kernel
theorem dX12_wrongChoices_123 : decode cX12_wrongChoices 123 = .ok (.lmul, 1) := by decide +kernel
theorem dX12_wrongChoices_124 : decode cX12_wrongChoices 124 = .ok (.lstore 4, 2) := by decide +kernel
theorem dX12_wrongChoices_126 : decode cX12_wrongChoices 126 = .ok (.iinc 6 1, 3) := by decide +kernel
theorem dX12_wrongChoices_129 : decode cX12_wrongChoices 129 = .ok (.goto (-66), 3) := by decide +kernel
theorem dX12_wrongChoices_132 : decode cX12_wrongChoices 132 = .ok (.lload 4, 2) := by decide +kernel
theorem dX12_wrongChoices_134 : decode cX12_wrongChoices 134 = .ok (.ldc2_w 358, 3) := by decide +kernel
theorem dX12_wrongChoices_137 : decode cX12_wrongChoices 137 = .ok (.lcmp, 1) := by decide +kernel
theorem dX12_wrongChoices_138 : decode cX12_wrongChoices 138 = .ok (.ifCond .le 8, 3) := by decide +kernel
theorem dX12_wrongChoices_141 : decode cX12_wrongChoices 141 = .ok (.bipush 7, 2) := by decide +kernel
theorem dX12_wrongChoices_143 : decode cX12_wrongChoices 143 = .ok (.goto 4, 3) := by decide +kernel
theorem dX12_wrongChoices_146 : decode cX12_wrongChoices 146 = .ok (.iconst 0, 1) := by decide +kernel
theorem dX12_wrongChoices_147 : decode cX12_wrongChoices 147 = .ok (.ireturn, 1) := by decide +kernel
noncomputable def Mo_wrongChoices_L63 (l1 : Int32) (l2 : Int32) (σ : St) (x4 : Int64) (x6 : Int32) : Option ((Int64 × Int32 × St) ⊕ (Int32 × St)) :=
  if l2 ≤ x6 then (if x4 ≤ 5040 then (some (.inr (0, σ))) else (some (.inr (7, σ)))) else (chk (ix ((60 * l1) + x6) 240) (bd (Mo_isFrom (σ.2 97 (tn ((60 * l1) + x6))) 1 60) (fun r12 => if r12 = 0 then (some (.inr (5, σ))) else (chk (ix ((60 * l1) + x6) 240) (chk (ix x6 6) (bnd (wI σ 105 (tn x6) ((σ.2 97 (tn ((60 * l1) + x6))).toInt32)) (fun σ15 => chk (ix x6 6) (bnd ((x4 * ((σ15.1 105 (tn x6)).toInt64))) (fun v17 => bnd (x6 + 1) (fun v18 => some (.inl (v17, v18, σ15))))))))))))
set_option maxRecDepth 100000 in
set_option maxHeartbeats 4000000 in
theorem tb_Mo_wrongChoices_L63 {V : Ev} {Γ : Cn} {fin : Option Value × St} {l1 : Int32} {l2 : Int32} {σ : St} {x4 : Int64} {x6 : Int32} {o : ((Int64 × Int32 × St) ⊕ (Int32 × St))} (X : Cx V Γ M_X12_wrongChoices) {A : ((Int64 × Int32 × St) ⊕ (Int32 × St)) → Prop}  (hr : ∀ (r : Int32) (σ9 : St), A (.inr (r, σ9)) → (some (.int r), σ9) = fin) (hb63 : ∀ (x4 : Int64) (x6 : Int32) (σ9 : St), A (.inl (x4, x6, σ9)) → Go V Γ M_X12_wrongChoices (Zm V Γ 1 fin) 63 [(0, .ref (V.2.2.1 + 92)), (1, .int l1), (2, .int l2), (4, .long x4), (6, .int x6)] [] σ9) (h : Mo_wrongChoices_L63 l1 l2 σ x4 x6 = some o) (hA : A o) : Go V Γ M_X12_wrongChoices (Zm V Γ 1 fin) 63 [(0, .ref (V.2.2.1 + 92)), (1, .int l1), (2, .int l2), (4, .long x4), (6, .int x6)] [] σ := by
  unfold Mo_wrongChoices_L63 at h
  refine g_iload (pc := 63) X 4 rfl dX12_wrongChoices_63 ?_
  refine g_iload_n (pc := 65) X 2 rfl dX12_wrongChoices_65 ?_
  refine g_icmp_ge (pc := 66) (tgt := 132) X dX12_wrongChoices_66 rfl (fun c20 => ?_) (fun c20 => ?_)
  · replace h := if_t c20 h
    refine g_lload (pc := 132) X 3 rfl dX12_wrongChoices_132 ?_
    refine g_ldc2 (v := 5040) (pc := 134) X k_constl_X12_358 dX12_wrongChoices_134 ?_
    refine g_lcmp_le (pc := 137) (tgt := 146) X dX12_wrongChoices_137 dX12_wrongChoices_138 rfl (fun c9 => ?_) (fun c9 => ?_)
    · replace h := if_t c9 h
      refine g_iconst (v := 0) (pc := 146) X rfl dX12_wrongChoices_146 ?_
      cases h
      exact g_iret (pc := 147) X rfl rfl (hr _ _ hA) dX12_wrongChoices_147
    · replace h := if_f c9 h
      refine g_bipush (v := 7) (pc := 141) X (by decide) dX12_wrongChoices_141 ?_
      refine g_goto (pc := 143) (tgt := 147) X dX12_wrongChoices_143 rfl ?_
      cases h
      exact g_iret (pc := 147) X rfl rfl (hr _ _ hA) dX12_wrongChoices_147
  · replace h := if_f c20 h
    refine g_aload_n (pc := 69) X 0 rfl dX12_wrongChoices_69 ?_
    refine g_getR (r := 97) (pc := 70) X k_fl_X12_27 s_92 rfl dX12_wrongChoices_70 ?_
    refine g_bipush (v := 60) (pc := 73) X (by decide) dX12_wrongChoices_73 ?_
    refine g_iload_n (pc := 75) X 1 rfl dX12_wrongChoices_75 ?_
    refine g_imul (pc := 76) X dX12_wrongChoices_76 ?_
    refine g_iload (pc := 77) X 4 rfl dX12_wrongChoices_77 ?_
    refine g_iadd (pc := 79) X dX12_wrongChoices_79 ?_
    obtain ⟨c10, h⟩ := chk_e h
    refine g_lald (pc := 80) X s_97 c10 dX12_wrongChoices_80 ?_
    refine g_lconst (v := 1) (pc := 81) X rfl dX12_wrongChoices_81 ?_
    refine g_ldc2 (v := 60) (pc := 82) X k_constl_X12_299 dX12_wrongChoices_82 ?_
    obtain ⟨r12, hc11, h⟩ := bd_e h
    refine g_callS (pc := 85) X k_ml_X12_270 (run_Mo_isFrom  hc11) rfl (room_ok (Nat.le_of_ble_eq_true rfl) (Nat.le_of_ble_eq_true rfl)) ⟨Nat.le_refl _, Nat.le_refl _⟩ _ rfl (Nat.le_of_ble_eq_true rfl) dX12_wrongChoices_85 ?_
    show Go V Γ M_X12_wrongChoices (Zm V Γ 1 fin) 88 [(0, .ref (V.2.2.1 + 92)), (1, .int l1), (2, .int l2), (4, .long x4), (6, .int x6)] [.int r12] σ
    refine g_if_ne (pc := 88) (tgt := 93) X dX12_wrongChoices_88 rfl (fun c19 => ?_) (fun c19 => ?_)
    · replace h := if_f c19 h
      refine g_aload_n (pc := 93) X 0 rfl dX12_wrongChoices_93 ?_
      refine g_getR (r := 105) (pc := 94) X k_fl_X12_60 s_92 rfl dX12_wrongChoices_94 ?_
      refine g_iload (pc := 97) X 4 rfl dX12_wrongChoices_97 ?_
      refine g_aload_n (pc := 99) X 0 rfl dX12_wrongChoices_99 ?_
      refine g_getR (r := 97) (pc := 100) X k_fl_X12_27 s_92 rfl dX12_wrongChoices_100 ?_
      refine g_bipush (v := 60) (pc := 103) X (by decide) dX12_wrongChoices_103 ?_
      refine g_iload_n (pc := 105) X 1 rfl dX12_wrongChoices_105 ?_
      refine g_imul (pc := 106) X dX12_wrongChoices_106 ?_
      refine g_iload (pc := 107) X 4 rfl dX12_wrongChoices_107 ?_
      refine g_iadd (pc := 109) X dX12_wrongChoices_109 ?_
      obtain ⟨c13, h⟩ := chk_e h
      refine g_lald (pc := 110) X s_97 c13 dX12_wrongChoices_110 ?_
      refine g_l2i (pc := 111) X dX12_wrongChoices_111 ?_
      obtain ⟨c14, h⟩ := chk_e h
      refine g_iast (pc := 112) X s_105 c14 dX12_wrongChoices_112 ?_
      obtain ⟨σ15, e_σ15, h⟩ := bnd_e h
      refine g_nmS e_σ15 ?_
      refine g_lload (pc := 113) X 3 rfl dX12_wrongChoices_113 ?_
      refine g_aload_n (pc := 115) X 0 rfl dX12_wrongChoices_115 ?_
      refine g_getR (r := 105) (pc := 116) X k_fl_X12_60 s_92 rfl dX12_wrongChoices_116 ?_
      refine g_iload (pc := 119) X 4 rfl dX12_wrongChoices_119 ?_
      obtain ⟨c16, h⟩ := chk_e h
      refine g_iald (pc := 121) X s_105 c16 dX12_wrongChoices_121 ?_
      refine g_i2l (pc := 122) X dX12_wrongChoices_122 ?_
      refine g_lmul (pc := 123) X dX12_wrongChoices_123 ?_
      obtain ⟨v17, e_v17, h⟩ := bnd_e h
      refine g_nmL e_v17 ?_
      refine g_lstore (pc := 124) X [(4, .long v17), (0, .ref (V.2.2.1 + 92)), (1, .int l1), (2, .int l2), (6, .int x6)] (Nat.le_of_ble_eq_true rfl) rfl dX12_wrongChoices_124 ?_
      obtain ⟨v18, e_v18, h⟩ := bnd_e h
      refine g_iinc (pc := 126) (v := v18) X [(6, .int v18), (4, .long v17), (0, .ref (V.2.2.1 + 92)), (1, .int l1), (2, .int l2)] 4 rfl (by rw [e_v18]; rfl) (Nat.le_of_ble_eq_true rfl) rfl dX12_wrongChoices_126 ?_
      refine g_goto (pc := 129) (tgt := 63) X dX12_wrongChoices_129 rfl ?_
      refine g_sub [2, 3, 4, 1, 0] rfl ?_
      cases h
      exact hb63 _ _ _ hA
    · replace h := if_t c19 h
      refine g_iconst (v := 5) (pc := 91) X rfl dX12_wrongChoices_91 ?_
      cases h
      exact g_iret (pc := 92) X rfl rfl (hr _ _ hA) dX12_wrongChoices_92
set_option maxRecDepth 100000 in
theorem tl_Mo_wrongChoices_L63 {V : Ev} {Γ : Cn} {fin : Option Value × St} {l1 : Int32} {l2 : Int32} {x4 : Int64} {x6 : Int32} {σ9 : St} (X : Cx V Γ M_X12_wrongChoices)  {e : (Int32 × St)} {A : (Int32 × St) → Prop} (hr : ∀ (r : Int32) (σ9 : St), A (r, σ9) → (some (.int r), σ9) = fin) {n : Nat} (h : iter (fun s : (Int64 × Int32 × St) => Mo_wrongChoices_L63 l1 l2 s.2.2 s.1 s.2.1) n (x4, x6, σ9) = some e) (hA : A e) : Go V Γ M_X12_wrongChoices (Zm V Γ 1 fin) 63 [(0, .ref (V.2.2.1 + 92)), (1, .int l1), (2, .int l2), (4, .long x4), (6, .int x6)] [] σ9 := by
  refine iter_go (G := (fun s : (Int64 × Int32 × St) => Go V Γ M_X12_wrongChoices (Zm V Γ 1 fin) 63 [(0, .ref (V.2.2.1 + 92)), (1, .int l1), (2, .int l2), (4, .long s.1), (6, .int s.2.1)] [] s.2.2)) (fun s o ho hS => ?_) n (x4, x6, σ9) h
  exact tb_Mo_wrongChoices_L63 X  (fun z0 z1 he => hr z0 z1 (by rw [he]; exact hA)) (fun _ _ _ h9 => h9) ho hS
noncomputable def Mo_wrongChoices (σ : St) (p1 : Int32) (p2 : Int32) (p3 : Int32) : Option (Int32 × St) :=
  bd (Mo_isTray p1) (fun r2 => if r2 = 0 then (some (1, σ)) else (bd (Mo_isFrom p2.toInt64 0 6) (fun r4 => if r4 = 0 then (some (1, σ)) else (bd (Mo_isFrom p3.toInt64 0 2) (fun r6 => if r6 = 0 then (some (1, σ)) else (chk (ix p1 4) (if (σ.1 96 (tn p1)) = (-1) then (some (2, σ)) else (chk (ix p1 4) (if p2 ≤ (σ.1 96 (tn p1)) then (iter (fun s : (Int64 × Int32 × St) => Mo_wrongChoices_L63 p1 p2 s.2.2 s.1 s.2.1) FUEL (1, 0, σ)) else (some (3, σ)))))))))))
set_option maxRecDepth 100000 in
set_option maxHeartbeats 4000000 in
theorem tm_Mo_wrongChoices {V : Ev} {Γ : Cn} {fin : Option Value × St} {σ : St} {p1 : Int32} {p2 : Int32} {p3 : Int32} {o : (Int32 × St)} (X : Cx V Γ M_X12_wrongChoices) {A : (Int32 × St) → Prop}  (hr : ∀ (r : Int32) (σ9 : St), A (r, σ9) → (some (.int r), σ9) = fin) (h : Mo_wrongChoices σ p1 p2 p3 = some o) (hA : A o) : Go V Γ M_X12_wrongChoices (Zm V Γ 1 fin) 0 [(0, .ref (V.2.2.1 + 92)), (1, .int p1), (2, .int p2), (3, .int p3)] [] σ := by
  unfold Mo_wrongChoices at h
  refine g_iload_n (pc := 0) X 1 rfl dX12_wrongChoices_0 ?_
  obtain ⟨r2, hc1, h⟩ := bd_e h
  refine g_callS (pc := 1) X k_ml_X12_99 (run_Mo_isTray  hc1) rfl (room_ok (Nat.le_of_ble_eq_true rfl) (Nat.le_of_ble_eq_true rfl)) ⟨Nat.le_refl _, Nat.le_refl _⟩ _ rfl (Nat.le_of_ble_eq_true rfl) dX12_wrongChoices_1 ?_
  show Go V Γ M_X12_wrongChoices (Zm V Γ 1 fin) 4 [(0, .ref (V.2.2.1 + 92)), (1, .int p1), (2, .int p2), (3, .int p3)] [.int r2] σ
  refine g_if_eq (pc := 4) (tgt := 31) X dX12_wrongChoices_4 rfl (fun c25 => ?_) (fun c25 => ?_)
  · replace h := if_t c25 h
    refine g_iconst (v := 1) (pc := 31) X rfl dX12_wrongChoices_31 ?_
    cases h
    exact g_iret (pc := 32) X rfl rfl (hr _ _ hA) dX12_wrongChoices_32
  · replace h := if_f c25 h
    refine g_iload_n (pc := 7) X 2 rfl dX12_wrongChoices_7 ?_
    refine g_i2l (pc := 8) X dX12_wrongChoices_8 ?_
    refine g_lconst (v := 0) (pc := 9) X rfl dX12_wrongChoices_9 ?_
    refine g_ldc2 (v := 6) (pc := 10) X k_constl_X12_356 dX12_wrongChoices_10 ?_
    obtain ⟨r4, hc3, h⟩ := bd_e h
    refine g_callS (pc := 13) X k_ml_X12_270 (run_Mo_isFrom  hc3) rfl (room_ok (Nat.le_of_ble_eq_true rfl) (Nat.le_of_ble_eq_true rfl)) ⟨Nat.le_refl _, Nat.le_refl _⟩ _ rfl (Nat.le_of_ble_eq_true rfl) dX12_wrongChoices_13 ?_
    show Go V Γ M_X12_wrongChoices (Zm V Γ 1 fin) 16 [(0, .ref (V.2.2.1 + 92)), (1, .int p1), (2, .int p2), (3, .int p3)] [.int r4] σ
    refine g_if_eq (pc := 16) (tgt := 31) X dX12_wrongChoices_16 rfl (fun c24 => ?_) (fun c24 => ?_)
    · replace h := if_t c24 h
      refine g_iconst (v := 1) (pc := 31) X rfl dX12_wrongChoices_31 ?_
      cases h
      exact g_iret (pc := 32) X rfl rfl (hr _ _ hA) dX12_wrongChoices_32
    · replace h := if_f c24 h
      refine g_iload_n (pc := 19) X 3 rfl dX12_wrongChoices_19 ?_
      refine g_i2l (pc := 20) X dX12_wrongChoices_20 ?_
      refine g_lconst (v := 0) (pc := 21) X rfl dX12_wrongChoices_21 ?_
      refine g_ldc2 (v := 2) (pc := 22) X k_constl_X12_311 dX12_wrongChoices_22 ?_
      obtain ⟨r6, hc5, h⟩ := bd_e h
      refine g_callS (pc := 25) X k_ml_X12_270 (run_Mo_isFrom  hc5) rfl (room_ok (Nat.le_of_ble_eq_true rfl) (Nat.le_of_ble_eq_true rfl)) ⟨Nat.le_refl _, Nat.le_refl _⟩ _ rfl (Nat.le_of_ble_eq_true rfl) dX12_wrongChoices_25 ?_
      show Go V Γ M_X12_wrongChoices (Zm V Γ 1 fin) 28 [(0, .ref (V.2.2.1 + 92)), (1, .int p1), (2, .int p2), (3, .int p3)] [.int r6] σ
      refine g_if_ne (pc := 28) (tgt := 33) X dX12_wrongChoices_28 rfl (fun c23 => ?_) (fun c23 => ?_)
      · replace h := if_f c23 h
        refine g_aload_n (pc := 33) X 0 rfl dX12_wrongChoices_33 ?_
        refine g_getR (r := 96) (pc := 34) X k_fl_X12_24 s_92 rfl dX12_wrongChoices_34 ?_
        refine g_iload_n (pc := 37) X 1 rfl dX12_wrongChoices_37 ?_
        obtain ⟨c7, h⟩ := chk_e h
        refine g_iald (pc := 38) X s_96 c7 dX12_wrongChoices_38 ?_
        refine g_iconst (v := (-1)) (pc := 39) X rfl dX12_wrongChoices_39 ?_
        refine g_icmp_ne (pc := 40) (tgt := 45) X dX12_wrongChoices_40 rfl (fun c22 => ?_) (fun c22 => ?_)
        · replace h := if_f c22 h
          refine g_aload_n (pc := 45) X 0 rfl dX12_wrongChoices_45 ?_
          refine g_getR (r := 96) (pc := 46) X k_fl_X12_24 s_92 rfl dX12_wrongChoices_46 ?_
          refine g_iload_n (pc := 49) X 1 rfl dX12_wrongChoices_49 ?_
          obtain ⟨c8, h⟩ := chk_e h
          refine g_iald (pc := 50) X s_96 c8 dX12_wrongChoices_50 ?_
          refine g_iload_n (pc := 51) X 2 rfl dX12_wrongChoices_51 ?_
          refine g_icmp_ge (pc := 52) (tgt := 57) X dX12_wrongChoices_52 rfl (fun c21 => ?_) (fun c21 => ?_)
          · replace h := if_t c21 h
            refine g_lconst (v := 1) (pc := 57) X rfl dX12_wrongChoices_57 ?_
            refine g_lstore (pc := 58) X [(4, .long 1), (0, .ref (V.2.2.1 + 92)), (1, .int p1), (2, .int p2), (3, .int p3)] (Nat.le_of_ble_eq_true rfl) rfl dX12_wrongChoices_58 ?_
            refine g_iconst (v := 0) (pc := 60) X rfl dX12_wrongChoices_60 ?_
            refine g_istore (pc := 61) X [(6, .int 0), (4, .long 1), (0, .ref (V.2.2.1 + 92)), (1, .int p1), (2, .int p2), (3, .int p3)] (Nat.le_of_ble_eq_true rfl) rfl dX12_wrongChoices_61 ?_
            refine g_sub [2, 3, 4, 1, 0] rfl ?_
            exact tl_Mo_wrongChoices_L63 X  hr h hA
          · replace h := if_f c21 h
            refine g_iconst (v := 3) (pc := 55) X rfl dX12_wrongChoices_55 ?_
            cases h
            exact g_iret (pc := 56) X rfl rfl (hr _ _ hA) dX12_wrongChoices_56
        · replace h := if_t c22 h
          refine g_iconst (v := 2) (pc := 43) X rfl dX12_wrongChoices_43 ?_
          cases h
          exact g_iret (pc := 44) X rfl rfl (hr _ _ hA) dX12_wrongChoices_44
      · replace h := if_t c23 h
        refine g_iconst (v := 1) (pc := 31) X rfl dX12_wrongChoices_31 ?_
        cases h
        exact g_iret (pc := 32) X rfl rfl (hr _ _ hA) dX12_wrongChoices_32
set_option maxRecDepth 100000 in
theorem run_Mo_wrongChoices {V : Ev} {σ : St} {p1 : Int32} {p2 : Int32} {p3 : Int32} {o : (Int32 × St)}   (h : Mo_wrongChoices σ p1 p2 p3 = some o) : Rs V 1 M_X12_wrongChoices [.ref (V.2.2.1 + 92), .int p1, .int p2, .int p3] σ (some (.int o.1), o.2) := by
  refine Rs.of (by decide +kernel) (Nat.le_of_ble_eq_true rfl) (fun Γ X => ?_)
  exact tm_Mo_wrongChoices X (A := fun o1 => o1 = o)  (fun _ _ e => by rw [← e]) h rfl
theorem dX12_allWays_0 : decode cX12_allWays 0 = .ok (.iconst 1, 1) := by decide +kernel
theorem dX12_allWays_1 : decode cX12_allWays 1 = .ok (.istore_n 2, 1) := by decide +kernel
theorem dX12_allWays_2 : decode cX12_allWays 2 = .ok (.iconst 0, 1) := by decide +kernel
theorem dX12_allWays_3 : decode cX12_allWays 3 = .ok (.istore_n 3, 1) := by decide +kernel
theorem dX12_allWays_4 : decode cX12_allWays 4 = .ok (.iload_n 3, 1) := by decide +kernel
theorem dX12_allWays_5 : decode cX12_allWays 5 = .ok (.iload_n 1, 1) := by decide +kernel
theorem dX12_allWays_6 : decode cX12_allWays 6 = .ok (.if_icmp .ge 18, 3) := by decide +kernel
theorem dX12_allWays_9 : decode cX12_allWays 9 = .ok (.iload_n 2, 1) := by decide +kernel
theorem dX12_allWays_10 : decode cX12_allWays 10 = .ok (.aload_n 0, 1) := by decide +kernel
theorem dX12_allWays_11 : decode cX12_allWays 11 = .ok (.getfield 60, 3) := by decide +kernel
theorem dX12_allWays_14 : decode cX12_allWays 14 = .ok (.iload_n 3, 1) := by decide +kernel
theorem dX12_allWays_15 : decode cX12_allWays 15 = .ok (.iaload, 1) := by decide +kernel
theorem dX12_allWays_16 : decode cX12_allWays 16 = .ok (.imul, 1) := by decide +kernel
theorem dX12_allWays_17 : decode cX12_allWays 17 = .ok (.istore_n 2, 1) := by decide +kernel
theorem dX12_allWays_18 : decode cX12_allWays 18 = .ok (.iinc 3 1, 3) := by decide +kernel
theorem dX12_allWays_21 : decode cX12_allWays 21 = .ok (.goto (-17), 3) := by decide +kernel
theorem dX12_allWays_24 : decode cX12_allWays 24 = .ok (.iload_n 2, 1) := by decide +kernel
theorem dX12_allWays_25 : decode cX12_allWays 25 = .ok (.ireturn, 1) := by decide +kernel
noncomputable def Mo_allWays_L4 (l1 : Int32) (σ : St) (x2 : Int32) (x3 : Int32) : Option ((Int32 × Int32) ⊕ Int32) :=
  if l1 ≤ x3 then (some (.inr x2)) else (chk (ix x3 6) (bnd ((x2 * (σ.1 105 (tn x3)))) (fun v2 => bnd (x3 + 1) (fun v3 => some (.inl (v2, v3))))))
set_option maxRecDepth 100000 in
set_option maxHeartbeats 4000000 in
theorem tb_Mo_allWays_L4 {V : Ev} {Γ : Cn} {fin : Option Value × St} {l1 : Int32} {σ : St} {x2 : Int32} {x3 : Int32} {o : ((Int32 × Int32) ⊕ Int32)} (X : Cx V Γ M_X12_allWays) {A : ((Int32 × Int32) ⊕ Int32) → Prop}  (hb4 : ∀ (x2 : Int32) (x3 : Int32), A (.inl (x2, x3)) → Go V Γ M_X12_allWays (Zm V Γ 0 fin) 4 [(0, .ref (V.2.2.1 + 92)), (1, .int l1), (2, .int x2), (3, .int x3)] [] σ) (hx4 : ∀ (x2 : Int32), A (.inr x2) → Go V Γ M_X12_allWays (Zm V Γ 0 fin) 24 [(2, .int x2)] [] σ) (h : Mo_allWays_L4 l1 σ x2 x3 = some o) (hA : A o) : Go V Γ M_X12_allWays (Zm V Γ 0 fin) 4 [(0, .ref (V.2.2.1 + 92)), (1, .int l1), (2, .int x2), (3, .int x3)] [] σ := by
  unfold Mo_allWays_L4 at h
  refine g_iload_n (pc := 4) X 3 rfl dX12_allWays_4 ?_
  refine g_iload_n (pc := 5) X 1 rfl dX12_allWays_5 ?_
  refine g_icmp_ge (pc := 6) (tgt := 24) X dX12_allWays_6 rfl (fun c4 => ?_) (fun c4 => ?_)
  · replace h := if_t c4 h
    refine g_sub [2] rfl ?_
    cases h
    exact hx4 _ hA
  · replace h := if_f c4 h
    refine g_iload_n (pc := 9) X 2 rfl dX12_allWays_9 ?_
    refine g_aload_n (pc := 10) X 0 rfl dX12_allWays_10 ?_
    refine g_getR (r := 105) (pc := 11) X k_fl_X12_60 s_92 rfl dX12_allWays_11 ?_
    refine g_iload_n (pc := 14) X 3 rfl dX12_allWays_14 ?_
    obtain ⟨c1, h⟩ := chk_e h
    refine g_iald (pc := 15) X s_105 c1 dX12_allWays_15 ?_
    refine g_imul (pc := 16) X dX12_allWays_16 ?_
    obtain ⟨v2, e_v2, h⟩ := bnd_e h
    refine g_nmI e_v2 ?_
    refine g_istore_n (pc := 17) X [(2, .int v2), (0, .ref (V.2.2.1 + 92)), (1, .int l1), (3, .int x3)] rfl (Nat.le_of_ble_eq_true rfl) rfl dX12_allWays_17 ?_
    obtain ⟨v3, e_v3, h⟩ := bnd_e h
    refine g_iinc (pc := 18) (v := v3) X [(3, .int v3), (2, .int v2), (0, .ref (V.2.2.1 + 92)), (1, .int l1)] 3 rfl (by rw [e_v3]; rfl) (Nat.le_of_ble_eq_true rfl) rfl dX12_allWays_18 ?_
    refine g_goto (pc := 21) (tgt := 4) X dX12_allWays_21 rfl ?_
    refine g_sub [2, 3, 1, 0] rfl ?_
    cases h
    exact hb4 _ _ hA
set_option maxRecDepth 100000 in
theorem tl_Mo_allWays_L4 {V : Ev} {Γ : Cn} {fin : Option Value × St} {l1 : Int32} {σ : St} {x2 : Int32} {x3 : Int32} (X : Cx V Γ M_X12_allWays)  {y2 : Int32} {n : Nat} (h : iter (fun s : (Int32 × Int32) => Mo_allWays_L4 l1 σ s.1 s.2) n (x2, x3) = some y2) (hK : Go V Γ M_X12_allWays (Zm V Γ 0 fin) 24 [(2, .int y2)] [] σ) : Go V Γ M_X12_allWays (Zm V Γ 0 fin) 4 [(0, .ref (V.2.2.1 + 92)), (1, .int l1), (2, .int x2), (3, .int x3)] [] σ := by
  refine iter_go (G := (fun s : (Int32 × Int32) => Go V Γ M_X12_allWays (Zm V Γ 0 fin) 4 [(0, .ref (V.2.2.1 + 92)), (1, .int l1), (2, .int s.1), (3, .int s.2)] [] σ)) (fun s o ho hS => ?_) n (x2, x3) h
  exact tb_Mo_allWays_L4 X  (fun _ _ h9 => h9) (fun _ he => by cases he; exact hK) ho hS
noncomputable def Mo_allWays (σ : St) (p1 : Int32) : Option Int32 :=
  bd (iter (fun s : (Int32 × Int32) => Mo_allWays_L4 p1 σ s.1 s.2) FUEL (1, 0)) (fun v5 => some v5)
set_option maxRecDepth 100000 in
set_option maxHeartbeats 4000000 in
theorem tm_Mo_allWays {V : Ev} {Γ : Cn} {fin : Option Value × St} {σ : St} {p1 : Int32} {o : Int32} (X : Cx V Γ M_X12_allWays) {A : Int32 → Prop}  (hr : ∀ (r : Int32), A r → (some (.int r), σ) = fin) (h : Mo_allWays σ p1 = some o) (hA : A o) : Go V Γ M_X12_allWays (Zm V Γ 0 fin) 0 [(0, .ref (V.2.2.1 + 92)), (1, .int p1)] [] σ := by
  unfold Mo_allWays at h
  refine g_iconst (v := 1) (pc := 0) X rfl dX12_allWays_0 ?_
  refine g_istore_n (pc := 1) X [(2, .int 1), (0, .ref (V.2.2.1 + 92)), (1, .int p1)] rfl (Nat.le_of_ble_eq_true rfl) rfl dX12_allWays_1 ?_
  refine g_iconst (v := 0) (pc := 2) X rfl dX12_allWays_2 ?_
  refine g_istore_n (pc := 3) X [(3, .int 0), (2, .int 1), (0, .ref (V.2.2.1 + 92)), (1, .int p1)] rfl (Nat.le_of_ble_eq_true rfl) rfl dX12_allWays_3 ?_
  refine g_sub [2, 3, 1, 0] rfl ?_
  obtain ⟨v5, hi6, h⟩ := bd_e h
  refine tl_Mo_allWays_L4 X  hi6 ?_
  refine g_iload_n (pc := 24) X 0 rfl dX12_allWays_24 ?_
  cases h
  exact g_iret (pc := 25) X rfl rfl (hr _ hA) dX12_allWays_25
set_option maxRecDepth 100000 in
theorem run_Mo_allWays {V : Ev} {σ : St} {p1 : Int32} {o : Int32}   (h : Mo_allWays σ p1 = some o) : Rs V 0 M_X12_allWays [.ref (V.2.2.1 + 92), .int p1] σ (some (.int o), σ) := by
  refine Rs.of (by decide +kernel) (Nat.le_of_ble_eq_true rfl) (fun Γ X => ?_)
  exact tm_Mo_allWays X (A := fun o1 => o1 = o)  (fun _ e => by rw [e]) h rfl
theorem dX12_laysWay_0 : decode cX12_laysWay 0 = .ok (.iload_n 1, 1) := by decide +kernel
theorem dX12_laysWay_1 : decode cX12_laysWay 1 = .ok (.istore_n 3, 1) := by decide +kernel
theorem dX12_laysWay_2 : decode cX12_laysWay 2 = .ok (.iload_n 2, 1) := by decide +kernel
theorem dX12_laysWay_3 : decode cX12_laysWay 3 = .ok (.iconst 1, 1) := by decide +kernel
theorem dX12_laysWay_4 : decode cX12_laysWay 4 = .ok (.isub, 1) := by decide +kernel
theorem dX12_laysWay_5 : decode cX12_laysWay 5 = .ok (.istore 4, 2) := by decide +kernel
theorem dX12_laysWay_7 : decode cX12_laysWay 7 = .ok (.iload 4, 2) := by decide +kernel
theorem dX12_laysWay_9 : decode cX12_laysWay 9 = .ok (.ifCond .lt 35, 3) := by decide +kernel
theorem dX12_laysWay_12 : decode cX12_laysWay 12 = .ok (.aload_n 0, 1) := by decide +kernel
theorem dX12_laysWay_13 : decode cX12_laysWay 13 = .ok (.getfield 63, 3) := by decide +kernel
theorem dX12_laysWay_16 : decode cX12_laysWay 16 = .ok (.iload 4, 2) := by decide +kernel
theorem dX12_laysWay_18 : decode cX12_laysWay 18 = .ok (.iload_n 3, 1) := by decide +kernel
theorem dX12_laysWay_19 : decode cX12_laysWay 19 = .ok (.aload_n 0, 1) := by decide +kernel
theorem dX12_laysWay_20 : decode cX12_laysWay 20 = .ok (.getfield 60, 3) := by decide +kernel
theorem dX12_laysWay_23 : decode cX12_laysWay 23 = .ok (.iload 4, 2) := by decide +kernel
theorem dX12_laysWay_25 : decode cX12_laysWay 25 = .ok (.iaload, 1) := by decide +kernel
theorem dX12_laysWay_26 : decode cX12_laysWay 26 = .ok (.irem, 1) := by decide +kernel
theorem dX12_laysWay_27 : decode cX12_laysWay 27 = .ok (.iastore, 1) := by decide +kernel
theorem dX12_laysWay_28 : decode cX12_laysWay 28 = .ok (.iload_n 3, 1) := by decide +kernel
theorem dX12_laysWay_29 : decode cX12_laysWay 29 = .ok (.aload_n 0, 1) := by decide +kernel
theorem dX12_laysWay_30 : decode cX12_laysWay 30 = .ok (.getfield 60, 3) := by decide +kernel
theorem dX12_laysWay_33 : decode cX12_laysWay 33 = .ok (.iload 4, 2) := by decide +kernel
theorem dX12_laysWay_35 : decode cX12_laysWay 35 = .ok (.iaload, 1) := by decide +kernel
theorem dX12_laysWay_36 : decode cX12_laysWay 36 = .ok (.idiv, 1) := by decide +kernel
theorem dX12_laysWay_37 : decode cX12_laysWay 37 = .ok (.istore_n 3, 1) := by decide +kernel
theorem dX12_laysWay_38 : decode cX12_laysWay 38 = .ok (.iinc 4 (-1), 3) := by decide +kernel
theorem dX12_laysWay_41 : decode cX12_laysWay 41 = .ok (.goto (-34), 3) := by decide +kernel
theorem dX12_laysWay_44 : decode cX12_laysWay 44 = .ok (.return_, 1) := by decide +kernel
noncomputable def Mo_laysWay_L7 (σ : St) (x3 : Int32) (x4 : Int32) : Option ((Int32 × Int32 × St) ⊕ St) :=
  if x4 < 0 then (some (.inr σ)) else (chk (ix x4 6) (chk (nzI (σ.1 105 (tn x4))) (chk (ix x4 6) (bnd (wI σ 106 (tn x4) (jrem x3 (σ.1 105 (tn x4)))) (fun σ5 => chk (ix x4 6) (chk (nzI (σ5.1 105 (tn x4))) (bnd ((x3 / (σ5.1 105 (tn x4)))) (fun v8 => bnd (x4 + (-1)) (fun v9 => some (.inl (v8, v9, σ5)))))))))))
set_option maxRecDepth 100000 in
set_option maxHeartbeats 4000000 in
theorem tb_Mo_laysWay_L7 {V : Ev} {Γ : Cn} {fin : Option Value × St} {σ : St} {x3 : Int32} {x4 : Int32} {o : ((Int32 × Int32 × St) ⊕ St)} (X : Cx V Γ M_X12_laysWay) {A : ((Int32 × Int32 × St) ⊕ St) → Prop}  (hb7 : ∀ (x3 : Int32) (x4 : Int32) (σ9 : St), A (.inl (x3, x4, σ9)) → Go V Γ M_X12_laysWay (Zm V Γ 0 fin) 7 [(0, .ref (V.2.2.1 + 92)), (3, .int x3), (4, .int x4)] [] σ9) (hx7 : ∀ (σ9 : St), A (.inr σ9) → Go V Γ M_X12_laysWay (Zm V Γ 0 fin) 44 [] [] σ9) (h : Mo_laysWay_L7 σ x3 x4 = some o) (hA : A o) : Go V Γ M_X12_laysWay (Zm V Γ 0 fin) 7 [(0, .ref (V.2.2.1 + 92)), (3, .int x3), (4, .int x4)] [] σ := by
  unfold Mo_laysWay_L7 at h
  refine g_iload (pc := 7) X 2 rfl dX12_laysWay_7 ?_
  refine g_if_lt (pc := 9) (tgt := 44) X dX12_laysWay_9 rfl (fun c10 => ?_) (fun c10 => ?_)
  · replace h := if_t c10 h
    refine g_sub [] rfl ?_
    cases h
    exact hx7 _ hA
  · replace h := if_f c10 h
    refine g_aload_n (pc := 12) X 0 rfl dX12_laysWay_12 ?_
    refine g_getR (r := 106) (pc := 13) X k_fl_X12_63 s_92 rfl dX12_laysWay_13 ?_
    refine g_iload (pc := 16) X 2 rfl dX12_laysWay_16 ?_
    refine g_iload_n (pc := 18) X 1 rfl dX12_laysWay_18 ?_
    refine g_aload_n (pc := 19) X 0 rfl dX12_laysWay_19 ?_
    refine g_getR (r := 105) (pc := 20) X k_fl_X12_60 s_92 rfl dX12_laysWay_20 ?_
    refine g_iload (pc := 23) X 2 rfl dX12_laysWay_23 ?_
    obtain ⟨c2, h⟩ := chk_e h
    refine g_iald (pc := 25) X s_105 c2 dX12_laysWay_25 ?_
    obtain ⟨c3, h⟩ := chk_e h
    refine g_irem (pc := 26) X (nzI_e c3) dX12_laysWay_26 ?_
    obtain ⟨c4, h⟩ := chk_e h
    refine g_iast (pc := 27) X s_106 c4 dX12_laysWay_27 ?_
    obtain ⟨σ5, e_σ5, h⟩ := bnd_e h
    refine g_nmS e_σ5 ?_
    refine g_iload_n (pc := 28) X 1 rfl dX12_laysWay_28 ?_
    refine g_aload_n (pc := 29) X 0 rfl dX12_laysWay_29 ?_
    refine g_getR (r := 105) (pc := 30) X k_fl_X12_60 s_92 rfl dX12_laysWay_30 ?_
    refine g_iload (pc := 33) X 2 rfl dX12_laysWay_33 ?_
    obtain ⟨c6, h⟩ := chk_e h
    refine g_iald (pc := 35) X s_105 c6 dX12_laysWay_35 ?_
    obtain ⟨c7, h⟩ := chk_e h
    refine g_idiv (pc := 36) X (nzI_e c7) dX12_laysWay_36 ?_
    obtain ⟨v8, e_v8, h⟩ := bnd_e h
    refine g_nmI e_v8 ?_
    refine g_istore_n (pc := 37) X [(3, .int v8), (0, .ref (V.2.2.1 + 92)), (4, .int x4)] rfl (Nat.le_of_ble_eq_true rfl) rfl dX12_laysWay_37 ?_
    obtain ⟨v9, e_v9, h⟩ := bnd_e h
    refine g_iinc (pc := 38) (v := v9) X [(4, .int v9), (3, .int v8), (0, .ref (V.2.2.1 + 92))] 2 rfl (by rw [e_v9]; rfl) (Nat.le_of_ble_eq_true rfl) rfl dX12_laysWay_38 ?_
    refine g_goto (pc := 41) (tgt := 7) X dX12_laysWay_41 rfl ?_
    refine g_sub [2, 1, 0] rfl ?_
    cases h
    exact hb7 _ _ _ hA
set_option maxRecDepth 100000 in
theorem tl_Mo_laysWay_L7 {V : Ev} {Γ : Cn} {fin : Option Value × St} {x3 : Int32} {x4 : Int32} {σ9 : St} (X : Cx V Γ M_X12_laysWay)  {σ8 : St} {n : Nat} (h : iter (fun s : (Int32 × Int32 × St) => Mo_laysWay_L7 s.2.2 s.1 s.2.1) n (x3, x4, σ9) = some σ8) (hK : Go V Γ M_X12_laysWay (Zm V Γ 0 fin) 44 [] [] σ8) : Go V Γ M_X12_laysWay (Zm V Γ 0 fin) 7 [(0, .ref (V.2.2.1 + 92)), (3, .int x3), (4, .int x4)] [] σ9 := by
  refine iter_go (G := (fun s : (Int32 × Int32 × St) => Go V Γ M_X12_laysWay (Zm V Γ 0 fin) 7 [(0, .ref (V.2.2.1 + 92)), (3, .int s.1), (4, .int s.2.1)] [] s.2.2)) (fun s o ho hS => ?_) n (x3, x4, σ9) h
  exact tb_Mo_laysWay_L7 X  (fun _ _ _ h9 => h9) (fun _ he => by cases he; exact hK) ho hS
noncomputable def Mo_laysWay (σ : St) (p1 : Int32) (p2 : Int32) : Option St :=
  bnd ((p2 - 1)) (fun v1 => bd (iter (fun s : (Int32 × Int32 × St) => Mo_laysWay_L7 s.2.2 s.1 s.2.1) FUEL (p1, v1, σ)) (fun σ11 => some σ11))
set_option maxRecDepth 100000 in
set_option maxHeartbeats 4000000 in
theorem tm_Mo_laysWay {V : Ev} {Γ : Cn} {fin : Option Value × St} {σ : St} {p1 : Int32} {p2 : Int32} {o : St} (X : Cx V Γ M_X12_laysWay) {A : St → Prop}  (hr : ∀ (σ9 : St), A σ9 → (none, σ9) = fin) (h : Mo_laysWay σ p1 p2 = some o) (hA : A o) : Go V Γ M_X12_laysWay (Zm V Γ 0 fin) 0 [(0, .ref (V.2.2.1 + 92)), (1, .int p1), (2, .int p2)] [] σ := by
  unfold Mo_laysWay at h
  refine g_iload_n (pc := 0) X 1 rfl dX12_laysWay_0 ?_
  refine g_istore_n (pc := 1) X [(3, .int p1), (0, .ref (V.2.2.1 + 92)), (1, .int p1), (2, .int p2)] rfl (Nat.le_of_ble_eq_true rfl) rfl dX12_laysWay_1 ?_
  refine g_iload_n (pc := 2) X 3 rfl dX12_laysWay_2 ?_
  refine g_iconst (v := 1) (pc := 3) X rfl dX12_laysWay_3 ?_
  refine g_isub (pc := 4) X dX12_laysWay_4 ?_
  obtain ⟨v1, e_v1, h⟩ := bnd_e h
  refine g_nmI e_v1 ?_
  refine g_istore (pc := 5) X [(4, .int v1), (3, .int p1), (0, .ref (V.2.2.1 + 92)), (1, .int p1), (2, .int p2)] (Nat.le_of_ble_eq_true rfl) rfl dX12_laysWay_5 ?_
  refine g_sub [2, 1, 0] rfl ?_
  obtain ⟨σ11, hi12, h⟩ := bd_e h
  refine tl_Mo_laysWay_L7 X  hi12 ?_
  cases h
  exact g_vret (pc := 44) X rfl (hr _ hA) dX12_laysWay_44
set_option maxRecDepth 100000 in
theorem run_Mo_laysWay {V : Ev} {σ : St} {p1 : Int32} {p2 : Int32} {o : St}   (h : Mo_laysWay σ p1 p2 = some o) : Rs V 0 M_X12_laysWay [.ref (V.2.2.1 + 92), .int p1, .int p2] σ (none, o) := by
  refine Rs.of (by decide +kernel) (Nat.le_of_ble_eq_true rfl) (fun Γ X => ?_)
  exact tm_Mo_laysWay X (A := fun o1 => o1 = o)  (fun _ e => by rw [e]) h rfl
theorem dX12_isNoneTwice_0 : decode cX12_isNoneTwice 0 = .ok (.iconst 0, 1) := by decide +kernel
theorem dX12_isNoneTwice_1 : decode cX12_isNoneTwice 1 = .ok (.istore_n 2, 1) := by decide +kernel
theorem dX12_isNoneTwice_2 : decode cX12_isNoneTwice 2 = .ok (.iload_n 2, 1) := by decide +kernel
theorem dX12_isNoneTwice_3 : decode cX12_isNoneTwice 3 = .ok (.iload_n 1, 1) := by decide +kernel
theorem dX12_isNoneTwice_4 : decode cX12_isNoneTwice 4 = .ok (.if_icmp .ge 56, 3) := by decide +kernel
theorem dX12_isNoneTwice_7 : decode cX12_isNoneTwice 7 = .ok (.iconst 0, 1) := by decide +kernel
theorem dX12_isNoneTwice_8 : decode cX12_isNoneTwice 8 = .ok (.istore_n 3, 1) := by decide +kernel
theorem dX12_isNoneTwice_9 : decode cX12_isNoneTwice 9 = .ok (.iload_n 3, 1) := by decide +kernel
theorem dX12_isNoneTwice_10 : decode cX12_isNoneTwice 10 = .ok (.iload_n 2, 1) := by decide +kernel
theorem dX12_isNoneTwice_11 : decode cX12_isNoneTwice 11 = .ok (.if_icmp .ge 43, 3) := by decide +kernel
theorem dX12_isNoneTwice_14 : decode cX12_isNoneTwice 14 = .ok (.aload_n 0, 1) := by decide +kernel
theorem dX12_isNoneTwice_15 : decode cX12_isNoneTwice 15 = .ok (.getfield 63, 3) := by decide +kernel
theorem dX12_isNoneTwice_18 : decode cX12_isNoneTwice 18 = .ok (.iload_n 2, 1) := by decide +kernel
theorem dX12_isNoneTwice_19 : decode cX12_isNoneTwice 19 = .ok (.iaload, 1) := by decide +kernel
theorem dX12_isNoneTwice_20 : decode cX12_isNoneTwice 20 = .ok (.aload_n 0, 1) := by decide +kernel
theorem dX12_isNoneTwice_21 : decode cX12_isNoneTwice 21 = .ok (.getfield 63, 3) := by decide +kernel
theorem dX12_isNoneTwice_24 : decode cX12_isNoneTwice 24 = .ok (.iload_n 3, 1) := by decide +kernel
theorem dX12_isNoneTwice_25 : decode cX12_isNoneTwice 25 = .ok (.iaload, 1) := by decide +kernel
theorem dX12_isNoneTwice_26 : decode cX12_isNoneTwice 26 = .ok (.isub, 1) := by decide +kernel
theorem dX12_isNoneTwice_27 : decode cX12_isNoneTwice 27 = .ok (.aload_n 0, 1) := by decide +kernel
theorem dX12_isNoneTwice_28 : decode cX12_isNoneTwice 28 = .ok (.getfield 60, 3) := by decide +kernel
theorem dX12_isNoneTwice_31 : decode cX12_isNoneTwice 31 = .ok (.iload_n 2, 1) := by decide +kernel
theorem dX12_isNoneTwice_32 : decode cX12_isNoneTwice 32 = .ok (.iaload, 1) := by decide +kernel
theorem dX12_isNoneTwice_33 : decode cX12_isNoneTwice 33 = .ok (.aload_n 0, 1) := by decide +kernel
theorem dX12_isNoneTwice_34 : decode cX12_isNoneTwice 34 = .ok (.getfield 60, 3) := by decide +kernel
theorem dX12_isNoneTwice_37 : decode cX12_isNoneTwice 37 = .ok (.iload_n 3, 1) := by decide +kernel
theorem dX12_isNoneTwice_38 : decode cX12_isNoneTwice 38 = .ok (.iaload, 1) := by decide +kernel
theorem dX12_isNoneTwice_39 : decode cX12_isNoneTwice 39 = .ok (.invokestatic 247, 3) := by decide +kernel
theorem dX12_isNoneTwice_42 : decode cX12_isNoneTwice 42 = .ok (.irem, 1) := by decide +kernel
theorem dX12_isNoneTwice_43 : decode cX12_isNoneTwice 43 = .ok (.ifCond .ne 5, 3) := by decide +kernel
theorem dX12_isNoneTwice_46 : decode cX12_isNoneTwice 46 = .ok (.iconst 0, 1) := by decide +kernel
theorem dX12_isNoneTwice_47 : decode cX12_isNoneTwice 47 = .ok (.ireturn, 1) := by decide +kernel
theorem dX12_isNoneTwice_48 : decode cX12_isNoneTwice 48 = .ok (.iinc 3 1, 3) := by decide +kernel
theorem dX12_isNoneTwice_51 : decode cX12_isNoneTwice 51 = .ok (.goto (-42), 3) := by decide +kernel
theorem dX12_isNoneTwice_54 : decode cX12_isNoneTwice 54 = .ok (.iinc 2 1, 3) := by decide +kernel
theorem dX12_isNoneTwice_57 : decode cX12_isNoneTwice 57 = .ok (.goto (-55), 3) := by decide +kernel
theorem dX12_isNoneTwice_60 : decode cX12_isNoneTwice 60 = .ok (.iconst 1, 1) := by decide +kernel
theorem dX12_isNoneTwice_61 : decode cX12_isNoneTwice 61 = .ok (.ireturn, 1) := by decide +kernel
noncomputable def Mo_isNoneTwice_L9 (l1 : Int32) (l2 : Int32) (σ : St) (x3 : Int32) : Option (Int32 ⊕ ((Int32 ⊕ Int32) ⊕ Unit)) :=
  if l2 ≤ x3 then (some (.inr (.inr ()))) else (chk (ix l2 6) (chk (ix x3 6) (chk (ix l2 6) (chk (ix x3 6) (bd (Mo_common (σ.1 105 (tn l2)) (σ.1 105 (tn x3))) (fun r6 => chk (nzI r6) (if (jrem ((σ.1 106 (tn l2)) - (σ.1 106 (tn x3))) r6) = 0 then (some (.inr (.inl (.inr 0)))) else (bnd (x3 + 1) (fun v8 => some (.inl v8))))))))))
set_option maxRecDepth 100000 in
set_option maxHeartbeats 4000000 in
theorem tb_Mo_isNoneTwice_L9 {V : Ev} {Γ : Cn} {fin : Option Value × St} {l1 : Int32} {l2 : Int32} {σ : St} {x3 : Int32} {o : (Int32 ⊕ ((Int32 ⊕ Int32) ⊕ Unit))} (X : Cx V Γ M_X12_isNoneTwice) {A : (Int32 ⊕ ((Int32 ⊕ Int32) ⊕ Unit)) → Prop}  (hr : ∀ (r : Int32), A (.inr (.inl (.inr r))) → (some (.int r), σ) = fin) (hb9 : ∀ (x3 : Int32), A (.inl x3) → Go V Γ M_X12_isNoneTwice (Zm V Γ 1 fin) 9 [(0, .ref (V.2.2.1 + 92)), (1, .int l1), (2, .int l2), (3, .int x3)] [] σ) (hx9 : ∀ (_ : Unit), A (.inr (.inr ())) → Go V Γ M_X12_isNoneTwice (Zm V Γ 1 fin) 54 [(0, .ref (V.2.2.1 + 92)), (1, .int l1), (2, .int l2)] [] σ) (hb2 : ∀ (x2 : Int32), A (.inr (.inl (.inl x2))) → Go V Γ M_X12_isNoneTwice (Zm V Γ 1 fin) 2 [(0, .ref (V.2.2.1 + 92)), (1, .int l1), (2, .int x2)] [] σ) (h : Mo_isNoneTwice_L9 l1 l2 σ x3 = some o) (hA : A o) : Go V Γ M_X12_isNoneTwice (Zm V Γ 1 fin) 9 [(0, .ref (V.2.2.1 + 92)), (1, .int l1), (2, .int l2), (3, .int x3)] [] σ := by
  unfold Mo_isNoneTwice_L9 at h
  refine g_iload_n (pc := 9) X 3 rfl dX12_isNoneTwice_9 ?_
  refine g_iload_n (pc := 10) X 2 rfl dX12_isNoneTwice_10 ?_
  refine g_icmp_ge (pc := 11) (tgt := 54) X dX12_isNoneTwice_11 rfl (fun c10 => ?_) (fun c10 => ?_)
  · replace h := if_t c10 h
    refine g_sub [0, 1, 2] rfl ?_
    cases h
    exact hx9 () hA
  · replace h := if_f c10 h
    refine g_aload_n (pc := 14) X 0 rfl dX12_isNoneTwice_14 ?_
    refine g_getR (r := 106) (pc := 15) X k_fl_X12_63 s_92 rfl dX12_isNoneTwice_15 ?_
    refine g_iload_n (pc := 18) X 2 rfl dX12_isNoneTwice_18 ?_
    obtain ⟨c1, h⟩ := chk_e h
    refine g_iald (pc := 19) X s_106 c1 dX12_isNoneTwice_19 ?_
    refine g_aload_n (pc := 20) X 0 rfl dX12_isNoneTwice_20 ?_
    refine g_getR (r := 106) (pc := 21) X k_fl_X12_63 s_92 rfl dX12_isNoneTwice_21 ?_
    refine g_iload_n (pc := 24) X 3 rfl dX12_isNoneTwice_24 ?_
    obtain ⟨c2, h⟩ := chk_e h
    refine g_iald (pc := 25) X s_106 c2 dX12_isNoneTwice_25 ?_
    refine g_isub (pc := 26) X dX12_isNoneTwice_26 ?_
    refine g_aload_n (pc := 27) X 0 rfl dX12_isNoneTwice_27 ?_
    refine g_getR (r := 105) (pc := 28) X k_fl_X12_60 s_92 rfl dX12_isNoneTwice_28 ?_
    refine g_iload_n (pc := 31) X 2 rfl dX12_isNoneTwice_31 ?_
    obtain ⟨c3, h⟩ := chk_e h
    refine g_iald (pc := 32) X s_105 c3 dX12_isNoneTwice_32 ?_
    refine g_aload_n (pc := 33) X 0 rfl dX12_isNoneTwice_33 ?_
    refine g_getR (r := 105) (pc := 34) X k_fl_X12_60 s_92 rfl dX12_isNoneTwice_34 ?_
    refine g_iload_n (pc := 37) X 3 rfl dX12_isNoneTwice_37 ?_
    obtain ⟨c4, h⟩ := chk_e h
    refine g_iald (pc := 38) X s_105 c4 dX12_isNoneTwice_38 ?_
    obtain ⟨r6, hc5, h⟩ := bd_e h
    refine g_callS (pc := 39) X k_ml_X12_247 (run_Mo_common  hc5) rfl (room_ok (Nat.le_of_ble_eq_true rfl) (Nat.le_of_ble_eq_true rfl)) ⟨Nat.le_refl _, Nat.le_refl _⟩ _ rfl (Nat.le_of_ble_eq_true rfl) dX12_isNoneTwice_39 ?_
    show Go V Γ M_X12_isNoneTwice (Zm V Γ 1 fin) 42 [(0, .ref (V.2.2.1 + 92)), (1, .int l1), (2, .int l2), (3, .int x3)] [.int r6, .int ((σ.1 106 (tn l2)) - (σ.1 106 (tn x3)))] σ
    obtain ⟨c7, h⟩ := chk_e h
    refine g_irem (pc := 42) X (nzI_e c7) dX12_isNoneTwice_42 ?_
    refine g_if_ne (pc := 43) (tgt := 48) X dX12_isNoneTwice_43 rfl (fun c9 => ?_) (fun c9 => ?_)
    · replace h := if_f c9 h
      obtain ⟨v8, e_v8, h⟩ := bnd_e h
      refine g_iinc (pc := 48) (v := v8) X [(3, .int v8), (0, .ref (V.2.2.1 + 92)), (1, .int l1), (2, .int l2)] 3 rfl (by rw [e_v8]; rfl) (Nat.le_of_ble_eq_true rfl) rfl dX12_isNoneTwice_48 ?_
      refine g_goto (pc := 51) (tgt := 9) X dX12_isNoneTwice_51 rfl ?_
      refine g_sub [1, 2, 3, 0] rfl ?_
      cases h
      exact hb9 _ hA
    · replace h := if_t c9 h
      refine g_iconst (v := 0) (pc := 46) X rfl dX12_isNoneTwice_46 ?_
      cases h
      exact g_iret (pc := 47) X rfl nz0.1 (hr _ hA) dX12_isNoneTwice_47
set_option maxRecDepth 100000 in
theorem tl_Mo_isNoneTwice_L9 {V : Ev} {Γ : Cn} {fin : Option Value × St} {l1 : Int32} {l2 : Int32} {σ : St} {x3 : Int32} (X : Cx V Γ M_X12_isNoneTwice)  {e : ((Int32 ⊕ Int32) ⊕ Unit)} {A : (Int32 ⊕ Int32) → Prop} (hr : ∀ (r : Int32), A (.inr r) → (some (.int r), σ) = fin) (hb2 : ∀ (x2 : Int32), A (.inl x2) → Go V Γ M_X12_isNoneTwice (Zm V Γ 1 fin) 2 [(0, .ref (V.2.2.1 + 92)), (1, .int l1), (2, .int x2)] [] σ) {n : Nat} (h : iter (fun s : Int32 => Mo_isNoneTwice_L9 l1 l2 σ s) n x3 = some e) (hK1 : ∀ t, e = .inl t → A t) (hK2 : ∀ (_ : Unit), e = .inr () → Go V Γ M_X12_isNoneTwice (Zm V Γ 1 fin) 54 [(0, .ref (V.2.2.1 + 92)), (1, .int l1), (2, .int l2)] [] σ) : Go V Γ M_X12_isNoneTwice (Zm V Γ 1 fin) 9 [(0, .ref (V.2.2.1 + 92)), (1, .int l1), (2, .int l2), (3, .int x3)] [] σ := by
  refine iter_go (G := (fun s : Int32 => Go V Γ M_X12_isNoneTwice (Zm V Γ 1 fin) 9 [(0, .ref (V.2.2.1 + 92)), (1, .int l1), (2, .int l2), (3, .int s)] [] σ)) (fun s o ho hS => ?_) n x3 h
  exact tb_Mo_isNoneTwice_L9 X  (fun z0 he => hr z0 (hK1 _ he.symm)) (fun _ h9 => h9) (fun z he => hK2 () he.symm) (fun z0 he => hb2 z0 (hK1 _ he.symm)) ho hS
noncomputable def Mo_isNoneTwice_L2 (l1 : Int32) (σ : St) (x2 : Int32) : Option (Int32 ⊕ Int32) :=
  if l1 ≤ x2 then (some (.inr 1)) else (bs0 (iter (fun s : Int32 => Mo_isNoneTwice_L9 l1 x2 σ s) FUEL 0) (fun _ => bnd (x2 + 1) (fun v16 => some (.inl v16))))
set_option maxRecDepth 100000 in
set_option maxHeartbeats 4000000 in
theorem tb_Mo_isNoneTwice_L2 {V : Ev} {Γ : Cn} {fin : Option Value × St} {l1 : Int32} {σ : St} {x2 : Int32} {o : (Int32 ⊕ Int32)} (X : Cx V Γ M_X12_isNoneTwice) {A : (Int32 ⊕ Int32) → Prop}  (hr : ∀ (r : Int32), A (.inr r) → (some (.int r), σ) = fin) (hb2 : ∀ (x2 : Int32), A (.inl x2) → Go V Γ M_X12_isNoneTwice (Zm V Γ 1 fin) 2 [(0, .ref (V.2.2.1 + 92)), (1, .int l1), (2, .int x2)] [] σ) (h : Mo_isNoneTwice_L2 l1 σ x2 = some o) (hA : A o) : Go V Γ M_X12_isNoneTwice (Zm V Γ 1 fin) 2 [(0, .ref (V.2.2.1 + 92)), (1, .int l1), (2, .int x2)] [] σ := by
  unfold Mo_isNoneTwice_L2 at h
  refine g_iload_n (pc := 2) X 2 rfl dX12_isNoneTwice_2 ?_
  refine g_iload_n (pc := 3) X 1 rfl dX12_isNoneTwice_3 ?_
  refine g_icmp_ge (pc := 4) (tgt := 60) X dX12_isNoneTwice_4 rfl (fun c17 => ?_) (fun c17 => ?_)
  · replace h := if_t c17 h
    refine g_iconst (v := 1) (pc := 60) X rfl dX12_isNoneTwice_60 ?_
    cases h
    exact g_iret (pc := 61) X rfl nz1.1 (hr _ hA) dX12_isNoneTwice_61
  · replace h := if_f c17 h
    refine g_iconst (v := 0) (pc := 7) X rfl dX12_isNoneTwice_7 ?_
    refine g_istore_n (pc := 8) X [(3, .int 0), (0, .ref (V.2.2.1 + 92)), (1, .int l1), (2, .int x2)] rfl (Nat.le_of_ble_eq_true rfl) rfl dX12_isNoneTwice_8 ?_
    refine g_sub [1, 2, 3, 0] rfl ?_
    obtain ⟨e12, hi11, hk13, hk14⟩ := bs0_e h
    refine tl_Mo_isNoneTwice_L9 X  hr hb2 hi11 (fun t ht => (hk13 t ht) ▸ hA) (fun _ he15 => ?_)
    clear h
    have h := hk14 () he15
    obtain ⟨v16, e_v16, h⟩ := bnd_e h
    refine g_iinc (pc := 54) (v := v16) X [(2, .int v16), (0, .ref (V.2.2.1 + 92)), (1, .int l1)] 2 rfl (by rw [e_v16]; rfl) (Nat.le_of_ble_eq_true rfl) rfl dX12_isNoneTwice_54 ?_
    refine g_goto (pc := 57) (tgt := 2) X dX12_isNoneTwice_57 rfl ?_
    refine g_sub [1, 2, 0] rfl ?_
    cases h
    exact hb2 _ hA
set_option maxRecDepth 100000 in
theorem tl_Mo_isNoneTwice_L2 {V : Ev} {Γ : Cn} {fin : Option Value × St} {l1 : Int32} {σ : St} {x2 : Int32} (X : Cx V Γ M_X12_isNoneTwice)  {e : Int32} {A : Int32 → Prop} (hr : ∀ (r : Int32), A r → (some (.int r), σ) = fin) {n : Nat} (h : iter (fun s : Int32 => Mo_isNoneTwice_L2 l1 σ s) n x2 = some e) (hA : A e) : Go V Γ M_X12_isNoneTwice (Zm V Γ 1 fin) 2 [(0, .ref (V.2.2.1 + 92)), (1, .int l1), (2, .int x2)] [] σ := by
  refine iter_go (G := (fun s : Int32 => Go V Γ M_X12_isNoneTwice (Zm V Γ 1 fin) 2 [(0, .ref (V.2.2.1 + 92)), (1, .int l1), (2, .int s)] [] σ)) (fun s o ho hS => ?_) n x2 h
  exact tb_Mo_isNoneTwice_L2 X  (fun z0 he => hr z0 (by rw [he]; exact hA)) (fun _ h9 => h9) ho hS
noncomputable def Mo_isNoneTwice (σ : St) (p1 : Int32) : Option Int32 :=
  iter (fun s : Int32 => Mo_isNoneTwice_L2 p1 σ s) FUEL 0
set_option maxRecDepth 100000 in
set_option maxHeartbeats 4000000 in
theorem tm_Mo_isNoneTwice {V : Ev} {Γ : Cn} {fin : Option Value × St} {σ : St} {p1 : Int32} {o : Int32} (X : Cx V Γ M_X12_isNoneTwice) {A : Int32 → Prop}  (hr : ∀ (r : Int32), A r → (some (.int r), σ) = fin) (h : Mo_isNoneTwice σ p1 = some o) (hA : A o) : Go V Γ M_X12_isNoneTwice (Zm V Γ 1 fin) 0 [(0, .ref (V.2.2.1 + 92)), (1, .int p1)] [] σ := by
  unfold Mo_isNoneTwice at h
  refine g_iconst (v := 0) (pc := 0) X rfl dX12_isNoneTwice_0 ?_
  refine g_istore_n (pc := 1) X [(2, .int 0), (0, .ref (V.2.2.1 + 92)), (1, .int p1)] rfl (Nat.le_of_ble_eq_true rfl) rfl dX12_isNoneTwice_1 ?_
  refine g_sub [1, 2, 0] rfl ?_
  exact tl_Mo_isNoneTwice_L2 X  hr h hA
set_option maxRecDepth 100000 in
theorem run_Mo_isNoneTwice {V : Ev} {σ : St} {p1 : Int32} {o : Int32}   (h : Mo_isNoneTwice σ p1 = some o) : Rs V 1 M_X12_isNoneTwice [.ref (V.2.2.1 + 92), .int p1] σ (some (.int o), σ) := by
  refine Rs.of (by decide +kernel) (Nat.le_of_ble_eq_true rfl) (fun Γ X => ?_)
  exact tm_Mo_isNoneTwice X (A := fun o1 => o1 = o)  (fun _ e => by rw [e]) h rfl
theorem dX12_spanBy_0 : decode cX12_spanBy 0 = .ok (.iconst 1, 1) := by decide +kernel
theorem dX12_spanBy_1 : decode cX12_spanBy 1 = .ok (.istore_n 2, 1) := by decide +kernel
theorem dX12_spanBy_2 : decode cX12_spanBy 2 = .ok (.iconst 0, 1) := by decide +kernel
theorem dX12_spanBy_3 : decode cX12_spanBy 3 = .ok (.istore_n 3, 1) := by decide +kernel
theorem dX12_spanBy_4 : decode cX12_spanBy 4 = .ok (.iload_n 3, 1) := by decide +kernel
theorem dX12_spanBy_5 : decode cX12_spanBy 5 = .ok (.iload_n 1, 1) := by decide +kernel
theorem dX12_spanBy_6 : decode cX12_spanBy 6 = .ok (.if_icmp .ge 29, 3) := by decide +kernel
theorem dX12_spanBy_9 : decode cX12_spanBy 9 = .ok (.iload_n 2, 1) := by decide +kernel
theorem dX12_spanBy_10 : decode cX12_spanBy 10 = .ok (.iload_n 2, 1) := by decide +kernel
theorem dX12_spanBy_11 : decode cX12_spanBy 11 = .ok (.aload_n 0, 1) := by decide +kernel
theorem dX12_spanBy_12 : decode cX12_spanBy 12 = .ok (.getfield 60, 3) := by decide +kernel
theorem dX12_spanBy_15 : decode cX12_spanBy 15 = .ok (.iload_n 3, 1) := by decide +kernel
theorem dX12_spanBy_16 : decode cX12_spanBy 16 = .ok (.iaload, 1) := by decide +kernel
theorem dX12_spanBy_17 : decode cX12_spanBy 17 = .ok (.invokestatic 247, 3) := by decide +kernel
theorem dX12_spanBy_20 : decode cX12_spanBy 20 = .ok (.idiv, 1) := by decide +kernel
theorem dX12_spanBy_21 : decode cX12_spanBy 21 = .ok (.aload_n 0, 1) := by decide +kernel
theorem dX12_spanBy_22 : decode cX12_spanBy 22 = .ok (.getfield 60, 3) := by decide +kernel
theorem dX12_spanBy_25 : decode cX12_spanBy 25 = .ok (.iload_n 3, 1) := by decide +kernel
theorem dX12_spanBy_26 : decode cX12_spanBy 26 = .ok (.iaload, 1) := by decide +kernel
theorem dX12_spanBy_27 : decode cX12_spanBy 27 = .ok (.imul, 1) := by decide +kernel
theorem dX12_spanBy_28 : decode cX12_spanBy 28 = .ok (.istore_n 2, 1) := by decide +kernel
theorem dX12_spanBy_29 : decode cX12_spanBy 29 = .ok (.iinc 3 1, 3) := by decide +kernel
theorem dX12_spanBy_32 : decode cX12_spanBy 32 = .ok (.goto (-28), 3) := by decide +kernel
theorem dX12_spanBy_35 : decode cX12_spanBy 35 = .ok (.iload_n 2, 1) := by decide +kernel
theorem dX12_spanBy_36 : decode cX12_spanBy 36 = .ok (.ireturn, 1) := by decide +kernel
noncomputable def Mo_spanBy_L4 (l1 : Int32) (σ : St) (x2 : Int32) (x3 : Int32) : Option ((Int32 × Int32) ⊕ Int32) :=
  if l1 ≤ x3 then (some (.inr x2)) else (chk (ix x3 6) (bd (Mo_common x2 (σ.1 105 (tn x3))) (fun r3 => chk (nzI r3) (chk (ix x3 6) (bnd (((x2 / r3) * (σ.1 105 (tn x3)))) (fun v6 => bnd (x3 + 1) (fun v7 => some (.inl (v6, v7)))))))))
set_option maxRecDepth 100000 in
set_option maxHeartbeats 4000000 in
theorem tb_Mo_spanBy_L4 {V : Ev} {Γ : Cn} {fin : Option Value × St} {l1 : Int32} {σ : St} {x2 : Int32} {x3 : Int32} {o : ((Int32 × Int32) ⊕ Int32)} (X : Cx V Γ M_X12_spanBy) {A : ((Int32 × Int32) ⊕ Int32) → Prop}  (hb4 : ∀ (x2 : Int32) (x3 : Int32), A (.inl (x2, x3)) → Go V Γ M_X12_spanBy (Zm V Γ 1 fin) 4 [(0, .ref (V.2.2.1 + 92)), (1, .int l1), (2, .int x2), (3, .int x3)] [] σ) (hx4 : ∀ (x2 : Int32), A (.inr x2) → Go V Γ M_X12_spanBy (Zm V Γ 1 fin) 35 [(2, .int x2)] [] σ) (h : Mo_spanBy_L4 l1 σ x2 x3 = some o) (hA : A o) : Go V Γ M_X12_spanBy (Zm V Γ 1 fin) 4 [(0, .ref (V.2.2.1 + 92)), (1, .int l1), (2, .int x2), (3, .int x3)] [] σ := by
  unfold Mo_spanBy_L4 at h
  refine g_iload_n (pc := 4) X 3 rfl dX12_spanBy_4 ?_
  refine g_iload_n (pc := 5) X 1 rfl dX12_spanBy_5 ?_
  refine g_icmp_ge (pc := 6) (tgt := 35) X dX12_spanBy_6 rfl (fun c8 => ?_) (fun c8 => ?_)
  · replace h := if_t c8 h
    refine g_sub [2] rfl ?_
    cases h
    exact hx4 _ hA
  · replace h := if_f c8 h
    refine g_iload_n (pc := 9) X 2 rfl dX12_spanBy_9 ?_
    refine g_iload_n (pc := 10) X 2 rfl dX12_spanBy_10 ?_
    refine g_aload_n (pc := 11) X 0 rfl dX12_spanBy_11 ?_
    refine g_getR (r := 105) (pc := 12) X k_fl_X12_60 s_92 rfl dX12_spanBy_12 ?_
    refine g_iload_n (pc := 15) X 3 rfl dX12_spanBy_15 ?_
    obtain ⟨c1, h⟩ := chk_e h
    refine g_iald (pc := 16) X s_105 c1 dX12_spanBy_16 ?_
    obtain ⟨r3, hc2, h⟩ := bd_e h
    refine g_callS (pc := 17) X k_ml_X12_247 (run_Mo_common  hc2) rfl (room_ok (Nat.le_of_ble_eq_true rfl) (Nat.le_of_ble_eq_true rfl)) ⟨Nat.le_refl _, Nat.le_refl _⟩ _ rfl (Nat.le_of_ble_eq_true rfl) dX12_spanBy_17 ?_
    show Go V Γ M_X12_spanBy (Zm V Γ 1 fin) 20 [(0, .ref (V.2.2.1 + 92)), (1, .int l1), (2, .int x2), (3, .int x3)] [.int r3, .int x2] σ
    obtain ⟨c4, h⟩ := chk_e h
    refine g_idiv (pc := 20) X (nzI_e c4) dX12_spanBy_20 ?_
    refine g_aload_n (pc := 21) X 0 rfl dX12_spanBy_21 ?_
    refine g_getR (r := 105) (pc := 22) X k_fl_X12_60 s_92 rfl dX12_spanBy_22 ?_
    refine g_iload_n (pc := 25) X 3 rfl dX12_spanBy_25 ?_
    obtain ⟨c5, h⟩ := chk_e h
    refine g_iald (pc := 26) X s_105 c5 dX12_spanBy_26 ?_
    refine g_imul (pc := 27) X dX12_spanBy_27 ?_
    obtain ⟨v6, e_v6, h⟩ := bnd_e h
    refine g_nmI e_v6 ?_
    refine g_istore_n (pc := 28) X [(2, .int v6), (0, .ref (V.2.2.1 + 92)), (1, .int l1), (3, .int x3)] rfl (Nat.le_of_ble_eq_true rfl) rfl dX12_spanBy_28 ?_
    obtain ⟨v7, e_v7, h⟩ := bnd_e h
    refine g_iinc (pc := 29) (v := v7) X [(3, .int v7), (2, .int v6), (0, .ref (V.2.2.1 + 92)), (1, .int l1)] 3 rfl (by rw [e_v7]; rfl) (Nat.le_of_ble_eq_true rfl) rfl dX12_spanBy_29 ?_
    refine g_goto (pc := 32) (tgt := 4) X dX12_spanBy_32 rfl ?_
    refine g_sub [2, 3, 1, 0] rfl ?_
    cases h
    exact hb4 _ _ hA
set_option maxRecDepth 100000 in
theorem tl_Mo_spanBy_L4 {V : Ev} {Γ : Cn} {fin : Option Value × St} {l1 : Int32} {σ : St} {x2 : Int32} {x3 : Int32} (X : Cx V Γ M_X12_spanBy)  {y2 : Int32} {n : Nat} (h : iter (fun s : (Int32 × Int32) => Mo_spanBy_L4 l1 σ s.1 s.2) n (x2, x3) = some y2) (hK : Go V Γ M_X12_spanBy (Zm V Γ 1 fin) 35 [(2, .int y2)] [] σ) : Go V Γ M_X12_spanBy (Zm V Γ 1 fin) 4 [(0, .ref (V.2.2.1 + 92)), (1, .int l1), (2, .int x2), (3, .int x3)] [] σ := by
  refine iter_go (G := (fun s : (Int32 × Int32) => Go V Γ M_X12_spanBy (Zm V Γ 1 fin) 4 [(0, .ref (V.2.2.1 + 92)), (1, .int l1), (2, .int s.1), (3, .int s.2)] [] σ)) (fun s o ho hS => ?_) n (x2, x3) h
  exact tb_Mo_spanBy_L4 X  (fun _ _ h9 => h9) (fun _ he => by cases he; exact hK) ho hS
noncomputable def Mo_spanBy (σ : St) (p1 : Int32) : Option Int32 :=
  bd (iter (fun s : (Int32 × Int32) => Mo_spanBy_L4 p1 σ s.1 s.2) FUEL (1, 0)) (fun v9 => some v9)
set_option maxRecDepth 100000 in
set_option maxHeartbeats 4000000 in
theorem tm_Mo_spanBy {V : Ev} {Γ : Cn} {fin : Option Value × St} {σ : St} {p1 : Int32} {o : Int32} (X : Cx V Γ M_X12_spanBy) {A : Int32 → Prop}  (hr : ∀ (r : Int32), A r → (some (.int r), σ) = fin) (h : Mo_spanBy σ p1 = some o) (hA : A o) : Go V Γ M_X12_spanBy (Zm V Γ 1 fin) 0 [(0, .ref (V.2.2.1 + 92)), (1, .int p1)] [] σ := by
  unfold Mo_spanBy at h
  refine g_iconst (v := 1) (pc := 0) X rfl dX12_spanBy_0 ?_
  refine g_istore_n (pc := 1) X [(2, .int 1), (0, .ref (V.2.2.1 + 92)), (1, .int p1)] rfl (Nat.le_of_ble_eq_true rfl) rfl dX12_spanBy_1 ?_
  refine g_iconst (v := 0) (pc := 2) X rfl dX12_spanBy_2 ?_
  refine g_istore_n (pc := 3) X [(3, .int 0), (2, .int 1), (0, .ref (V.2.2.1 + 92)), (1, .int p1)] rfl (Nat.le_of_ble_eq_true rfl) rfl dX12_spanBy_3 ?_
  refine g_sub [2, 3, 1, 0] rfl ?_
  obtain ⟨v9, hi10, h⟩ := bd_e h
  refine tl_Mo_spanBy_L4 X  hi10 ?_
  refine g_iload_n (pc := 35) X 0 rfl dX12_spanBy_35 ?_
  cases h
  exact g_iret (pc := 36) X rfl rfl (hr _ hA) dX12_spanBy_36
set_option maxRecDepth 100000 in
theorem run_Mo_spanBy {V : Ev} {σ : St} {p1 : Int32} {o : Int32}   (h : Mo_spanBy σ p1 = some o) : Rs V 1 M_X12_spanBy [.ref (V.2.2.1 + 92), .int p1] σ (some (.int o), σ) := by
  refine Rs.of (by decide +kernel) (Nat.le_of_ble_eq_true rfl) (fun Γ X => ?_)
  exact tm_Mo_spanBy X (A := fun o1 => o1 = o)  (fun _ e => by rw [e]) h rfl
theorem dX12_isAllBy_0 : decode cX12_isAllBy 0 = .ok (.iconst 0, 1) := by decide +kernel
theorem dX12_isAllBy_1 : decode cX12_isAllBy 1 = .ok (.istore_n 2, 1) := by decide +kernel
theorem dX12_isAllBy_2 : decode cX12_isAllBy 2 = .ok (.iload_n 2, 1) := by decide +kernel
theorem dX12_isAllBy_3 : decode cX12_isAllBy 3 = .ok (.iload_n 1, 1) := by decide +kernel
theorem dX12_isAllBy_4 : decode cX12_isAllBy 4 = .ok (.if_icmp .ge 21, 3) := by decide +kernel
theorem dX12_isAllBy_7 : decode cX12_isAllBy 7 = .ok (.aload_n 0, 1) := by decide +kernel
theorem dX12_isAllBy_8 : decode cX12_isAllBy 8 = .ok (.getfield 60, 3) := by decide +kernel
theorem dX12_isAllBy_11 : decode cX12_isAllBy 11 = .ok (.iload_n 2, 1) := by decide +kernel
theorem dX12_isAllBy_12 : decode cX12_isAllBy 12 = .ok (.iaload, 1) := by decide +kernel
theorem dX12_isAllBy_13 : decode cX12_isAllBy 13 = .ok (.iconst 1, 1) := by decide +kernel
theorem dX12_isAllBy_14 : decode cX12_isAllBy 14 = .ok (.if_icmp .ne 5, 3) := by decide +kernel
theorem dX12_isAllBy_17 : decode cX12_isAllBy 17 = .ok (.iconst 1, 1) := by decide +kernel
theorem dX12_isAllBy_18 : decode cX12_isAllBy 18 = .ok (.ireturn, 1) := by decide +kernel
theorem dX12_isAllBy_19 : decode cX12_isAllBy 19 = .ok (.iinc 2 1, 3) := by decide +kernel
theorem dX12_isAllBy_22 : decode cX12_isAllBy 22 = .ok (.goto (-20), 3) := by decide +kernel
theorem dX12_isAllBy_25 : decode cX12_isAllBy 25 = .ok (.iconst 1, 1) := by decide +kernel
theorem dX12_isAllBy_26 : decode cX12_isAllBy 26 = .ok (.istore_n 2, 1) := by decide +kernel
theorem dX12_isAllBy_27 : decode cX12_isAllBy 27 = .ok (.aload_n 0, 1) := by decide +kernel
theorem dX12_isAllBy_28 : decode cX12_isAllBy 28 = .ok (.iload_n 1, 1) := by decide +kernel
theorem dX12_isAllBy_29 : decode cX12_isAllBy 29 = .ok (.invokevirtual 360, 3) := by decide +kernel
theorem dX12_isAllBy_32 : decode cX12_isAllBy 32 = .ok (.istore_n 3, 1) := by decide +kernel
theorem dX12_isAllBy_33 : decode cX12_isAllBy 33 = .ok (.iconst 0, 1) := by decide +kernel
theorem dX12_isAllBy_34 : decode cX12_isAllBy 34 = .ok (.istore 4, 2) := by decide +kernel
theorem dX12_isAllBy_36 : decode cX12_isAllBy 36 = .ok (.iload 4, 2) := by decide +kernel
theorem dX12_isAllBy_38 : decode cX12_isAllBy 38 = .ok (.iload_n 3, 1) := by decide +kernel
theorem dX12_isAllBy_39 : decode cX12_isAllBy 39 = .ok (.if_icmp .ge 60, 3) := by decide +kernel
theorem dX12_isAllBy_42 : decode cX12_isAllBy 42 = .ok (.iload_n 2, 1) := by decide +kernel
theorem dX12_isAllBy_43 : decode cX12_isAllBy 43 = .ok (.ifCond .eq 56, 3) := by decide +kernel
theorem dX12_isAllBy_46 : decode cX12_isAllBy 46 = .ok (.iconst 0, 1) := by decide +kernel
theorem dX12_isAllBy_47 : decode cX12_isAllBy 47 = .ok (.istore_n 2, 1) := by decide +kernel
theorem dX12_isAllBy_48 : decode cX12_isAllBy 48 = .ok (.iconst 0, 1) := by decide +kernel
theorem dX12_isAllBy_49 : decode cX12_isAllBy 49 = .ok (.istore 5, 2) := by decide +kernel
theorem dX12_isAllBy_51 : decode cX12_isAllBy 51 = .ok (.iload 5, 2) := by decide +kernel
theorem dX12_isAllBy_53 : decode cX12_isAllBy 53 = .ok (.iload_n 1, 1) := by decide +kernel
theorem dX12_isAllBy_54 : decode cX12_isAllBy 54 = .ok (.if_icmp .ge 39, 3) := by decide +kernel
theorem dX12_isAllBy_57 : decode cX12_isAllBy 57 = .ok (.iload_n 2, 1) := by decide +kernel
theorem dX12_isAllBy_58 : decode cX12_isAllBy 58 = .ok (.ifCond .ne 35, 3) := by decide +kernel
theorem dX12_isAllBy_61 : decode cX12_isAllBy 61 = .ok (.iload 4, 2) := by decide +kernel
theorem dX12_isAllBy_63 : decode cX12_isAllBy 63 = .ok (.aload_n 0, 1) := by decide +kernel
theorem dX12_isAllBy_64 : decode cX12_isAllBy 64 = .ok (.getfield 60, 3) := by decide +kernel
theorem dX12_isAllBy_67 : decode cX12_isAllBy 67 = .ok (.iload 5, 2) := by decide +kernel
theorem dX12_isAllBy_69 : decode cX12_isAllBy 69 = .ok (.iaload, 1) := by decide +kernel
theorem dX12_isAllBy_70 : decode cX12_isAllBy 70 = .ok (.irem, 1) := by decide +kernel
theorem dX12_isAllBy_71 : decode cX12_isAllBy 71 = .ok (.aload_n 0, 1) := by decide +kernel
theorem dX12_isAllBy_72 : decode cX12_isAllBy 72 = .ok (.getfield 63, 3) := by decide +kernel
theorem dX12_isAllBy_75 : decode cX12_isAllBy 75 = .ok (.iload 5, 2) := by decide +kernel
theorem dX12_isAllBy_77 : decode cX12_isAllBy 77 = .ok (.iaload, 1) := by decide +kernel
theorem dX12_isAllBy_78 : decode cX12_isAllBy 78 = .ok (.if_icmp .ne 7, 3) := by decide +kernel
theorem dX12_isAllBy_81 : decode cX12_isAllBy 81 = .ok (.iconst 1, 1) := by decide +kernel
theorem dX12_isAllBy_82 : decode cX12_isAllBy 82 = .ok (.goto 4, 3) := by decide +kernel
theorem dX12_isAllBy_85 : decode cX12_isAllBy 85 = .ok (.iconst 0, 1) := by decide +kernel
theorem dX12_isAllBy_86 : decode cX12_isAllBy 86 = .ok (.istore_n 2, 1) := by decide +kernel
theorem dX12_isAllBy_87 : decode cX12_isAllBy 87 = .ok (.iinc 5 1, 3) := by decide +kernel
theorem dX12_isAllBy_90 : decode cX12_isAllBy 90 = .ok (.goto (-39), 3) := by decide +kernel
theorem dX12_isAllBy_93 : decode cX12_isAllBy 93 = .ok (.iinc 4 1, 3) := by decide +kernel
theorem dX12_isAllBy_96 : decode cX12_isAllBy 96 = .ok (.goto (-60), 3) := by decide +kernel
theorem dX12_isAllBy_99 : decode cX12_isAllBy 99 = .ok (.iload_n 2, 1) := by decide +kernel
theorem dX12_isAllBy_100 : decode cX12_isAllBy 100 = .ok (.ireturn, 1) := by decide +kernel
noncomputable def Mo_isAllBy_L2 (l1 : Int32) (σ : St) (x2 : Int32) : Option (Int32 ⊕ (Int32 ⊕ Unit)) :=
  if l1 ≤ x2 then (some (.inr (.inr ()))) else (chk (ix x2 6) (if (σ.1 105 (tn x2)) = 1 then (some (.inr (.inl 1))) else (bnd (x2 + 1) (fun v2 => some (.inl v2)))))
set_option maxRecDepth 100000 in
set_option maxHeartbeats 4000000 in
theorem tb_Mo_isAllBy_L2 {V : Ev} {Γ : Cn} {fin : Option Value × St} {l1 : Int32} {σ : St} {x2 : Int32} {o : (Int32 ⊕ (Int32 ⊕ Unit))} (X : Cx V Γ M_X12_isAllBy) {A : (Int32 ⊕ (Int32 ⊕ Unit)) → Prop}  (hr : ∀ (r : Int32), A (.inr (.inl r)) → (some (.int r), σ) = fin) (hb2 : ∀ (x2 : Int32), A (.inl x2) → Go V Γ M_X12_isAllBy (Zm V Γ 2 fin) 2 [(0, .ref (V.2.2.1 + 92)), (1, .int l1), (2, .int x2)] [] σ) (hx2 : ∀ (_ : Unit), A (.inr (.inr ())) → Go V Γ M_X12_isAllBy (Zm V Γ 2 fin) 25 [(0, .ref (V.2.2.1 + 92)), (1, .int l1)] [] σ) (h : Mo_isAllBy_L2 l1 σ x2 = some o) (hA : A o) : Go V Γ M_X12_isAllBy (Zm V Γ 2 fin) 2 [(0, .ref (V.2.2.1 + 92)), (1, .int l1), (2, .int x2)] [] σ := by
  unfold Mo_isAllBy_L2 at h
  refine g_iload_n (pc := 2) X 2 rfl dX12_isAllBy_2 ?_
  refine g_iload_n (pc := 3) X 1 rfl dX12_isAllBy_3 ?_
  refine g_icmp_ge (pc := 4) (tgt := 25) X dX12_isAllBy_4 rfl (fun c4 => ?_) (fun c4 => ?_)
  · replace h := if_t c4 h
    refine g_sub [0, 1] rfl ?_
    cases h
    exact hx2 () hA
  · replace h := if_f c4 h
    refine g_aload_n (pc := 7) X 0 rfl dX12_isAllBy_7 ?_
    refine g_getR (r := 105) (pc := 8) X k_fl_X12_60 s_92 rfl dX12_isAllBy_8 ?_
    refine g_iload_n (pc := 11) X 2 rfl dX12_isAllBy_11 ?_
    obtain ⟨c1, h⟩ := chk_e h
    refine g_iald (pc := 12) X s_105 c1 dX12_isAllBy_12 ?_
    refine g_iconst (v := 1) (pc := 13) X rfl dX12_isAllBy_13 ?_
    refine g_icmp_ne (pc := 14) (tgt := 19) X dX12_isAllBy_14 rfl (fun c3 => ?_) (fun c3 => ?_)
    · replace h := if_f c3 h
      obtain ⟨v2, e_v2, h⟩ := bnd_e h
      refine g_iinc (pc := 19) (v := v2) X [(2, .int v2), (0, .ref (V.2.2.1 + 92)), (1, .int l1)] 2 rfl (by rw [e_v2]; rfl) (Nat.le_of_ble_eq_true rfl) rfl dX12_isAllBy_19 ?_
      refine g_goto (pc := 22) (tgt := 2) X dX12_isAllBy_22 rfl ?_
      refine g_sub [1, 2, 0] rfl ?_
      cases h
      exact hb2 _ hA
    · replace h := if_t c3 h
      refine g_iconst (v := 1) (pc := 17) X rfl dX12_isAllBy_17 ?_
      cases h
      exact g_iret (pc := 18) X rfl nz1.1 (hr _ hA) dX12_isAllBy_18
set_option maxRecDepth 100000 in
theorem tl_Mo_isAllBy_L2 {V : Ev} {Γ : Cn} {fin : Option Value × St} {l1 : Int32} {σ : St} {x2 : Int32} (X : Cx V Γ M_X12_isAllBy)  {e : (Int32 ⊕ Unit)} {A : Int32 → Prop} (hr : ∀ (r : Int32), A r → (some (.int r), σ) = fin) {n : Nat} (h : iter (fun s : Int32 => Mo_isAllBy_L2 l1 σ s) n x2 = some e) (hK1 : ∀ t, e = .inl t → A t) (hK2 : ∀ (_ : Unit), e = .inr () → Go V Γ M_X12_isAllBy (Zm V Γ 2 fin) 25 [(0, .ref (V.2.2.1 + 92)), (1, .int l1)] [] σ) : Go V Γ M_X12_isAllBy (Zm V Γ 2 fin) 2 [(0, .ref (V.2.2.1 + 92)), (1, .int l1), (2, .int x2)] [] σ := by
  refine iter_go (G := (fun s : Int32 => Go V Γ M_X12_isAllBy (Zm V Γ 2 fin) 2 [(0, .ref (V.2.2.1 + 92)), (1, .int l1), (2, .int s)] [] σ)) (fun s o ho hS => ?_) n x2 h
  exact tb_Mo_isAllBy_L2 X  (fun z0 he => hr z0 (hK1 _ he.symm)) (fun _ h9 => h9) (fun z he => hK2 () he.symm) ho hS
noncomputable def Mo_isAllBy_L51 (l1 : Int32) (l3 : Int32) (l4 : Int32) (σ : St) (x2 : Int32) (x5 : Int32) : Option ((Int32 × Int32) ⊕ Int32) :=
  if l1 ≤ x5 then (some (.inr x2)) else (if x2 = 0 then (chk (ix x5 6) (chk (nzI (σ.1 105 (tn x5))) (chk (ix x5 6) (if (jrem l4 (σ.1 105 (tn x5))) = (σ.1 106 (tn x5)) then (bnd (x5 + 1) (fun v16 => some (.inl (1, v16)))) else (bnd (x5 + 1) (fun v15 => some (.inl (0, v15)))))))) else (some (.inr x2)))
set_option maxRecDepth 100000 in
set_option maxHeartbeats 4000000 in
theorem tb_Mo_isAllBy_L51 {V : Ev} {Γ : Cn} {fin : Option Value × St} {l1 : Int32} {l3 : Int32} {l4 : Int32} {σ : St} {x2 : Int32} {x5 : Int32} {o : ((Int32 × Int32) ⊕ Int32)} (X : Cx V Γ M_X12_isAllBy) {A : ((Int32 × Int32) ⊕ Int32) → Prop}  (hb51 : ∀ (x2 : Int32) (x5 : Int32), A (.inl (x2, x5)) → Go V Γ M_X12_isAllBy (Zm V Γ 2 fin) 51 [(0, .ref (V.2.2.1 + 92)), (1, .int l1), (2, .int x2), (3, .int l3), (4, .int l4), (5, .int x5)] [] σ) (hx51 : ∀ (x2 : Int32), A (.inr x2) → Go V Γ M_X12_isAllBy (Zm V Γ 2 fin) 93 [(0, .ref (V.2.2.1 + 92)), (1, .int l1), (2, .int x2), (3, .int l3), (4, .int l4)] [] σ) (h : Mo_isAllBy_L51 l1 l3 l4 σ x2 x5 = some o) (hA : A o) : Go V Γ M_X12_isAllBy (Zm V Γ 2 fin) 51 [(0, .ref (V.2.2.1 + 92)), (1, .int l1), (2, .int x2), (3, .int l3), (4, .int l4), (5, .int x5)] [] σ := by
  unfold Mo_isAllBy_L51 at h
  refine g_iload (pc := 51) X 5 rfl dX12_isAllBy_51 ?_
  refine g_iload_n (pc := 53) X 1 rfl dX12_isAllBy_53 ?_
  refine g_icmp_ge (pc := 54) (tgt := 93) X dX12_isAllBy_54 rfl (fun c19 => ?_) (fun c19 => ?_)
  · replace h := if_t c19 h
    refine g_sub [0, 1, 2, 3, 4] rfl ?_
    cases h
    exact hx51 _ hA
  · replace h := if_f c19 h
    refine g_iload_n (pc := 57) X 2 rfl dX12_isAllBy_57 ?_
    refine g_if_ne (pc := 58) (tgt := 93) X dX12_isAllBy_58 rfl (fun c18 => ?_) (fun c18 => ?_)
    · replace h := if_f c18 h
      refine g_sub [0, 1, 2, 3, 4] rfl ?_
      cases h
      exact hx51 _ hA
    · replace h := if_t c18 h
      refine g_iload (pc := 61) X 4 rfl dX12_isAllBy_61 ?_
      refine g_aload_n (pc := 63) X 0 rfl dX12_isAllBy_63 ?_
      refine g_getR (r := 105) (pc := 64) X k_fl_X12_60 s_92 rfl dX12_isAllBy_64 ?_
      refine g_iload (pc := 67) X 5 rfl dX12_isAllBy_67 ?_
      obtain ⟨c12, h⟩ := chk_e h
      refine g_iald (pc := 69) X s_105 c12 dX12_isAllBy_69 ?_
      obtain ⟨c13, h⟩ := chk_e h
      refine g_irem (pc := 70) X (nzI_e c13) dX12_isAllBy_70 ?_
      refine g_aload_n (pc := 71) X 0 rfl dX12_isAllBy_71 ?_
      refine g_getR (r := 106) (pc := 72) X k_fl_X12_63 s_92 rfl dX12_isAllBy_72 ?_
      refine g_iload (pc := 75) X 5 rfl dX12_isAllBy_75 ?_
      obtain ⟨c14, h⟩ := chk_e h
      refine g_iald (pc := 77) X s_106 c14 dX12_isAllBy_77 ?_
      refine g_icmp_ne (pc := 78) (tgt := 85) X dX12_isAllBy_78 rfl (fun c17 => ?_) (fun c17 => ?_)
      · replace h := if_f c17 h
        refine g_iconst (v := 0) (pc := 85) X rfl dX12_isAllBy_85 ?_
        refine g_istore_n (pc := 86) X [(2, .int 0), (0, .ref (V.2.2.1 + 92)), (1, .int l1), (3, .int l3), (4, .int l4), (5, .int x5)] rfl (Nat.le_of_ble_eq_true rfl) rfl dX12_isAllBy_86 ?_
        obtain ⟨v15, e_v15, h⟩ := bnd_e h
        refine g_iinc (pc := 87) (v := v15) X [(5, .int v15), (2, .int 0), (0, .ref (V.2.2.1 + 92)), (1, .int l1), (3, .int l3), (4, .int l4)] 5 rfl (by rw [e_v15]; rfl) (Nat.le_of_ble_eq_true rfl) rfl dX12_isAllBy_87 ?_
        refine g_goto (pc := 90) (tgt := 51) X dX12_isAllBy_90 rfl ?_
        refine g_sub [2, 3, 1, 4, 5, 0] rfl ?_
        cases h
        exact hb51 _ _ hA
      · replace h := if_t c17 h
        refine g_iconst (v := 1) (pc := 81) X rfl dX12_isAllBy_81 ?_
        refine g_goto (pc := 82) (tgt := 86) X dX12_isAllBy_82 rfl ?_
        refine g_istore_n (pc := 86) X [(2, .int 1), (0, .ref (V.2.2.1 + 92)), (1, .int l1), (3, .int l3), (4, .int l4), (5, .int x5)] rfl (Nat.le_of_ble_eq_true rfl) rfl dX12_isAllBy_86 ?_
        obtain ⟨v16, e_v16, h⟩ := bnd_e h
        refine g_iinc (pc := 87) (v := v16) X [(5, .int v16), (2, .int 1), (0, .ref (V.2.2.1 + 92)), (1, .int l1), (3, .int l3), (4, .int l4)] 5 rfl (by rw [e_v16]; rfl) (Nat.le_of_ble_eq_true rfl) rfl dX12_isAllBy_87 ?_
        refine g_goto (pc := 90) (tgt := 51) X dX12_isAllBy_90 rfl ?_
        refine g_sub [2, 3, 1, 4, 5, 0] rfl ?_
        cases h
        exact hb51 _ _ hA
set_option maxRecDepth 100000 in
theorem tl_Mo_isAllBy_L51 {V : Ev} {Γ : Cn} {fin : Option Value × St} {l1 : Int32} {l3 : Int32} {l4 : Int32} {σ : St} {x2 : Int32} {x5 : Int32} (X : Cx V Γ M_X12_isAllBy)  {y2 : Int32} {n : Nat} (h : iter (fun s : (Int32 × Int32) => Mo_isAllBy_L51 l1 l3 l4 σ s.1 s.2) n (x2, x5) = some y2) (hK : Go V Γ M_X12_isAllBy (Zm V Γ 2 fin) 93 [(0, .ref (V.2.2.1 + 92)), (1, .int l1), (2, .int y2), (3, .int l3), (4, .int l4)] [] σ) : Go V Γ M_X12_isAllBy (Zm V Γ 2 fin) 51 [(0, .ref (V.2.2.1 + 92)), (1, .int l1), (2, .int x2), (3, .int l3), (4, .int l4), (5, .int x5)] [] σ := by
  refine iter_go (G := (fun s : (Int32 × Int32) => Go V Γ M_X12_isAllBy (Zm V Γ 2 fin) 51 [(0, .ref (V.2.2.1 + 92)), (1, .int l1), (2, .int s.1), (3, .int l3), (4, .int l4), (5, .int s.2)] [] σ)) (fun s o ho hS => ?_) n (x2, x5) h
  exact tb_Mo_isAllBy_L51 X  (fun _ _ h9 => h9) (fun _ he => by cases he; exact hK) ho hS
noncomputable def Mo_isAllBy_L36 (l1 : Int32) (l3 : Int32) (σ : St) (x2 : Int32) (x4 : Int32) : Option ((Int32 × Int32) ⊕ Int32) :=
  if l3 ≤ x4 then (some (.inr x2)) else (if x2 = 0 then (some (.inr x2)) else (bd (iter (fun s : (Int32 × Int32) => Mo_isAllBy_L51 l1 l3 x4 σ s.1 s.2) FUEL (0, 0)) (fun v20 => bnd (x4 + 1) (fun v22 => some (.inl (v20, v22))))))
set_option maxRecDepth 100000 in
set_option maxHeartbeats 4000000 in
theorem tb_Mo_isAllBy_L36 {V : Ev} {Γ : Cn} {fin : Option Value × St} {l1 : Int32} {l3 : Int32} {σ : St} {x2 : Int32} {x4 : Int32} {o : ((Int32 × Int32) ⊕ Int32)} (X : Cx V Γ M_X12_isAllBy) {A : ((Int32 × Int32) ⊕ Int32) → Prop}  (hb36 : ∀ (x2 : Int32) (x4 : Int32), A (.inl (x2, x4)) → Go V Γ M_X12_isAllBy (Zm V Γ 2 fin) 36 [(0, .ref (V.2.2.1 + 92)), (1, .int l1), (2, .int x2), (3, .int l3), (4, .int x4)] [] σ) (hx36 : ∀ (x2 : Int32), A (.inr x2) → Go V Γ M_X12_isAllBy (Zm V Γ 2 fin) 99 [(2, .int x2)] [] σ) (h : Mo_isAllBy_L36 l1 l3 σ x2 x4 = some o) (hA : A o) : Go V Γ M_X12_isAllBy (Zm V Γ 2 fin) 36 [(0, .ref (V.2.2.1 + 92)), (1, .int l1), (2, .int x2), (3, .int l3), (4, .int x4)] [] σ := by
  unfold Mo_isAllBy_L36 at h
  refine g_iload (pc := 36) X 4 rfl dX12_isAllBy_36 ?_
  refine g_iload_n (pc := 38) X 3 rfl dX12_isAllBy_38 ?_
  refine g_icmp_ge (pc := 39) (tgt := 99) X dX12_isAllBy_39 rfl (fun c24 => ?_) (fun c24 => ?_)
  · replace h := if_t c24 h
    refine g_sub [2] rfl ?_
    cases h
    exact hx36 _ hA
  · replace h := if_f c24 h
    refine g_iload_n (pc := 42) X 2 rfl dX12_isAllBy_42 ?_
    refine g_if_eq (pc := 43) (tgt := 99) X dX12_isAllBy_43 rfl (fun c23 => ?_) (fun c23 => ?_)
    · replace h := if_t c23 h
      refine g_sub [2] rfl ?_
      cases h
      exact hx36 _ hA
    · replace h := if_f c23 h
      refine g_iconst (v := 0) (pc := 46) X rfl dX12_isAllBy_46 ?_
      refine g_istore_n (pc := 47) X [(2, .int 0), (0, .ref (V.2.2.1 + 92)), (1, .int l1), (3, .int l3), (4, .int x4)] rfl (Nat.le_of_ble_eq_true rfl) rfl dX12_isAllBy_47 ?_
      refine g_iconst (v := 0) (pc := 48) X rfl dX12_isAllBy_48 ?_
      refine g_istore (pc := 49) X [(5, .int 0), (2, .int 0), (0, .ref (V.2.2.1 + 92)), (1, .int l1), (3, .int l3), (4, .int x4)] (Nat.le_of_ble_eq_true rfl) rfl dX12_isAllBy_49 ?_
      refine g_sub [2, 3, 1, 4, 5, 0] rfl ?_
      obtain ⟨v20, hi21, h⟩ := bd_e h
      refine tl_Mo_isAllBy_L51 X  hi21 ?_
      obtain ⟨v22, e_v22, h⟩ := bnd_e h
      refine g_iinc (pc := 93) (v := v22) X [(4, .int v22), (0, .ref (V.2.2.1 + 92)), (1, .int l1), (2, .int v20), (3, .int l3)] 4 rfl (by rw [e_v22]; rfl) (Nat.le_of_ble_eq_true rfl) rfl dX12_isAllBy_93 ?_
      refine g_goto (pc := 96) (tgt := 36) X dX12_isAllBy_96 rfl ?_
      refine g_sub [1, 2, 3, 4, 0] rfl ?_
      cases h
      exact hb36 _ _ hA
set_option maxRecDepth 100000 in
theorem tl_Mo_isAllBy_L36 {V : Ev} {Γ : Cn} {fin : Option Value × St} {l1 : Int32} {l3 : Int32} {σ : St} {x2 : Int32} {x4 : Int32} (X : Cx V Γ M_X12_isAllBy)  {y2 : Int32} {n : Nat} (h : iter (fun s : (Int32 × Int32) => Mo_isAllBy_L36 l1 l3 σ s.1 s.2) n (x2, x4) = some y2) (hK : Go V Γ M_X12_isAllBy (Zm V Γ 2 fin) 99 [(2, .int y2)] [] σ) : Go V Γ M_X12_isAllBy (Zm V Γ 2 fin) 36 [(0, .ref (V.2.2.1 + 92)), (1, .int l1), (2, .int x2), (3, .int l3), (4, .int x4)] [] σ := by
  refine iter_go (G := (fun s : (Int32 × Int32) => Go V Γ M_X12_isAllBy (Zm V Γ 2 fin) 36 [(0, .ref (V.2.2.1 + 92)), (1, .int l1), (2, .int s.1), (3, .int l3), (4, .int s.2)] [] σ)) (fun s o ho hS => ?_) n (x2, x4) h
  exact tb_Mo_isAllBy_L36 X  (fun _ _ h9 => h9) (fun _ he => by cases he; exact hK) ho hS
noncomputable def Mo_isAllBy (σ : St) (p1 : Int32) : Option Int32 :=
  bs0 (iter (fun s : Int32 => Mo_isAllBy_L2 p1 σ s) FUEL 0) (fun _ => bd (Mo_spanBy σ p1) (fun r11 => bd (iter (fun s : (Int32 × Int32) => Mo_isAllBy_L36 p1 r11 σ s.1 s.2) FUEL (1, 0)) (fun v25 => chk (ckz v25) (some v25))))
set_option maxRecDepth 100000 in
set_option maxHeartbeats 4000000 in
theorem tm_Mo_isAllBy {V : Ev} {Γ : Cn} {fin : Option Value × St} {σ : St} {p1 : Int32} {o : Int32} (X : Cx V Γ M_X12_isAllBy) {A : Int32 → Prop}  (hr : ∀ (r : Int32), A r → (some (.int r), σ) = fin) (h : Mo_isAllBy σ p1 = some o) (hA : A o) : Go V Γ M_X12_isAllBy (Zm V Γ 2 fin) 0 [(0, .ref (V.2.2.1 + 92)), (1, .int p1)] [] σ := by
  unfold Mo_isAllBy at h
  refine g_iconst (v := 0) (pc := 0) X rfl dX12_isAllBy_0 ?_
  refine g_istore_n (pc := 1) X [(2, .int 0), (0, .ref (V.2.2.1 + 92)), (1, .int p1)] rfl (Nat.le_of_ble_eq_true rfl) rfl dX12_isAllBy_1 ?_
  refine g_sub [1, 2, 0] rfl ?_
  obtain ⟨e6, hi5, hk7, hk8⟩ := bs0_e h
  refine tl_Mo_isAllBy_L2 X  hr hi5 (fun t ht => (hk7 t ht) ▸ hA) (fun _ he9 => ?_)
  clear h
  have h := hk8 () he9
  refine g_iconst (v := 1) (pc := 25) X rfl dX12_isAllBy_25 ?_
  refine g_istore_n (pc := 26) X [(2, .int 1), (0, .ref (V.2.2.1 + 92)), (1, .int p1)] rfl (Nat.le_of_ble_eq_true rfl) rfl dX12_isAllBy_26 ?_
  refine g_aload_n (pc := 27) X 1 rfl dX12_isAllBy_27 ?_
  refine g_iload_n (pc := 28) X 2 rfl dX12_isAllBy_28 ?_
  obtain ⟨r11, hc10, h⟩ := bd_e h
  refine g_callV (pc := 29) X k_ml_X12_360 (run_Mo_spanBy  hc10) s_92 rfl (room_ok (Nat.le_of_ble_eq_true rfl) (Nat.le_of_ble_eq_true rfl)) ⟨Nat.le_refl _, Nat.le_refl _⟩ _ rfl (Nat.le_of_ble_eq_true rfl) dX12_isAllBy_29 ?_
  show Go V Γ M_X12_isAllBy (Zm V Γ 2 fin) 32 [(2, .int 1), (0, .ref (V.2.2.1 + 92)), (1, .int p1)] [.int r11] σ
  refine g_istore_n (pc := 32) X [(3, .int r11), (2, .int 1), (0, .ref (V.2.2.1 + 92)), (1, .int p1)] rfl (Nat.le_of_ble_eq_true rfl) rfl dX12_isAllBy_32 ?_
  refine g_iconst (v := 0) (pc := 33) X rfl dX12_isAllBy_33 ?_
  refine g_istore (pc := 34) X [(4, .int 0), (3, .int r11), (2, .int 1), (0, .ref (V.2.2.1 + 92)), (1, .int p1)] (Nat.le_of_ble_eq_true rfl) rfl dX12_isAllBy_34 ?_
  refine g_sub [3, 4, 2, 1, 0] rfl ?_
  obtain ⟨v25, hi26, h⟩ := bd_e h
  refine tl_Mo_isAllBy_L36 X  hi26 ?_
  refine g_iload_n (pc := 99) X 0 rfl dX12_isAllBy_99 ?_
  obtain ⟨c27, h⟩ := chk_e h
  cases h
  exact g_iret (pc := 100) X rfl (ckz_e c27).1 (hr _ hA) dX12_isAllBy_100
set_option maxRecDepth 100000 in
theorem run_Mo_isAllBy {V : Ev} {σ : St} {p1 : Int32} {o : Int32}   (h : Mo_isAllBy σ p1 = some o) : Rs V 2 M_X12_isAllBy [.ref (V.2.2.1 + 92), .int p1] σ (some (.int o), σ) := by
  refine Rs.of (by decide +kernel) (Nat.le_of_ble_eq_true rfl) (fun Γ X => ?_)
  exact tm_Mo_isAllBy X (A := fun o1 => o1 = o)  (fun _ e => by rw [e]) h rfl
theorem dX12_isGood_0 : decode cX12_isGood 0 = .ok (.iload_n 2, 1) := by decide +kernel
theorem dX12_isGood_1 : decode cX12_isGood 1 = .ok (.ifCond .ne 9, 3) := by decide +kernel
theorem dX12_isGood_4 : decode cX12_isGood 4 = .ok (.aload_n 0, 1) := by decide +kernel
theorem dX12_isGood_5 : decode cX12_isGood 5 = .ok (.iload_n 1, 1) := by decide +kernel
theorem dX12_isGood_6 : decode cX12_isGood 6 = .ok (.invokevirtual 363, 3) := by decide +kernel
theorem dX12_isGood_9 : decode cX12_isGood 9 = .ok (.ireturn, 1) := by decide +kernel
theorem dX12_isGood_10 : decode cX12_isGood 10 = .ok (.aload_n 0, 1) := by decide +kernel
theorem dX12_isGood_11 : decode cX12_isGood 11 = .ok (.iload_n 1, 1) := by decide +kernel
theorem dX12_isGood_12 : decode cX12_isGood 12 = .ok (.invokevirtual 360, 3) := by decide +kernel
theorem dX12_isGood_15 : decode cX12_isGood 15 = .ok (.istore_n 3, 1) := by decide +kernel
theorem dX12_isGood_16 : decode cX12_isGood 16 = .ok (.iconst 0, 1) := by decide +kernel
theorem dX12_isGood_17 : decode cX12_isGood 17 = .ok (.istore 4, 2) := by decide +kernel
theorem dX12_isGood_19 : decode cX12_isGood 19 = .ok (.iconst 0, 1) := by decide +kernel
theorem dX12_isGood_20 : decode cX12_isGood 20 = .ok (.istore 5, 2) := by decide +kernel
theorem dX12_isGood_22 : decode cX12_isGood 22 = .ok (.iload 5, 2) := by decide +kernel
theorem dX12_isGood_24 : decode cX12_isGood 24 = .ok (.iload_n 1, 1) := by decide +kernel
theorem dX12_isGood_25 : decode cX12_isGood 25 = .ok (.if_icmp .ge 23, 3) := by decide +kernel
theorem dX12_isGood_28 : decode cX12_isGood 28 = .ok (.iload 4, 2) := by decide +kernel
theorem dX12_isGood_30 : decode cX12_isGood 30 = .ok (.iload_n 3, 1) := by decide +kernel
theorem dX12_isGood_31 : decode cX12_isGood 31 = .ok (.aload_n 0, 1) := by decide +kernel
theorem dX12_isGood_32 : decode cX12_isGood 32 = .ok (.getfield 60, 3) := by decide +kernel
theorem dX12_isGood_35 : decode cX12_isGood 35 = .ok (.iload 5, 2) := by decide +kernel
theorem dX12_isGood_37 : decode cX12_isGood 37 = .ok (.iaload, 1) := by decide +kernel
theorem dX12_isGood_38 : decode cX12_isGood 38 = .ok (.idiv, 1) := by decide +kernel
theorem dX12_isGood_39 : decode cX12_isGood 39 = .ok (.iadd, 1) := by decide +kernel
theorem dX12_isGood_40 : decode cX12_isGood 40 = .ok (.istore 4, 2) := by decide +kernel
theorem dX12_isGood_42 : decode cX12_isGood 42 = .ok (.iinc 5 1, 3) := by decide +kernel
theorem dX12_isGood_45 : decode cX12_isGood 45 = .ok (.goto (-23), 3) := by decide +kernel
theorem dX12_isGood_48 : decode cX12_isGood 48 = .ok (.iload_n 2, 1) := by decide +kernel
theorem dX12_isGood_49 : decode cX12_isGood 49 = .ok (.iconst 2, 1) := by decide +kernel
theorem dX12_isGood_50 : decode cX12_isGood 50 = .ok (.if_icmp .eq 9, 3) := by decide +kernel
theorem dX12_isGood_53 : decode cX12_isGood 53 = .ok (.iload 4, 2) := by decide +kernel
theorem dX12_isGood_55 : decode cX12_isGood 55 = .ok (.iload_n 3, 1) := by decide +kernel
theorem dX12_isGood_56 : decode cX12_isGood 56 = .ok (.if_icmp .ne 15, 3) := by decide +kernel
theorem dX12_isGood_59 : decode cX12_isGood 59 = .ok (.aload_n 0, 1) := by decide +kernel
theorem dX12_isGood_60 : decode cX12_isGood 60 = .ok (.iload_n 1, 1) := by decide +kernel
theorem dX12_isGood_61 : decode cX12_isGood 61 = .ok (.invokevirtual 366, 3) := by decide +kernel
theorem dX12_isGood_64 : decode cX12_isGood 64 = .ok (.ifCond .eq 7, 3) := by decide +kernel
theorem dX12_isGood_67 : decode cX12_isGood 67 = .ok (.iconst 1, 1) := by decide +kernel
theorem dX12_isGood_68 : decode cX12_isGood 68 = .ok (.goto 4, 3) := by decide +kernel
theorem dX12_isGood_71 : decode cX12_isGood 71 = .ok (.iconst 0, 1) := by decide +kernel
theorem dX12_isGood_72 : decode cX12_isGood 72 = .ok (.ireturn, 1) := by decide +kernel
noncomputable def Mo_isGood_L22 (l1 : Int32) (l2 : Int32) (l3 : Int32) (σ : St) (x4 : Int32) (x5 : Int32) : Option ((Int32 × Int32) ⊕ Int32) :=
  if l1 ≤ x5 then (some (.inr x4)) else (chk (ix x5 6) (chk (nzI (σ.1 105 (tn x5))) (bnd ((x4 + (l3 / (σ.1 105 (tn x5))))) (fun v5 => bnd (x5 + 1) (fun v6 => some (.inl (v5, v6)))))))
set_option maxRecDepth 100000 in
set_option maxHeartbeats 4000000 in
theorem tb_Mo_isGood_L22 {V : Ev} {Γ : Cn} {fin : Option Value × St} {l1 : Int32} {l2 : Int32} {l3 : Int32} {σ : St} {x4 : Int32} {x5 : Int32} {o : ((Int32 × Int32) ⊕ Int32)} (X : Cx V Γ M_X12_isGood) {A : ((Int32 × Int32) ⊕ Int32) → Prop}  (hb22 : ∀ (x4 : Int32) (x5 : Int32), A (.inl (x4, x5)) → Go V Γ M_X12_isGood (Zm V Γ 3 fin) 22 [(0, .ref (V.2.2.1 + 92)), (1, .int l1), (2, .int l2), (3, .int l3), (4, .int x4), (5, .int x5)] [] σ) (hx22 : ∀ (x4 : Int32), A (.inr x4) → Go V Γ M_X12_isGood (Zm V Γ 3 fin) 48 [(0, .ref (V.2.2.1 + 92)), (1, .int l1), (2, .int l2), (3, .int l3), (4, .int x4)] [] σ) (h : Mo_isGood_L22 l1 l2 l3 σ x4 x5 = some o) (hA : A o) : Go V Γ M_X12_isGood (Zm V Γ 3 fin) 22 [(0, .ref (V.2.2.1 + 92)), (1, .int l1), (2, .int l2), (3, .int l3), (4, .int x4), (5, .int x5)] [] σ := by
  unfold Mo_isGood_L22 at h
  refine g_iload (pc := 22) X 5 rfl dX12_isGood_22 ?_
  refine g_iload_n (pc := 24) X 1 rfl dX12_isGood_24 ?_
  refine g_icmp_ge (pc := 25) (tgt := 48) X dX12_isGood_25 rfl (fun c7 => ?_) (fun c7 => ?_)
  · replace h := if_t c7 h
    refine g_sub [0, 1, 2, 3, 4] rfl ?_
    cases h
    exact hx22 _ hA
  · replace h := if_f c7 h
    refine g_iload (pc := 28) X 4 rfl dX12_isGood_28 ?_
    refine g_iload_n (pc := 30) X 3 rfl dX12_isGood_30 ?_
    refine g_aload_n (pc := 31) X 0 rfl dX12_isGood_31 ?_
    refine g_getR (r := 105) (pc := 32) X k_fl_X12_60 s_92 rfl dX12_isGood_32 ?_
    refine g_iload (pc := 35) X 5 rfl dX12_isGood_35 ?_
    obtain ⟨c3, h⟩ := chk_e h
    refine g_iald (pc := 37) X s_105 c3 dX12_isGood_37 ?_
    obtain ⟨c4, h⟩ := chk_e h
    refine g_idiv (pc := 38) X (nzI_e c4) dX12_isGood_38 ?_
    refine g_iadd (pc := 39) X dX12_isGood_39 ?_
    obtain ⟨v5, e_v5, h⟩ := bnd_e h
    refine g_nmI e_v5 ?_
    refine g_istore (pc := 40) X [(4, .int v5), (0, .ref (V.2.2.1 + 92)), (1, .int l1), (2, .int l2), (3, .int l3), (5, .int x5)] (Nat.le_of_ble_eq_true rfl) rfl dX12_isGood_40 ?_
    obtain ⟨v6, e_v6, h⟩ := bnd_e h
    refine g_iinc (pc := 42) (v := v6) X [(5, .int v6), (4, .int v5), (0, .ref (V.2.2.1 + 92)), (1, .int l1), (2, .int l2), (3, .int l3)] 5 rfl (by rw [e_v6]; rfl) (Nat.le_of_ble_eq_true rfl) rfl dX12_isGood_42 ?_
    refine g_goto (pc := 45) (tgt := 22) X dX12_isGood_45 rfl ?_
    refine g_sub [2, 3, 4, 5, 1, 0] rfl ?_
    cases h
    exact hb22 _ _ hA
set_option maxRecDepth 100000 in
theorem tl_Mo_isGood_L22 {V : Ev} {Γ : Cn} {fin : Option Value × St} {l1 : Int32} {l2 : Int32} {l3 : Int32} {σ : St} {x4 : Int32} {x5 : Int32} (X : Cx V Γ M_X12_isGood)  {y4 : Int32} {n : Nat} (h : iter (fun s : (Int32 × Int32) => Mo_isGood_L22 l1 l2 l3 σ s.1 s.2) n (x4, x5) = some y4) (hK : Go V Γ M_X12_isGood (Zm V Γ 3 fin) 48 [(0, .ref (V.2.2.1 + 92)), (1, .int l1), (2, .int l2), (3, .int l3), (4, .int y4)] [] σ) : Go V Γ M_X12_isGood (Zm V Γ 3 fin) 22 [(0, .ref (V.2.2.1 + 92)), (1, .int l1), (2, .int l2), (3, .int l3), (4, .int x4), (5, .int x5)] [] σ := by
  refine iter_go (G := (fun s : (Int32 × Int32) => Go V Γ M_X12_isGood (Zm V Γ 3 fin) 22 [(0, .ref (V.2.2.1 + 92)), (1, .int l1), (2, .int l2), (3, .int l3), (4, .int s.1), (5, .int s.2)] [] σ)) (fun s o ho hS => ?_) n (x4, x5) h
  exact tb_Mo_isGood_L22 X  (fun _ _ h9 => h9) (fun _ he => by cases he; exact hK) ho hS
noncomputable def Mo_isGood (σ : St) (p1 : Int32) (p2 : Int32) : Option Int32 :=
  if p2 = 0 then (bd (Mo_isAllBy σ p1) (fun r19 => chk (ckz r19) (some r19))) else (bd (Mo_spanBy σ p1) (fun r2 => bd (iter (fun s : (Int32 × Int32) => Mo_isGood_L22 p1 p2 r2 σ s.1 s.2) FUEL (0, 0)) (fun v8 => if p2 = 2 then (bd (Mo_isNoneTwice σ p1) (fun r11 => if r11 = 0 then (some 0) else (some 1))) else (if v8 = r2 then (bd (Mo_isNoneTwice σ p1) (fun r14 => if r14 = 0 then (some 0) else (some 1))) else (some 0)))))
set_option maxRecDepth 100000 in
set_option maxHeartbeats 4000000 in
theorem tm_Mo_isGood {V : Ev} {Γ : Cn} {fin : Option Value × St} {σ : St} {p1 : Int32} {p2 : Int32} {o : Int32} (X : Cx V Γ M_X12_isGood) {A : Int32 → Prop}  (hr : ∀ (r : Int32), A r → (some (.int r), σ) = fin) (h : Mo_isGood σ p1 p2 = some o) (hA : A o) : Go V Γ M_X12_isGood (Zm V Γ 3 fin) 0 [(0, .ref (V.2.2.1 + 92)), (1, .int p1), (2, .int p2)] [] σ := by
  unfold Mo_isGood at h
  refine g_iload_n (pc := 0) X 2 rfl dX12_isGood_0 ?_
  refine g_if_ne (pc := 1) (tgt := 10) X dX12_isGood_1 rfl (fun c21 => ?_) (fun c21 => ?_)
  · replace h := if_f c21 h
    refine g_aload_n (pc := 10) X 0 rfl dX12_isGood_10 ?_
    refine g_iload_n (pc := 11) X 1 rfl dX12_isGood_11 ?_
    obtain ⟨r2, hc1, h⟩ := bd_e h
    refine g_callV (pc := 12) X k_ml_X12_360 (run_Mo_spanBy  hc1) s_92 rfl (room_ok (Nat.le_of_ble_eq_true rfl) (Nat.le_of_ble_eq_true rfl)) ⟨Nat.le_refl _, Nat.le_refl _⟩ _ rfl (Nat.le_of_ble_eq_true rfl) dX12_isGood_12 ?_
    show Go V Γ M_X12_isGood (Zm V Γ 3 fin) 15 [(0, .ref (V.2.2.1 + 92)), (1, .int p1), (2, .int p2)] [.int r2] σ
    refine g_istore_n (pc := 15) X [(3, .int r2), (0, .ref (V.2.2.1 + 92)), (1, .int p1), (2, .int p2)] rfl (Nat.le_of_ble_eq_true rfl) rfl dX12_isGood_15 ?_
    refine g_iconst (v := 0) (pc := 16) X rfl dX12_isGood_16 ?_
    refine g_istore (pc := 17) X [(4, .int 0), (3, .int r2), (0, .ref (V.2.2.1 + 92)), (1, .int p1), (2, .int p2)] (Nat.le_of_ble_eq_true rfl) rfl dX12_isGood_17 ?_
    refine g_iconst (v := 0) (pc := 19) X rfl dX12_isGood_19 ?_
    refine g_istore (pc := 20) X [(5, .int 0), (4, .int 0), (3, .int r2), (0, .ref (V.2.2.1 + 92)), (1, .int p1), (2, .int p2)] (Nat.le_of_ble_eq_true rfl) rfl dX12_isGood_20 ?_
    refine g_sub [3, 4, 5, 2, 1, 0] rfl ?_
    obtain ⟨v8, hi9, h⟩ := bd_e h
    refine tl_Mo_isGood_L22 X  hi9 ?_
    refine g_iload_n (pc := 48) X 2 rfl dX12_isGood_48 ?_
    refine g_iconst (v := 2) (pc := 49) X rfl dX12_isGood_49 ?_
    refine g_icmp_eq (pc := 50) (tgt := 59) X dX12_isGood_50 rfl (fun c17 => ?_) (fun c17 => ?_)
    · replace h := if_t c17 h
      refine g_aload_n (pc := 59) X 0 rfl dX12_isGood_59 ?_
      refine g_iload_n (pc := 60) X 1 rfl dX12_isGood_60 ?_
      obtain ⟨r11, hc10, h⟩ := bd_e h
      refine g_callV (pc := 61) X k_ml_X12_366 (run_Mo_isNoneTwice  hc10) s_92 rfl (room_ok (Nat.le_of_ble_eq_true rfl) (Nat.le_of_ble_eq_true rfl)) ⟨Nat.le_refl _, Nat.le_refl _⟩ _ rfl (Nat.le_of_ble_eq_true rfl) dX12_isGood_61 ?_
      show Go V Γ M_X12_isGood (Zm V Γ 3 fin) 64 [(0, .ref (V.2.2.1 + 92)), (1, .int p1), (2, .int p2), (3, .int r2), (4, .int v8)] [.int r11] σ
      refine g_if_eq (pc := 64) (tgt := 71) X dX12_isGood_64 rfl (fun c12 => ?_) (fun c12 => ?_)
      · replace h := if_t c12 h
        refine g_iconst (v := 0) (pc := 71) X rfl dX12_isGood_71 ?_
        cases h
        exact g_iret (pc := 72) X rfl nz0.1 (hr _ hA) dX12_isGood_72
      · replace h := if_f c12 h
        refine g_iconst (v := 1) (pc := 67) X rfl dX12_isGood_67 ?_
        refine g_goto (pc := 68) (tgt := 72) X dX12_isGood_68 rfl ?_
        cases h
        exact g_iret (pc := 72) X rfl nz1.1 (hr _ hA) dX12_isGood_72
    · replace h := if_f c17 h
      refine g_iload (pc := 53) X 4 rfl dX12_isGood_53 ?_
      refine g_iload_n (pc := 55) X 3 rfl dX12_isGood_55 ?_
      refine g_icmp_ne (pc := 56) (tgt := 71) X dX12_isGood_56 rfl (fun c16 => ?_) (fun c16 => ?_)
      · replace h := if_f c16 h
        refine g_iconst (v := 0) (pc := 71) X rfl dX12_isGood_71 ?_
        cases h
        exact g_iret (pc := 72) X rfl nz0.1 (hr _ hA) dX12_isGood_72
      · replace h := if_t c16 h
        refine g_aload_n (pc := 59) X 0 rfl dX12_isGood_59 ?_
        refine g_iload_n (pc := 60) X 1 rfl dX12_isGood_60 ?_
        obtain ⟨r14, hc13, h⟩ := bd_e h
        refine g_callV (pc := 61) X k_ml_X12_366 (run_Mo_isNoneTwice  hc13) s_92 rfl (room_ok (Nat.le_of_ble_eq_true rfl) (Nat.le_of_ble_eq_true rfl)) ⟨Nat.le_refl _, Nat.le_refl _⟩ _ rfl (Nat.le_of_ble_eq_true rfl) dX12_isGood_61 ?_
        show Go V Γ M_X12_isGood (Zm V Γ 3 fin) 64 [(0, .ref (V.2.2.1 + 92)), (1, .int p1), (2, .int p2), (3, .int r2), (4, .int v8)] [.int r14] σ
        refine g_if_eq (pc := 64) (tgt := 71) X dX12_isGood_64 rfl (fun c15 => ?_) (fun c15 => ?_)
        · replace h := if_t c15 h
          refine g_iconst (v := 0) (pc := 71) X rfl dX12_isGood_71 ?_
          cases h
          exact g_iret (pc := 72) X rfl nz0.1 (hr _ hA) dX12_isGood_72
        · replace h := if_f c15 h
          refine g_iconst (v := 1) (pc := 67) X rfl dX12_isGood_67 ?_
          refine g_goto (pc := 68) (tgt := 72) X dX12_isGood_68 rfl ?_
          cases h
          exact g_iret (pc := 72) X rfl nz1.1 (hr _ hA) dX12_isGood_72
  · replace h := if_t c21 h
    refine g_aload_n (pc := 4) X 0 rfl dX12_isGood_4 ?_
    refine g_iload_n (pc := 5) X 1 rfl dX12_isGood_5 ?_
    obtain ⟨r19, hc18, h⟩ := bd_e h
    refine g_callV (pc := 6) X k_ml_X12_363 (run_Mo_isAllBy  hc18) s_92 rfl (room_ok (Nat.le_of_ble_eq_true rfl) (Nat.le_of_ble_eq_true rfl)) ⟨Nat.le_refl _, Nat.le_refl _⟩ _ rfl (Nat.le_of_ble_eq_true rfl) dX12_isGood_6 ?_
    show Go V Γ M_X12_isGood (Zm V Γ 3 fin) 9 [(0, .ref (V.2.2.1 + 92)), (1, .int p1), (2, .int p2)] [.int r19] σ
    obtain ⟨c20, h⟩ := chk_e h
    cases h
    exact g_iret (pc := 9) X rfl (ckz_e c20).1 (hr _ hA) dX12_isGood_9
set_option maxRecDepth 100000 in
theorem run_Mo_isGood {V : Ev} {σ : St} {p1 : Int32} {p2 : Int32} {o : Int32}   (h : Mo_isGood σ p1 p2 = some o) : Rs V 3 M_X12_isGood [.ref (V.2.2.1 + 92), .int p1, .int p2] σ (some (.int o), σ) := by
  refine Rs.of (by decide +kernel) (Nat.le_of_ble_eq_true rfl) (fun Γ X => ?_)
  exact tm_Mo_isGood X (A := fun o1 => o1 = o)  (fun _ e => by rw [e]) h rfl
theorem dX12_choices_0 : decode cX12_choices 0 = .ok (.aload_n 0, 1) := by decide +kernel
theorem dX12_choices_1 : decode cX12_choices 1 = .ok (.iload_n 1, 1) := by decide +kernel
theorem dX12_choices_2 : decode cX12_choices 2 = .ok (.iload_n 2, 1) := by decide +kernel
theorem dX12_choices_3 : decode cX12_choices 3 = .ok (.iload_n 3, 1) := by decide +kernel
theorem dX12_choices_4 : decode cX12_choices 4 = .ok (.invokevirtual 369, 3) := by decide +kernel
theorem dX12_choices_7 : decode cX12_choices 7 = .ok (.istore 4, 2) := by decide +kernel
theorem dX12_choices_9 : decode cX12_choices 9 = .ok (.iload 4, 2) := by decide +kernel
theorem dX12_choices_11 : decode cX12_choices 11 = .ok (.ifCond .le 10, 3) := by decide +kernel
theorem dX12_choices_14 : decode cX12_choices 14 = .ok (.aload_n 0, 1) := by decide +kernel
theorem dX12_choices_15 : decode cX12_choices 15 = .ok (.iload 4, 2) := by decide +kernel
theorem dX12_choices_17 : decode cX12_choices 17 = .ok (.invokevirtual 88, 3) := by decide +kernel
theorem dX12_choices_20 : decode cX12_choices 20 = .ok (.ireturn, 1) := by decide +kernel
theorem dX12_choices_21 : decode cX12_choices 21 = .ok (.iconst 0, 1) := by decide +kernel
theorem dX12_choices_22 : decode cX12_choices 22 = .ok (.istore 5, 2) := by decide +kernel
theorem dX12_choices_24 : decode cX12_choices 24 = .ok (.iconst 0, 1) := by decide +kernel
theorem dX12_choices_25 : decode cX12_choices 25 = .ok (.istore 6, 2) := by decide +kernel
theorem dX12_choices_27 : decode cX12_choices 27 = .ok (.iload 6, 2) := by decide +kernel
theorem dX12_choices_29 : decode cX12_choices 29 = .ok (.aload_n 0, 1) := by decide +kernel
theorem dX12_choices_30 : decode cX12_choices 30 = .ok (.iload_n 2, 1) := by decide +kernel
theorem dX12_choices_31 : decode cX12_choices 31 = .ok (.invokevirtual 373, 3) := by decide +kernel
theorem dX12_choices_34 : decode cX12_choices 34 = .ok (.if_icmp .ge 35, 3) := by decide +kernel
theorem dX12_choices_37 : decode cX12_choices 37 = .ok (.aload_n 0, 1) := by decide +kernel
theorem dX12_choices_38 : decode cX12_choices 38 = .ok (.iload 6, 2) := by decide +kernel
theorem dX12_choices_40 : decode cX12_choices 40 = .ok (.iload_n 2, 1) := by decide +kernel
theorem dX12_choices_41 : decode cX12_choices 41 = .ok (.invokevirtual 376, 3) := by decide +kernel
theorem dX12_choices_44 : decode cX12_choices 44 = .ok (.iload 5, 2) := by decide +kernel
theorem dX12_choices_46 : decode cX12_choices 46 = .ok (.aload_n 0, 1) := by decide +kernel
theorem dX12_choices_47 : decode cX12_choices 47 = .ok (.iload_n 2, 1) := by decide +kernel
theorem dX12_choices_48 : decode cX12_choices 48 = .ok (.iload_n 3, 1) := by decide +kernel
theorem dX12_choices_49 : decode cX12_choices 49 = .ok (.invokevirtual 379, 3) := by decide +kernel
theorem dX12_choices_52 : decode cX12_choices 52 = .ok (.ifCond .eq 7, 3) := by decide +kernel
theorem dX12_choices_55 : decode cX12_choices 55 = .ok (.iconst 1, 1) := by decide +kernel
theorem dX12_choices_56 : decode cX12_choices 56 = .ok (.goto 4, 3) := by decide +kernel
theorem dX12_choices_59 : decode cX12_choices 59 = .ok (.iconst 0, 1) := by decide +kernel
theorem dX12_choices_60 : decode cX12_choices 60 = .ok (.iadd, 1) := by decide +kernel
theorem dX12_choices_61 : decode cX12_choices 61 = .ok (.istore 5, 2) := by decide +kernel
theorem dX12_choices_63 : decode cX12_choices 63 = .ok (.iinc 6 1, 3) := by decide +kernel
theorem dX12_choices_66 : decode cX12_choices 66 = .ok (.goto (-39), 3) := by decide +kernel
theorem dX12_choices_69 : decode cX12_choices 69 = .ok (.aload_n 0, 1) := by decide +kernel
theorem dX12_choices_70 : decode cX12_choices 70 = .ok (.iload 5, 2) := by decide +kernel
theorem dX12_choices_72 : decode cX12_choices 72 = .ok (.invokevirtual 92, 3) := by decide +kernel
theorem dX12_choices_75 : decode cX12_choices 75 = .ok (.ireturn, 1) := by decide +kernel
noncomputable def Mo_choices_L27 (l2 : Int32) (l3 : Int32) (σ : St) (x5 : Int32) (x6 : Int32) : Option ((Int32 × Int32 × St) ⊕ (Int32 × St)) :=
  bd (Mo_allWays σ l2) (fun r5 => if r5 ≤ x6 then (some (.inr (x5, σ))) else (bd (Mo_laysWay σ x6 l2) (fun σ7 => bd (Mo_isGood σ7 l2 l3) (fun r9 => if r9 = 0 then (bnd ((x5 + 0)) (fun v10 => bnd (x6 + 1) (fun v11 => some (.inl (v10, v11, σ7))))) else (bnd ((x5 + 1)) (fun v12 => bnd (x6 + 1) (fun v13 => some (.inl (v12, v13, σ7)))))))))
set_option maxRecDepth 100000 in
set_option maxHeartbeats 4000000 in
theorem tb_Mo_choices_L27 {V : Ev} {Γ : Cn} {fin : Option Value × St} {l2 : Int32} {l3 : Int32} {σ : St} {x5 : Int32} {x6 : Int32} {o : ((Int32 × Int32 × St) ⊕ (Int32 × St))} (X : Cx V Γ M_X12_choices) {A : ((Int32 × Int32 × St) ⊕ (Int32 × St)) → Prop}  (hb27 : ∀ (x5 : Int32) (x6 : Int32) (σ9 : St), A (.inl (x5, x6, σ9)) → Go V Γ M_X12_choices (Zm V Γ 4 fin) 27 [(0, .ref (V.2.2.1 + 92)), (2, .int l2), (3, .int l3), (5, .int x5), (6, .int x6)] [] σ9) (hx27 : ∀ (x5 : Int32) (σ9 : St), A (.inr (x5, σ9)) → Go V Γ M_X12_choices (Zm V Γ 4 fin) 69 [(0, .ref (V.2.2.1 + 92)), (5, .int x5)] [] σ9) (h : Mo_choices_L27 l2 l3 σ x5 x6 = some o) (hA : A o) : Go V Γ M_X12_choices (Zm V Γ 4 fin) 27 [(0, .ref (V.2.2.1 + 92)), (2, .int l2), (3, .int l3), (5, .int x5), (6, .int x6)] [] σ := by
  unfold Mo_choices_L27 at h
  refine g_iload (pc := 27) X 4 rfl dX12_choices_27 ?_
  refine g_aload_n (pc := 29) X 0 rfl dX12_choices_29 ?_
  refine g_iload_n (pc := 30) X 1 rfl dX12_choices_30 ?_
  obtain ⟨r5, hc4, h⟩ := bd_e h
  refine g_callV (pc := 31) X k_ml_X12_373 (run_Mo_allWays  hc4) s_92 rfl (room_ok (Nat.le_of_ble_eq_true rfl) (Nat.le_of_ble_eq_true rfl)) ⟨Nat.le_refl _, Nat.le_refl _⟩ _ rfl (Nat.le_of_ble_eq_true rfl) dX12_choices_31 ?_
  show Go V Γ M_X12_choices (Zm V Γ 4 fin) 34 [(0, .ref (V.2.2.1 + 92)), (2, .int l2), (3, .int l3), (5, .int x5), (6, .int x6)] [.int r5, .int x6] σ
  refine g_icmp_ge (pc := 34) (tgt := 69) X dX12_choices_34 rfl (fun c15 => ?_) (fun c15 => ?_)
  · replace h := if_t c15 h
    refine g_sub [0, 3] rfl ?_
    cases h
    exact hx27 _ _ hA
  · replace h := if_f c15 h
    refine g_aload_n (pc := 37) X 0 rfl dX12_choices_37 ?_
    refine g_iload (pc := 38) X 4 rfl dX12_choices_38 ?_
    refine g_iload_n (pc := 40) X 1 rfl dX12_choices_40 ?_
    obtain ⟨σ7, hc6, h⟩ := bd_e h
    refine g_callV (pc := 41) X k_ml_X12_376 (run_Mo_laysWay  hc6) s_92 rfl (room_ok (Nat.le_of_ble_eq_true rfl) (Nat.le_of_ble_eq_true rfl)) ⟨Nat.le_refl _, Nat.le_refl _⟩ _ rfl (Nat.le_of_ble_eq_true rfl) dX12_choices_41 ?_
    show Go V Γ M_X12_choices (Zm V Γ 4 fin) 44 [(0, .ref (V.2.2.1 + 92)), (2, .int l2), (3, .int l3), (5, .int x5), (6, .int x6)] [] σ7
    refine g_iload (pc := 44) X 3 rfl dX12_choices_44 ?_
    refine g_aload_n (pc := 46) X 0 rfl dX12_choices_46 ?_
    refine g_iload_n (pc := 47) X 1 rfl dX12_choices_47 ?_
    refine g_iload_n (pc := 48) X 2 rfl dX12_choices_48 ?_
    obtain ⟨r9, hc8, h⟩ := bd_e h
    refine g_callV (pc := 49) X k_ml_X12_379 (run_Mo_isGood  hc8) s_92 rfl (room_ok (Nat.le_of_ble_eq_true rfl) (Nat.le_of_ble_eq_true rfl)) ⟨Nat.le_refl _, Nat.le_refl _⟩ _ rfl (Nat.le_of_ble_eq_true rfl) dX12_choices_49 ?_
    show Go V Γ M_X12_choices (Zm V Γ 4 fin) 52 [(0, .ref (V.2.2.1 + 92)), (2, .int l2), (3, .int l3), (5, .int x5), (6, .int x6)] [.int r9, .int x5] σ7
    refine g_if_eq (pc := 52) (tgt := 59) X dX12_choices_52 rfl (fun c14 => ?_) (fun c14 => ?_)
    · replace h := if_t c14 h
      refine g_iconst (v := 0) (pc := 59) X rfl dX12_choices_59 ?_
      refine g_iadd (pc := 60) X dX12_choices_60 ?_
      obtain ⟨v10, e_v10, h⟩ := bnd_e h
      refine g_nmI e_v10 ?_
      refine g_istore (pc := 61) X [(5, .int v10), (0, .ref (V.2.2.1 + 92)), (2, .int l2), (3, .int l3), (6, .int x6)] (Nat.le_of_ble_eq_true rfl) rfl dX12_choices_61 ?_
      obtain ⟨v11, e_v11, h⟩ := bnd_e h
      refine g_iinc (pc := 63) (v := v11) X [(6, .int v11), (5, .int v10), (0, .ref (V.2.2.1 + 92)), (2, .int l2), (3, .int l3)] 4 rfl (by rw [e_v11]; rfl) (Nat.le_of_ble_eq_true rfl) rfl dX12_choices_63 ?_
      refine g_goto (pc := 66) (tgt := 27) X dX12_choices_66 rfl ?_
      refine g_sub [2, 3, 4, 1, 0] rfl ?_
      cases h
      exact hb27 _ _ _ hA
    · replace h := if_f c14 h
      refine g_iconst (v := 1) (pc := 55) X rfl dX12_choices_55 ?_
      refine g_goto (pc := 56) (tgt := 60) X dX12_choices_56 rfl ?_
      refine g_iadd (pc := 60) X dX12_choices_60 ?_
      obtain ⟨v12, e_v12, h⟩ := bnd_e h
      refine g_nmI e_v12 ?_
      refine g_istore (pc := 61) X [(5, .int v12), (0, .ref (V.2.2.1 + 92)), (2, .int l2), (3, .int l3), (6, .int x6)] (Nat.le_of_ble_eq_true rfl) rfl dX12_choices_61 ?_
      obtain ⟨v13, e_v13, h⟩ := bnd_e h
      refine g_iinc (pc := 63) (v := v13) X [(6, .int v13), (5, .int v12), (0, .ref (V.2.2.1 + 92)), (2, .int l2), (3, .int l3)] 4 rfl (by rw [e_v13]; rfl) (Nat.le_of_ble_eq_true rfl) rfl dX12_choices_63 ?_
      refine g_goto (pc := 66) (tgt := 27) X dX12_choices_66 rfl ?_
      refine g_sub [2, 3, 4, 1, 0] rfl ?_
      cases h
      exact hb27 _ _ _ hA
set_option maxRecDepth 100000 in
theorem tl_Mo_choices_L27 {V : Ev} {Γ : Cn} {fin : Option Value × St} {l2 : Int32} {l3 : Int32} {x5 : Int32} {x6 : Int32} {σ9 : St} (X : Cx V Γ M_X12_choices)  {y5 : Int32} {σ8 : St} {n : Nat} (h : iter (fun s : (Int32 × Int32 × St) => Mo_choices_L27 l2 l3 s.2.2 s.1 s.2.1) n (x5, x6, σ9) = some (y5, σ8)) (hK : Go V Γ M_X12_choices (Zm V Γ 4 fin) 69 [(0, .ref (V.2.2.1 + 92)), (5, .int y5)] [] σ8) : Go V Γ M_X12_choices (Zm V Γ 4 fin) 27 [(0, .ref (V.2.2.1 + 92)), (2, .int l2), (3, .int l3), (5, .int x5), (6, .int x6)] [] σ9 := by
  refine iter_go (G := (fun s : (Int32 × Int32 × St) => Go V Γ M_X12_choices (Zm V Γ 4 fin) 27 [(0, .ref (V.2.2.1 + 92)), (2, .int l2), (3, .int l3), (5, .int s.1), (6, .int s.2.1)] [] s.2.2)) (fun s o ho hS => ?_) n (x5, x6, σ9) h
  exact tb_Mo_choices_L27 X  (fun _ _ _ h9 => h9) (fun _ _ he => by cases he; exact hK) ho hS
noncomputable def Mo_choices (σ : St) (p1 : Int32) (p2 : Int32) (p3 : Int32) : Option (Int32 × St) :=
  bd2 (Mo_wrongChoices σ p1 p2 p3) (fun r2 σ3 => if r2 ≤ 0 then (bd2 (iter (fun s : (Int32 × Int32 × St) => Mo_choices_L27 p2 p3 s.2.2 s.1 s.2.1) FUEL (0, 0, σ3)) (fun v16 σ17 => bd2 (Mo_gives σ17 v16) (fun r20 σ21 => some (r20, σ21)))) else (bd2 (Mo_refuse σ3 r2) (fun r23 σ24 => some (r23, σ24))))
set_option maxRecDepth 100000 in
set_option maxHeartbeats 4000000 in
theorem tm_Mo_choices {V : Ev} {Γ : Cn} {fin : Option Value × St} {σ : St} {p1 : Int32} {p2 : Int32} {p3 : Int32} {o : (Int32 × St)} (X : Cx V Γ M_X12_choices) {A : (Int32 × St) → Prop}  (hr : ∀ (r : Int32) (σ9 : St), A (r, σ9) → (some (.int r), σ9) = fin) (h : Mo_choices σ p1 p2 p3 = some o) (hA : A o) : Go V Γ M_X12_choices (Zm V Γ 4 fin) 0 [(0, .ref (V.2.2.1 + 92)), (1, .int p1), (2, .int p2), (3, .int p3)] [] σ := by
  unfold Mo_choices at h
  refine g_aload_n (pc := 0) X 0 rfl dX12_choices_0 ?_
  refine g_iload_n (pc := 1) X 1 rfl dX12_choices_1 ?_
  refine g_iload_n (pc := 2) X 2 rfl dX12_choices_2 ?_
  refine g_iload_n (pc := 3) X 3 rfl dX12_choices_3 ?_
  obtain ⟨r2, σ3, hc1, h⟩ := bd2_e h
  refine g_callV (pc := 4) X k_ml_X12_369 (run_Mo_wrongChoices  hc1) s_92 rfl (room_ok (Nat.le_of_ble_eq_true rfl) (Nat.le_of_ble_eq_true rfl)) ⟨Nat.le_refl _, Nat.le_refl _⟩ _ rfl (Nat.le_of_ble_eq_true rfl) dX12_choices_4 ?_
  show Go V Γ M_X12_choices (Zm V Γ 4 fin) 7 [(0, .ref (V.2.2.1 + 92)), (1, .int p1), (2, .int p2), (3, .int p3)] [.int r2] σ3
  refine g_istore (pc := 7) X [(4, .int r2), (0, .ref (V.2.2.1 + 92)), (1, .int p1), (2, .int p2), (3, .int p3)] (Nat.le_of_ble_eq_true rfl) rfl dX12_choices_7 ?_
  refine g_iload (pc := 9) X 0 rfl dX12_choices_9 ?_
  refine g_if_le (pc := 11) (tgt := 21) X dX12_choices_11 rfl (fun c25 => ?_) (fun c25 => ?_)
  · replace h := if_t c25 h
    refine g_iconst (v := 0) (pc := 21) X rfl dX12_choices_21 ?_
    refine g_istore (pc := 22) X [(5, .int 0), (4, .int r2), (0, .ref (V.2.2.1 + 92)), (1, .int p1), (2, .int p2), (3, .int p3)] (Nat.le_of_ble_eq_true rfl) rfl dX12_choices_22 ?_
    refine g_iconst (v := 0) (pc := 24) X rfl dX12_choices_24 ?_
    refine g_istore (pc := 25) X [(6, .int 0), (5, .int 0), (4, .int r2), (0, .ref (V.2.2.1 + 92)), (1, .int p1), (2, .int p2), (3, .int p3)] (Nat.le_of_ble_eq_true rfl) rfl dX12_choices_25 ?_
    refine g_sub [3, 5, 6, 1, 0] rfl ?_
    obtain ⟨v16, σ17, hi18, h⟩ := bd2_e h
    refine tl_Mo_choices_L27 X  hi18 ?_
    refine g_aload_n (pc := 69) X 0 rfl dX12_choices_69 ?_
    refine g_iload (pc := 70) X 1 rfl dX12_choices_70 ?_
    obtain ⟨r20, σ21, hc19, h⟩ := bd2_e h
    refine g_callV (pc := 72) X k_ml_X12_92 (run_Mo_gives  hc19) s_92 rfl (room_ok (Nat.le_of_ble_eq_true rfl) (Nat.le_of_ble_eq_true rfl)) ⟨Nat.le_refl _, Nat.le_refl _⟩ _ rfl (Nat.le_of_ble_eq_true rfl) dX12_choices_72 ?_
    show Go V Γ M_X12_choices (Zm V Γ 4 fin) 75 [(0, .ref (V.2.2.1 + 92)), (5, .int v16)] [.int r20] σ21
    cases h
    exact g_iret (pc := 75) X rfl rfl (hr _ _ hA) dX12_choices_75
  · replace h := if_f c25 h
    refine g_aload_n (pc := 14) X 1 rfl dX12_choices_14 ?_
    refine g_iload (pc := 15) X 0 rfl dX12_choices_15 ?_
    obtain ⟨r23, σ24, hc22, h⟩ := bd2_e h
    refine g_callV (pc := 17) X k_ml_X12_88 (run_Mo_refuse  hc22) s_92 rfl (room_ok (Nat.le_of_ble_eq_true rfl) (Nat.le_of_ble_eq_true rfl)) ⟨Nat.le_refl _, Nat.le_refl _⟩ _ rfl (Nat.le_of_ble_eq_true rfl) dX12_choices_17 ?_
    show Go V Γ M_X12_choices (Zm V Γ 4 fin) 20 [(4, .int r2), (0, .ref (V.2.2.1 + 92)), (1, .int p1), (2, .int p2), (3, .int p3)] [.int r23] σ24
    cases h
    exact g_iret (pc := 20) X rfl rfl (hr _ _ hA) dX12_choices_20
set_option maxRecDepth 100000 in
theorem run_Mo_choices {V : Ev} {σ : St} {p1 : Int32} {p2 : Int32} {p3 : Int32} {o : (Int32 × St)}   (h : Mo_choices σ p1 p2 p3 = some o) : Rs V 4 M_X12_choices [.ref (V.2.2.1 + 92), .int p1, .int p2, .int p3] σ (some (.int o.1), o.2) := by
  refine Rs.of (by decide +kernel) (Nat.le_of_ble_eq_true rfl) (fun Γ X => ?_)
  exact tm_Mo_choices X (A := fun o1 => o1 = o)  (fun _ _ e => by rw [← e]) h rfl
theorem dX12_choiceAt_0 : decode cX12_choiceAt 0 = .ok (.iload 4, 2) := by decide +kernel
theorem dX12_choiceAt_2 : decode cX12_choiceAt 2 = .ok (.ifCond .lt 9, 3) := by decide +kernel
theorem dX12_choiceAt_5 : decode cX12_choiceAt 5 = .ok (.iload 4, 2) := by decide +kernel
theorem dX12_choiceAt_7 : decode cX12_choiceAt 7 = .ok (.iload_n 2, 1) := by decide +kernel
theorem dX12_choiceAt_8 : decode cX12_choiceAt 8 = .ok (.if_icmp .lt 7, 3) := by decide +kernel
theorem dX12_choiceAt_11 : decode cX12_choiceAt 11 = .ok (.iconst 1, 1) := by decide +kernel
theorem dX12_choiceAt_12 : decode cX12_choiceAt 12 = .ok (.goto 10, 3) := by decide +kernel
theorem dX12_choiceAt_15 : decode cX12_choiceAt 15 = .ok (.aload_n 0, 1) := by decide +kernel
theorem dX12_choiceAt_16 : decode cX12_choiceAt 16 = .ok (.iload_n 1, 1) := by decide +kernel
theorem dX12_choiceAt_17 : decode cX12_choiceAt 17 = .ok (.iload_n 2, 1) := by decide +kernel
theorem dX12_choiceAt_18 : decode cX12_choiceAt 18 = .ok (.iload_n 3, 1) := by decide +kernel
theorem dX12_choiceAt_19 : decode cX12_choiceAt 19 = .ok (.invokevirtual 369, 3) := by decide +kernel
theorem dX12_choiceAt_22 : decode cX12_choiceAt 22 = .ok (.istore 5, 2) := by decide +kernel
theorem dX12_choiceAt_24 : decode cX12_choiceAt 24 = .ok (.iload 5, 2) := by decide +kernel
theorem dX12_choiceAt_26 : decode cX12_choiceAt 26 = .ok (.ifCond .le 10, 3) := by decide +kernel
theorem dX12_choiceAt_29 : decode cX12_choiceAt 29 = .ok (.aload_n 0, 1) := by decide +kernel
theorem dX12_choiceAt_30 : decode cX12_choiceAt 30 = .ok (.iload 5, 2) := by decide +kernel
theorem dX12_choiceAt_32 : decode cX12_choiceAt 32 = .ok (.invokevirtual 88, 3) := by decide +kernel
theorem dX12_choiceAt_35 : decode cX12_choiceAt 35 = .ok (.ireturn, 1) := by decide +kernel
theorem dX12_choiceAt_36 : decode cX12_choiceAt 36 = .ok (.iconst 0, 1) := by decide +kernel
theorem dX12_choiceAt_37 : decode cX12_choiceAt 37 = .ok (.istore 6, 2) := by decide +kernel
theorem dX12_choiceAt_39 : decode cX12_choiceAt 39 = .ok (.iload 6, 2) := by decide +kernel
theorem dX12_choiceAt_41 : decode cX12_choiceAt 41 = .ok (.aload_n 0, 1) := by decide +kernel
theorem dX12_choiceAt_42 : decode cX12_choiceAt 42 = .ok (.iload_n 2, 1) := by decide +kernel
theorem dX12_choiceAt_43 : decode cX12_choiceAt 43 = .ok (.invokevirtual 373, 3) := by decide +kernel
theorem dX12_choiceAt_46 : decode cX12_choiceAt 46 = .ok (.if_icmp .ge 37, 3) := by decide +kernel
theorem dX12_choiceAt_49 : decode cX12_choiceAt 49 = .ok (.aload_n 0, 1) := by decide +kernel
theorem dX12_choiceAt_50 : decode cX12_choiceAt 50 = .ok (.iload 6, 2) := by decide +kernel
theorem dX12_choiceAt_52 : decode cX12_choiceAt 52 = .ok (.iload_n 2, 1) := by decide +kernel
theorem dX12_choiceAt_53 : decode cX12_choiceAt 53 = .ok (.invokevirtual 376, 3) := by decide +kernel
theorem dX12_choiceAt_56 : decode cX12_choiceAt 56 = .ok (.aload_n 0, 1) := by decide +kernel
theorem dX12_choiceAt_57 : decode cX12_choiceAt 57 = .ok (.iload_n 2, 1) := by decide +kernel
theorem dX12_choiceAt_58 : decode cX12_choiceAt 58 = .ok (.iload_n 3, 1) := by decide +kernel
theorem dX12_choiceAt_59 : decode cX12_choiceAt 59 = .ok (.invokevirtual 379, 3) := by decide +kernel
theorem dX12_choiceAt_62 : decode cX12_choiceAt 62 = .ok (.ifCond .eq 15, 3) := by decide +kernel
theorem dX12_choiceAt_65 : decode cX12_choiceAt 65 = .ok (.aload_n 0, 1) := by decide +kernel
theorem dX12_choiceAt_66 : decode cX12_choiceAt 66 = .ok (.aload_n 0, 1) := by decide +kernel
theorem dX12_choiceAt_67 : decode cX12_choiceAt 67 = .ok (.getfield 63, 3) := by decide +kernel
theorem dX12_choiceAt_70 : decode cX12_choiceAt 70 = .ok (.iload 4, 2) := by decide +kernel
theorem dX12_choiceAt_72 : decode cX12_choiceAt 72 = .ok (.iaload, 1) := by decide +kernel
theorem dX12_choiceAt_73 : decode cX12_choiceAt 73 = .ok (.invokevirtual 92, 3) := by decide +kernel
theorem dX12_choiceAt_76 : decode cX12_choiceAt 76 = .ok (.ireturn, 1) := by decide +kernel
theorem dX12_choiceAt_77 : decode cX12_choiceAt 77 = .ok (.iinc 6 1, 3) := by decide +kernel
theorem dX12_choiceAt_80 : decode cX12_choiceAt 80 = .ok (.goto (-41), 3) := by decide +kernel
theorem dX12_choiceAt_83 : decode cX12_choiceAt 83 = .ok (.aload_n 0, 1) := by decide +kernel
theorem dX12_choiceAt_84 : decode cX12_choiceAt 84 = .ok (.bipush 6, 2) := by decide +kernel
theorem dX12_choiceAt_86 : decode cX12_choiceAt 86 = .ok (.invokevirtual 88, 3) := by decide +kernel
theorem dX12_choiceAt_89 : decode cX12_choiceAt 89 = .ok (.ireturn, 1) := by decide +kernel
noncomputable def Mo_choiceAt_L39 (l2 : Int32) (l3 : Int32) (l4 : Int32) (σ : St) (x6 : Int32) : Option ((Int32 × St) ⊕ (Int32 × St)) :=
  bd (Mo_allWays σ l2) (fun r2 => if r2 ≤ x6 then (bd2 (Mo_refuse σ 6) (fun r4 σ5 => some (.inr (r4, σ5)))) else (bd (Mo_laysWay σ x6 l2) (fun σ7 => bd (Mo_isGood σ7 l2 l3) (fun r9 => if r9 = 0 then (bnd (x6 + 1) (fun v10 => some (.inl (v10, σ7)))) else (chk (ix l4 6) (bd2 (Mo_gives σ7 (σ7.1 106 (tn l4))) (fun r13 σ14 => some (.inr (r13, σ14)))))))))
set_option maxRecDepth 100000 in
set_option maxHeartbeats 4000000 in
theorem tb_Mo_choiceAt_L39 {V : Ev} {Γ : Cn} {fin : Option Value × St} {l2 : Int32} {l3 : Int32} {l4 : Int32} {σ : St} {x6 : Int32} {o : ((Int32 × St) ⊕ (Int32 × St))} (X : Cx V Γ M_X12_choiceAt) {A : ((Int32 × St) ⊕ (Int32 × St)) → Prop}  (hr : ∀ (r : Int32) (σ9 : St), A (.inr (r, σ9)) → (some (.int r), σ9) = fin) (hb39 : ∀ (x6 : Int32) (σ9 : St), A (.inl (x6, σ9)) → Go V Γ M_X12_choiceAt (Zm V Γ 4 fin) 39 [(0, .ref (V.2.2.1 + 92)), (2, .int l2), (3, .int l3), (4, .int l4), (6, .int x6)] [] σ9) (h : Mo_choiceAt_L39 l2 l3 l4 σ x6 = some o) (hA : A o) : Go V Γ M_X12_choiceAt (Zm V Γ 4 fin) 39 [(0, .ref (V.2.2.1 + 92)), (2, .int l2), (3, .int l3), (4, .int l4), (6, .int x6)] [] σ := by
  unfold Mo_choiceAt_L39 at h
  refine g_iload (pc := 39) X 4 rfl dX12_choiceAt_39 ?_
  refine g_aload_n (pc := 41) X 0 rfl dX12_choiceAt_41 ?_
  refine g_iload_n (pc := 42) X 1 rfl dX12_choiceAt_42 ?_
  obtain ⟨r2, hc1, h⟩ := bd_e h
  refine g_callV (pc := 43) X k_ml_X12_373 (run_Mo_allWays  hc1) s_92 rfl (room_ok (Nat.le_of_ble_eq_true rfl) (Nat.le_of_ble_eq_true rfl)) ⟨Nat.le_refl _, Nat.le_refl _⟩ _ rfl (Nat.le_of_ble_eq_true rfl) dX12_choiceAt_43 ?_
  show Go V Γ M_X12_choiceAt (Zm V Γ 4 fin) 46 [(0, .ref (V.2.2.1 + 92)), (2, .int l2), (3, .int l3), (4, .int l4), (6, .int x6)] [.int r2, .int x6] σ
  refine g_icmp_ge (pc := 46) (tgt := 83) X dX12_choiceAt_46 rfl (fun c16 => ?_) (fun c16 => ?_)
  · replace h := if_t c16 h
    refine g_aload_n (pc := 83) X 0 rfl dX12_choiceAt_83 ?_
    refine g_bipush (v := 6) (pc := 84) X (by decide) dX12_choiceAt_84 ?_
    obtain ⟨r4, σ5, hc3, h⟩ := bd2_e h
    refine g_callV (pc := 86) X k_ml_X12_88 (run_Mo_refuse  hc3) s_92 rfl (room_ok (Nat.le_of_ble_eq_true rfl) (Nat.le_of_ble_eq_true rfl)) ⟨Nat.le_refl _, Nat.le_refl _⟩ _ rfl (Nat.le_of_ble_eq_true rfl) dX12_choiceAt_86 ?_
    show Go V Γ M_X12_choiceAt (Zm V Γ 4 fin) 89 [(0, .ref (V.2.2.1 + 92)), (2, .int l2), (3, .int l3), (4, .int l4), (6, .int x6)] [.int r4] σ5
    cases h
    exact g_iret (pc := 89) X rfl rfl (hr _ _ hA) dX12_choiceAt_89
  · replace h := if_f c16 h
    refine g_aload_n (pc := 49) X 0 rfl dX12_choiceAt_49 ?_
    refine g_iload (pc := 50) X 4 rfl dX12_choiceAt_50 ?_
    refine g_iload_n (pc := 52) X 1 rfl dX12_choiceAt_52 ?_
    obtain ⟨σ7, hc6, h⟩ := bd_e h
    refine g_callV (pc := 53) X k_ml_X12_376 (run_Mo_laysWay  hc6) s_92 rfl (room_ok (Nat.le_of_ble_eq_true rfl) (Nat.le_of_ble_eq_true rfl)) ⟨Nat.le_refl _, Nat.le_refl _⟩ _ rfl (Nat.le_of_ble_eq_true rfl) dX12_choiceAt_53 ?_
    show Go V Γ M_X12_choiceAt (Zm V Γ 4 fin) 56 [(0, .ref (V.2.2.1 + 92)), (2, .int l2), (3, .int l3), (4, .int l4), (6, .int x6)] [] σ7
    refine g_aload_n (pc := 56) X 0 rfl dX12_choiceAt_56 ?_
    refine g_iload_n (pc := 57) X 1 rfl dX12_choiceAt_57 ?_
    refine g_iload_n (pc := 58) X 2 rfl dX12_choiceAt_58 ?_
    obtain ⟨r9, hc8, h⟩ := bd_e h
    refine g_callV (pc := 59) X k_ml_X12_379 (run_Mo_isGood  hc8) s_92 rfl (room_ok (Nat.le_of_ble_eq_true rfl) (Nat.le_of_ble_eq_true rfl)) ⟨Nat.le_refl _, Nat.le_refl _⟩ _ rfl (Nat.le_of_ble_eq_true rfl) dX12_choiceAt_59 ?_
    show Go V Γ M_X12_choiceAt (Zm V Γ 4 fin) 62 [(0, .ref (V.2.2.1 + 92)), (2, .int l2), (3, .int l3), (4, .int l4), (6, .int x6)] [.int r9] σ7
    refine g_if_eq (pc := 62) (tgt := 77) X dX12_choiceAt_62 rfl (fun c15 => ?_) (fun c15 => ?_)
    · replace h := if_t c15 h
      obtain ⟨v10, e_v10, h⟩ := bnd_e h
      refine g_iinc (pc := 77) (v := v10) X [(6, .int v10), (0, .ref (V.2.2.1 + 92)), (2, .int l2), (3, .int l3), (4, .int l4)] 4 rfl (by rw [e_v10]; rfl) (Nat.le_of_ble_eq_true rfl) rfl dX12_choiceAt_77 ?_
      refine g_goto (pc := 80) (tgt := 39) X dX12_choiceAt_80 rfl ?_
      refine g_sub [1, 2, 3, 4, 0] rfl ?_
      cases h
      exact hb39 _ _ hA
    · replace h := if_f c15 h
      refine g_aload_n (pc := 65) X 0 rfl dX12_choiceAt_65 ?_
      refine g_aload_n (pc := 66) X 0 rfl dX12_choiceAt_66 ?_
      refine g_getR (r := 106) (pc := 67) X k_fl_X12_63 s_92 rfl dX12_choiceAt_67 ?_
      refine g_iload (pc := 70) X 3 rfl dX12_choiceAt_70 ?_
      obtain ⟨c11, h⟩ := chk_e h
      refine g_iald (pc := 72) X s_106 c11 dX12_choiceAt_72 ?_
      obtain ⟨r13, σ14, hc12, h⟩ := bd2_e h
      refine g_callV (pc := 73) X k_ml_X12_92 (run_Mo_gives  hc12) s_92 rfl (room_ok (Nat.le_of_ble_eq_true rfl) (Nat.le_of_ble_eq_true rfl)) ⟨Nat.le_refl _, Nat.le_refl _⟩ _ rfl (Nat.le_of_ble_eq_true rfl) dX12_choiceAt_73 ?_
      show Go V Γ M_X12_choiceAt (Zm V Γ 4 fin) 76 [(0, .ref (V.2.2.1 + 92)), (2, .int l2), (3, .int l3), (4, .int l4), (6, .int x6)] [.int r13] σ14
      cases h
      exact g_iret (pc := 76) X rfl rfl (hr _ _ hA) dX12_choiceAt_76
set_option maxRecDepth 100000 in
theorem tl_Mo_choiceAt_L39 {V : Ev} {Γ : Cn} {fin : Option Value × St} {l2 : Int32} {l3 : Int32} {l4 : Int32} {x6 : Int32} {σ9 : St} (X : Cx V Γ M_X12_choiceAt)  {e : (Int32 × St)} {A : (Int32 × St) → Prop} (hr : ∀ (r : Int32) (σ9 : St), A (r, σ9) → (some (.int r), σ9) = fin) {n : Nat} (h : iter (fun s : (Int32 × St) => Mo_choiceAt_L39 l2 l3 l4 s.2 s.1) n (x6, σ9) = some e) (hA : A e) : Go V Γ M_X12_choiceAt (Zm V Γ 4 fin) 39 [(0, .ref (V.2.2.1 + 92)), (2, .int l2), (3, .int l3), (4, .int l4), (6, .int x6)] [] σ9 := by
  refine iter_go (G := (fun s : (Int32 × St) => Go V Γ M_X12_choiceAt (Zm V Γ 4 fin) 39 [(0, .ref (V.2.2.1 + 92)), (2, .int l2), (3, .int l3), (4, .int l4), (6, .int s.1)] [] s.2)) (fun s o ho hS => ?_) n (x6, σ9) h
  exact tb_Mo_choiceAt_L39 X  (fun z0 z1 he => hr z0 z1 (by rw [he]; exact hA)) (fun _ _ h9 => h9) ho hS
noncomputable def Mo_choiceAt_J22 (σ : St) (l2 : Int32) (l3 : Int32) (l4 : Int32) (s0 : Int32) : Option ((Int32 × St)) :=
  if s0 ≤ 0 then (iter (fun s : (Int32 × St) => Mo_choiceAt_L39 l2 l3 l4 s.2 s.1) FUEL (0, σ)) else (bd2 (Mo_refuse σ s0) (fun r18 σ19 => some (r18, σ19)))
set_option maxRecDepth 100000 in
set_option maxHeartbeats 4000000 in
theorem tj_Mo_choiceAt_J22 {V : Ev} {Γ : Cn} {fin : Option Value × St} {σ : St} {l2 : Int32} {l3 : Int32} {l4 : Int32} {s0 : Int32} {o : (Int32 × St)} (X : Cx V Γ M_X12_choiceAt) {A : (Int32 × St) → Prop}  (hr : ∀ (r : Int32) (σ9 : St), A (r, σ9) → (some (.int r), σ9) = fin) (h : Mo_choiceAt_J22 σ l2 l3 l4 s0 = some o) (hA : A o) : Go V Γ M_X12_choiceAt (Zm V Γ 4 fin) 22 [(0, .ref (V.2.2.1 + 92)), (2, .int l2), (3, .int l3), (4, .int l4)] [.int s0] σ := by
  unfold Mo_choiceAt_J22 at h
  refine g_istore (pc := 22) X [(5, .int s0), (0, .ref (V.2.2.1 + 92)), (2, .int l2), (3, .int l3), (4, .int l4)] (Nat.le_of_ble_eq_true rfl) rfl dX12_choiceAt_22 ?_
  refine g_iload (pc := 24) X 0 rfl dX12_choiceAt_24 ?_
  refine g_if_le (pc := 26) (tgt := 36) X dX12_choiceAt_26 rfl (fun c20 => ?_) (fun c20 => ?_)
  · replace h := if_t c20 h
    refine g_iconst (v := 0) (pc := 36) X rfl dX12_choiceAt_36 ?_
    refine g_istore (pc := 37) X [(6, .int 0), (5, .int s0), (0, .ref (V.2.2.1 + 92)), (2, .int l2), (3, .int l3), (4, .int l4)] (Nat.le_of_ble_eq_true rfl) rfl dX12_choiceAt_37 ?_
    refine g_sub [2, 3, 4, 5, 0] rfl ?_
    exact tl_Mo_choiceAt_L39 X  hr h hA
  · replace h := if_f c20 h
    refine g_aload_n (pc := 29) X 1 rfl dX12_choiceAt_29 ?_
    refine g_iload (pc := 30) X 0 rfl dX12_choiceAt_30 ?_
    obtain ⟨r18, σ19, hc17, h⟩ := bd2_e h
    refine g_callV (pc := 32) X k_ml_X12_88 (run_Mo_refuse  hc17) s_92 rfl (room_ok (Nat.le_of_ble_eq_true rfl) (Nat.le_of_ble_eq_true rfl)) ⟨Nat.le_refl _, Nat.le_refl _⟩ _ rfl (Nat.le_of_ble_eq_true rfl) dX12_choiceAt_32 ?_
    show Go V Γ M_X12_choiceAt (Zm V Γ 4 fin) 35 [(5, .int s0), (0, .ref (V.2.2.1 + 92)), (2, .int l2), (3, .int l3), (4, .int l4)] [.int r18] σ19
    cases h
    exact g_iret (pc := 35) X rfl rfl (hr _ _ hA) dX12_choiceAt_35
noncomputable def Mo_choiceAt (σ : St) (p1 : Int32) (p2 : Int32) (p3 : Int32) (p4 : Int32) : Option (Int32 × St) :=
  if p4 < 0 then (Mo_choiceAt_J22 σ p2 p3 p4 1) else (if p4 < p2 then (bd2 (Mo_wrongChoices σ p1 p2 p3) (fun r22 σ23 => Mo_choiceAt_J22 σ23 p2 p3 p4 r22)) else (Mo_choiceAt_J22 σ p2 p3 p4 1))
set_option maxRecDepth 100000 in
set_option maxHeartbeats 4000000 in
theorem tm_Mo_choiceAt {V : Ev} {Γ : Cn} {fin : Option Value × St} {σ : St} {p1 : Int32} {p2 : Int32} {p3 : Int32} {p4 : Int32} {o : (Int32 × St)} (X : Cx V Γ M_X12_choiceAt) {A : (Int32 × St) → Prop}  (hr : ∀ (r : Int32) (σ9 : St), A (r, σ9) → (some (.int r), σ9) = fin) (h : Mo_choiceAt σ p1 p2 p3 p4 = some o) (hA : A o) : Go V Γ M_X12_choiceAt (Zm V Γ 4 fin) 0 [(0, .ref (V.2.2.1 + 92)), (1, .int p1), (2, .int p2), (3, .int p3), (4, .int p4)] [] σ := by
  unfold Mo_choiceAt at h
  refine g_iload (pc := 0) X 4 rfl dX12_choiceAt_0 ?_
  refine g_if_lt (pc := 2) (tgt := 11) X dX12_choiceAt_2 rfl (fun c25 => ?_) (fun c25 => ?_)
  · replace h := if_t c25 h
    refine g_iconst (v := 1) (pc := 11) X rfl dX12_choiceAt_11 ?_
    refine g_goto (pc := 12) (tgt := 22) X dX12_choiceAt_12 rfl ?_
    refine g_sub [0, 2, 3, 4] rfl ?_
    exact tj_Mo_choiceAt_J22 X  hr h hA
  · replace h := if_f c25 h
    refine g_iload (pc := 5) X 4 rfl dX12_choiceAt_5 ?_
    refine g_iload_n (pc := 7) X 2 rfl dX12_choiceAt_7 ?_
    refine g_icmp_lt (pc := 8) (tgt := 15) X dX12_choiceAt_8 rfl (fun c24 => ?_) (fun c24 => ?_)
    · replace h := if_t c24 h
      refine g_aload_n (pc := 15) X 0 rfl dX12_choiceAt_15 ?_
      refine g_iload_n (pc := 16) X 1 rfl dX12_choiceAt_16 ?_
      refine g_iload_n (pc := 17) X 2 rfl dX12_choiceAt_17 ?_
      refine g_iload_n (pc := 18) X 3 rfl dX12_choiceAt_18 ?_
      obtain ⟨r22, σ23, hc21, h⟩ := bd2_e h
      refine g_callV (pc := 19) X k_ml_X12_369 (run_Mo_wrongChoices  hc21) s_92 rfl (room_ok (Nat.le_of_ble_eq_true rfl) (Nat.le_of_ble_eq_true rfl)) ⟨Nat.le_refl _, Nat.le_refl _⟩ _ rfl (Nat.le_of_ble_eq_true rfl) dX12_choiceAt_19 ?_
      show Go V Γ M_X12_choiceAt (Zm V Γ 4 fin) 22 [(0, .ref (V.2.2.1 + 92)), (1, .int p1), (2, .int p2), (3, .int p3), (4, .int p4)] [.int r22] σ23
      refine g_sub [0, 2, 3, 4] rfl ?_
      exact tj_Mo_choiceAt_J22 X  hr h hA
    · replace h := if_f c24 h
      refine g_iconst (v := 1) (pc := 11) X rfl dX12_choiceAt_11 ?_
      refine g_goto (pc := 12) (tgt := 22) X dX12_choiceAt_12 rfl ?_
      refine g_sub [0, 2, 3, 4] rfl ?_
      exact tj_Mo_choiceAt_J22 X  hr h hA
set_option maxRecDepth 100000 in
theorem run_Mo_choiceAt {V : Ev} {σ : St} {p1 : Int32} {p2 : Int32} {p3 : Int32} {p4 : Int32} {o : (Int32 × St)}   (h : Mo_choiceAt σ p1 p2 p3 p4 = some o) : Rs V 4 M_X12_choiceAt [.ref (V.2.2.1 + 92), .int p1, .int p2, .int p3, .int p4] σ (some (.int o.1), o.2) := by
  refine Rs.of (by decide +kernel) (Nat.le_of_ble_eq_true rfl) (fun Γ X => ?_)
  exact tm_Mo_choiceAt X (A := fun o1 => o1 = o)  (fun _ _ e => by rw [← e]) h rfl
theorem dX12_worthOf_0 : decode cX12_worthOf 0 = .ok (.aload_n 0, 1) := by decide +kernel
theorem dX12_worthOf_1 : decode cX12_worthOf 1 = .ok (.iload_n 1, 1) := by decide +kernel
theorem dX12_worthOf_2 : decode cX12_worthOf 2 = .ok (.invokevirtual 262, 3) := by decide +kernel
theorem dX12_worthOf_5 : decode cX12_worthOf 5 = .ok (.ifCond .eq 20, 3) := by decide +kernel
theorem dX12_worthOf_8 : decode cX12_worthOf 8 = .ok (.aload_n 0, 1) := by decide +kernel
theorem dX12_worthOf_9 : decode cX12_worthOf 9 = .ok (.iconst 0, 1) := by decide +kernel
theorem dX12_worthOf_10 : decode cX12_worthOf 10 = .ok (.invokevirtual 277, 3) := by decide +kernel
theorem dX12_worthOf_13 : decode cX12_worthOf 13 = .ok (.sipush 5040, 3) := by decide +kernel
theorem dX12_worthOf_16 : decode cX12_worthOf 16 = .ok (.imul, 1) := by decide +kernel
theorem dX12_worthOf_17 : decode cX12_worthOf 17 = .ok (.aload_n 0, 1) := by decide +kernel
theorem dX12_worthOf_18 : decode cX12_worthOf 18 = .ok (.getfield 253, 3) := by decide +kernel
theorem dX12_worthOf_21 : decode cX12_worthOf 21 = .ok (.idiv, 1) := by decide +kernel
theorem dX12_worthOf_22 : decode cX12_worthOf 22 = .ok (.goto 4, 3) := by decide +kernel
theorem dX12_worthOf_25 : decode cX12_worthOf 25 = .ok (.iconst (-1), 1) := by decide +kernel
theorem dX12_worthOf_26 : decode cX12_worthOf 26 = .ok (.ireturn, 1) := by decide +kernel
noncomputable def Mo_worthOf (σ : St) (p1 : Int32) : Option (Int32 × St) :=
  bd2 (Mo_lays σ p1) (fun r2 σ3 => if r2 = 0 then (some ((-1), σ3)) else (bd (Mo_justBy σ3 0) (fun r5 => chk (nzI (σ3.1 92 23)) (some (((r5 * 5040) / (σ3.1 92 23)), σ3)))))
set_option maxRecDepth 100000 in
set_option maxHeartbeats 4000000 in
theorem tm_Mo_worthOf {V : Ev} {Γ : Cn} {fin : Option Value × St} {σ : St} {p1 : Int32} {o : (Int32 × St)} (X : Cx V Γ M_X12_worthOf) {A : (Int32 × St) → Prop}  (hr : ∀ (r : Int32) (σ9 : St), A (r, σ9) → (some (.int r), σ9) = fin) (h : Mo_worthOf σ p1 = some o) (hA : A o) : Go V Γ M_X12_worthOf (Zm V Γ 4 fin) 0 [(0, .ref (V.2.2.1 + 92)), (1, .int p1)] [] σ := by
  unfold Mo_worthOf at h
  refine g_aload_n (pc := 0) X 0 rfl dX12_worthOf_0 ?_
  refine g_iload_n (pc := 1) X 1 rfl dX12_worthOf_1 ?_
  obtain ⟨r2, σ3, hc1, h⟩ := bd2_e h
  refine g_callV (pc := 2) X k_ml_X12_262 (run_Mo_lays  hc1) s_92 rfl (room_ok (Nat.le_of_ble_eq_true rfl) (Nat.le_of_ble_eq_true rfl)) ⟨Nat.le_refl _, Nat.le_refl _⟩ _ rfl (Nat.le_of_ble_eq_true rfl) dX12_worthOf_2 ?_
  show Go V Γ M_X12_worthOf (Zm V Γ 4 fin) 5 [(0, .ref (V.2.2.1 + 92)), (1, .int p1)] [.int r2] σ3
  refine g_if_eq (pc := 5) (tgt := 25) X dX12_worthOf_5 rfl (fun c7 => ?_) (fun c7 => ?_)
  · replace h := if_t c7 h
    refine g_iconst (v := (-1)) (pc := 25) X rfl dX12_worthOf_25 ?_
    cases h
    exact g_iret (pc := 26) X rfl rfl (hr _ _ hA) dX12_worthOf_26
  · replace h := if_f c7 h
    refine g_aload_n (pc := 8) X 0 rfl dX12_worthOf_8 ?_
    refine g_iconst (v := 0) (pc := 9) X rfl dX12_worthOf_9 ?_
    obtain ⟨r5, hc4, h⟩ := bd_e h
    refine g_callV (pc := 10) X k_ml_X12_277 (run_Mo_justBy  hc4) s_92 rfl (room_ok (Nat.le_of_ble_eq_true rfl) (Nat.le_of_ble_eq_true rfl)) ⟨Nat.le_refl _, Nat.le_refl _⟩ _ rfl (Nat.le_of_ble_eq_true rfl) dX12_worthOf_10 ?_
    show Go V Γ M_X12_worthOf (Zm V Γ 4 fin) 13 [(0, .ref (V.2.2.1 + 92)), (1, .int p1)] [.int r5] σ3
    refine g_sipush (v := 5040) (pc := 13) X (by decide) dX12_worthOf_13 ?_
    refine g_imul (pc := 16) X dX12_worthOf_16 ?_
    refine g_aload_n (pc := 17) X 0 rfl dX12_worthOf_17 ?_
    refine g_getI (pc := 18) X k_fl_X12_253 s_92 rfl dX12_worthOf_18 ?_
    obtain ⟨c6, h⟩ := chk_e h
    refine g_idiv (pc := 21) X (nzI_e c6) dX12_worthOf_21 ?_
    refine g_goto (pc := 22) (tgt := 26) X dX12_worthOf_22 rfl ?_
    cases h
    exact g_iret (pc := 26) X rfl rfl (hr _ _ hA) dX12_worthOf_26
set_option maxRecDepth 100000 in
theorem run_Mo_worthOf {V : Ev} {σ : St} {p1 : Int32} {o : (Int32 × St)}   (h : Mo_worthOf σ p1 = some o) : Rs V 4 M_X12_worthOf [.ref (V.2.2.1 + 92), .int p1] σ (some (.int o.1), o.2) := by
  refine Rs.of (by decide +kernel) (Nat.le_of_ble_eq_true rfl) (fun Γ X => ?_)
  exact tm_Mo_worthOf X (A := fun o1 => o1 = o)  (fun _ _ e => by rw [← e]) h rfl
theorem dX12_afterBy_0 : decode cX12_afterBy 0 = .ok (.iload_n 2, 1) := by decide +kernel
theorem dX12_afterBy_1 : decode cX12_afterBy 1 = .ok (.aload_n 0, 1) := by decide +kernel
theorem dX12_afterBy_2 : decode cX12_afterBy 2 = .ok (.getfield 7, 3) := by decide +kernel
theorem dX12_afterBy_5 : decode cX12_afterBy 5 = .ok (.iconst 0, 1) := by decide +kernel
theorem dX12_afterBy_6 : decode cX12_afterBy 6 = .ok (.iaload, 1) := by decide +kernel
theorem dX12_afterBy_7 : decode cX12_afterBy 7 = .ok (.if_icmp .ne 7, 3) := by decide +kernel
theorem dX12_afterBy_10 : decode cX12_afterBy 10 = .ok (.iload_n 1, 1) := by decide +kernel
theorem dX12_afterBy_11 : decode cX12_afterBy 11 = .ok (.goto 8, 3) := by decide +kernel
theorem dX12_afterBy_14 : decode cX12_afterBy 14 = .ok (.iload_n 1, 1) := by decide +kernel
theorem dX12_afterBy_15 : decode cX12_afterBy 15 = .ok (.iconst 1, 1) := by decide +kernel
theorem dX12_afterBy_16 : decode cX12_afterBy 16 = .ok (.iload_n 2, 1) := by decide +kernel
theorem dX12_afterBy_17 : decode cX12_afterBy 17 = .ok (.ishl, 1) := by decide +kernel
theorem dX12_afterBy_18 : decode cX12_afterBy 18 = .ok (.ixor, 1) := by decide +kernel
theorem dX12_afterBy_19 : decode cX12_afterBy 19 = .ok (.ireturn, 1) := by decide +kernel
noncomputable def Mo_afterBy (σ : St) (p1 : Int32) (p2 : Int32) : Option Int32 :=
  chk (ix 0 2060) (if p2 = (σ.1 93 (tn 0)) then (some p1) else (some (p1 ^^^ (1 <<< (p2 &&& 31)))))
set_option maxRecDepth 100000 in
set_option maxHeartbeats 4000000 in
theorem tm_Mo_afterBy {V : Ev} {Γ : Cn} {fin : Option Value × St} {σ : St} {p1 : Int32} {p2 : Int32} {o : Int32} (X : Cx V Γ M_X12_afterBy) {A : Int32 → Prop}  (hr : ∀ (r : Int32), A r → (some (.int r), σ) = fin) (h : Mo_afterBy σ p1 p2 = some o) (hA : A o) : Go V Γ M_X12_afterBy (Zm V Γ 0 fin) 0 [(0, .ref (V.2.2.1 + 92)), (1, .int p1), (2, .int p2)] [] σ := by
  unfold Mo_afterBy at h
  refine g_iload_n (pc := 0) X 2 rfl dX12_afterBy_0 ?_
  refine g_aload_n (pc := 1) X 0 rfl dX12_afterBy_1 ?_
  refine g_getR (r := 93) (pc := 2) X k_fl_X12_7 s_92 rfl dX12_afterBy_2 ?_
  refine g_iconst (v := 0) (pc := 5) X rfl dX12_afterBy_5 ?_
  obtain ⟨c1, h⟩ := chk_e h
  refine g_iald (pc := 6) X s_93 c1 dX12_afterBy_6 ?_
  refine g_icmp_ne (pc := 7) (tgt := 14) X dX12_afterBy_7 rfl (fun c2 => ?_) (fun c2 => ?_)
  · replace h := if_f c2 h
    refine g_iload_n (pc := 14) X 1 rfl dX12_afterBy_14 ?_
    refine g_iconst (v := 1) (pc := 15) X rfl dX12_afterBy_15 ?_
    refine g_iload_n (pc := 16) X 2 rfl dX12_afterBy_16 ?_
    refine g_ishl (pc := 17) X dX12_afterBy_17 ?_
    refine g_ixor (pc := 18) X dX12_afterBy_18 ?_
    cases h
    exact g_iret (pc := 19) X rfl rfl (hr _ hA) dX12_afterBy_19
  · replace h := if_t c2 h
    refine g_iload_n (pc := 10) X 1 rfl dX12_afterBy_10 ?_
    refine g_goto (pc := 11) (tgt := 19) X dX12_afterBy_11 rfl ?_
    cases h
    exact g_iret (pc := 19) X rfl rfl (hr _ hA) dX12_afterBy_19
set_option maxRecDepth 100000 in
theorem run_Mo_afterBy {V : Ev} {σ : St} {p1 : Int32} {p2 : Int32} {o : Int32}   (h : Mo_afterBy σ p1 p2 = some o) : Rs V 0 M_X12_afterBy [.ref (V.2.2.1 + 92), .int p1, .int p2] σ (some (.int o), σ) := by
  refine Rs.of (by decide +kernel) (Nat.le_of_ble_eq_true rfl) (fun Γ X => ?_)
  exact tm_Mo_afterBy X (A := fun o1 => o1 = o)  (fun _ e => by rw [e]) h rfl
theorem dX12_leastBy_0 : decode cX12_leastBy 0 = .ok (.iconst (-1), 1) := by decide +kernel
theorem dX12_leastBy_1 : decode cX12_leastBy 1 = .ok (.istore_n 2, 1) := by decide +kernel
theorem dX12_leastBy_2 : decode cX12_leastBy 2 = .ok (.iconst 0, 1) := by decide +kernel
theorem dX12_leastBy_3 : decode cX12_leastBy 3 = .ok (.istore_n 3, 1) := by decide +kernel
theorem dX12_leastBy_4 : decode cX12_leastBy 4 = .ok (.iload_n 3, 1) := by decide +kernel
theorem dX12_leastBy_5 : decode cX12_leastBy 5 = .ok (.aload_n 0, 1) := by decide +kernel
theorem dX12_leastBy_6 : decode cX12_leastBy 6 = .ok (.getfield 7, 3) := by decide +kernel
theorem dX12_leastBy_9 : decode cX12_leastBy 9 = .ok (.iconst 0, 1) := by decide +kernel
theorem dX12_leastBy_10 : decode cX12_leastBy 10 = .ok (.iaload, 1) := by decide +kernel
theorem dX12_leastBy_11 : decode cX12_leastBy 11 = .ok (.if_icmp .gt 41, 3) := by decide +kernel
theorem dX12_leastBy_14 : decode cX12_leastBy 14 = .ok (.aload_n 0, 1) := by decide +kernel
theorem dX12_leastBy_15 : decode cX12_leastBy 15 = .ok (.aload_n 0, 1) := by decide +kernel
theorem dX12_leastBy_16 : decode cX12_leastBy 16 = .ok (.iload_n 1, 1) := by decide +kernel
theorem dX12_leastBy_17 : decode cX12_leastBy 17 = .ok (.iload_n 3, 1) := by decide +kernel
theorem dX12_leastBy_18 : decode cX12_leastBy 18 = .ok (.invokevirtual 382, 3) := by decide +kernel
theorem dX12_leastBy_21 : decode cX12_leastBy 21 = .ok (.invokevirtual 385, 3) := by decide +kernel
theorem dX12_leastBy_24 : decode cX12_leastBy 24 = .ok (.istore 4, 2) := by decide +kernel
theorem dX12_leastBy_26 : decode cX12_leastBy 26 = .ok (.iload 4, 2) := by decide +kernel
theorem dX12_leastBy_28 : decode cX12_leastBy 28 = .ok (.iconst (-1), 1) := by decide +kernel
theorem dX12_leastBy_29 : decode cX12_leastBy 29 = .ok (.if_icmp .eq 17, 3) := by decide +kernel
theorem dX12_leastBy_32 : decode cX12_leastBy 32 = .ok (.iload_n 2, 1) := by decide +kernel
theorem dX12_leastBy_33 : decode cX12_leastBy 33 = .ok (.iconst (-1), 1) := by decide +kernel
theorem dX12_leastBy_34 : decode cX12_leastBy 34 = .ok (.if_icmp .eq 9, 3) := by decide +kernel
theorem dX12_leastBy_37 : decode cX12_leastBy 37 = .ok (.iload 4, 2) := by decide +kernel
theorem dX12_leastBy_39 : decode cX12_leastBy 39 = .ok (.iload_n 2, 1) := by decide +kernel
theorem dX12_leastBy_40 : decode cX12_leastBy 40 = .ok (.if_icmp .ge 6, 3) := by decide +kernel
theorem dX12_leastBy_43 : decode cX12_leastBy 43 = .ok (.iload 4, 2) := by decide +kernel
theorem dX12_leastBy_45 : decode cX12_leastBy 45 = .ok (.istore_n 2, 1) := by decide +kernel
theorem dX12_leastBy_46 : decode cX12_leastBy 46 = .ok (.iinc 3 1, 3) := by decide +kernel
theorem dX12_leastBy_49 : decode cX12_leastBy 49 = .ok (.goto (-45), 3) := by decide +kernel
theorem dX12_leastBy_52 : decode cX12_leastBy 52 = .ok (.iload_n 2, 1) := by decide +kernel
theorem dX12_leastBy_53 : decode cX12_leastBy 53 = .ok (.ireturn, 1) := by decide +kernel
noncomputable def Mo_leastBy_L4 (l1 : Int32) (σ : St) (x2 : Int32) (x3 : Int32) : Option ((Int32 × Int32 × St) ⊕ (Int32 × St)) :=
  chk (ix 0 2060) (if (σ.1 93 (tn 0)) < x3 then (some (.inr (x2, σ))) else (bd (Mo_afterBy σ l1 x3) (fun r3 => bd2 (Mo_worthOf σ r3) (fun r5 σ6 => if r5 = (-1) then (bnd (x3 + 1) (fun v7 => some (.inl (x2, v7, σ6)))) else (if x2 = (-1) then (bnd (x3 + 1) (fun v8 => some (.inl (r5, v8, σ6)))) else (if x2 ≤ r5 then (bnd (x3 + 1) (fun v9 => some (.inl (x2, v9, σ6)))) else (bnd (x3 + 1) (fun v10 => some (.inl (r5, v10, σ6))))))))))
set_option maxRecDepth 100000 in
set_option maxHeartbeats 4000000 in
theorem tb_Mo_leastBy_L4 {V : Ev} {Γ : Cn} {fin : Option Value × St} {l1 : Int32} {σ : St} {x2 : Int32} {x3 : Int32} {o : ((Int32 × Int32 × St) ⊕ (Int32 × St))} (X : Cx V Γ M_X12_leastBy) {A : ((Int32 × Int32 × St) ⊕ (Int32 × St)) → Prop}  (hb4 : ∀ (x2 : Int32) (x3 : Int32) (σ9 : St), A (.inl (x2, x3, σ9)) → Go V Γ M_X12_leastBy (Zm V Γ 5 fin) 4 [(0, .ref (V.2.2.1 + 92)), (1, .int l1), (2, .int x2), (3, .int x3)] [] σ9) (hx4 : ∀ (x2 : Int32) (σ9 : St), A (.inr (x2, σ9)) → Go V Γ M_X12_leastBy (Zm V Γ 5 fin) 52 [(2, .int x2)] [] σ9) (h : Mo_leastBy_L4 l1 σ x2 x3 = some o) (hA : A o) : Go V Γ M_X12_leastBy (Zm V Γ 5 fin) 4 [(0, .ref (V.2.2.1 + 92)), (1, .int l1), (2, .int x2), (3, .int x3)] [] σ := by
  unfold Mo_leastBy_L4 at h
  refine g_iload_n (pc := 4) X 3 rfl dX12_leastBy_4 ?_
  refine g_aload_n (pc := 5) X 0 rfl dX12_leastBy_5 ?_
  refine g_getR (r := 93) (pc := 6) X k_fl_X12_7 s_92 rfl dX12_leastBy_6 ?_
  refine g_iconst (v := 0) (pc := 9) X rfl dX12_leastBy_9 ?_
  obtain ⟨c1, h⟩ := chk_e h
  refine g_iald (pc := 10) X s_93 c1 dX12_leastBy_10 ?_
  refine g_icmp_gt (pc := 11) (tgt := 52) X dX12_leastBy_11 rfl (fun c14 => ?_) (fun c14 => ?_)
  · replace h := if_t c14 h
    refine g_sub [2] rfl ?_
    cases h
    exact hx4 _ _ hA
  · replace h := if_f c14 h
    refine g_aload_n (pc := 14) X 0 rfl dX12_leastBy_14 ?_
    refine g_aload_n (pc := 15) X 0 rfl dX12_leastBy_15 ?_
    refine g_iload_n (pc := 16) X 1 rfl dX12_leastBy_16 ?_
    refine g_iload_n (pc := 17) X 3 rfl dX12_leastBy_17 ?_
    obtain ⟨r3, hc2, h⟩ := bd_e h
    refine g_callV (pc := 18) X k_ml_X12_382 (run_Mo_afterBy  hc2) s_92 rfl (room_ok (Nat.le_of_ble_eq_true rfl) (Nat.le_of_ble_eq_true rfl)) ⟨Nat.le_refl _, Nat.le_refl _⟩ _ rfl (Nat.le_of_ble_eq_true rfl) dX12_leastBy_18 ?_
    show Go V Γ M_X12_leastBy (Zm V Γ 5 fin) 21 [(0, .ref (V.2.2.1 + 92)), (1, .int l1), (2, .int x2), (3, .int x3)] [.int r3, .ref (V.2.2.1 + 92)] σ
    obtain ⟨r5, σ6, hc4, h⟩ := bd2_e h
    refine g_callV (pc := 21) X k_ml_X12_385 (run_Mo_worthOf  hc4) s_92 rfl (room_ok (Nat.le_of_ble_eq_true rfl) (Nat.le_of_ble_eq_true rfl)) ⟨Nat.le_refl _, Nat.le_refl _⟩ _ rfl (Nat.le_of_ble_eq_true rfl) dX12_leastBy_21 ?_
    show Go V Γ M_X12_leastBy (Zm V Γ 5 fin) 24 [(0, .ref (V.2.2.1 + 92)), (1, .int l1), (2, .int x2), (3, .int x3)] [.int r5] σ6
    refine g_istore (pc := 24) X [(4, .int r5), (0, .ref (V.2.2.1 + 92)), (1, .int l1), (2, .int x2), (3, .int x3)] (Nat.le_of_ble_eq_true rfl) rfl dX12_leastBy_24 ?_
    refine g_iload (pc := 26) X 0 rfl dX12_leastBy_26 ?_
    refine g_iconst (v := (-1)) (pc := 28) X rfl dX12_leastBy_28 ?_
    refine g_icmp_eq (pc := 29) (tgt := 46) X dX12_leastBy_29 rfl (fun c13 => ?_) (fun c13 => ?_)
    · replace h := if_t c13 h
      obtain ⟨v7, e_v7, h⟩ := bnd_e h
      refine g_iinc (pc := 46) (v := v7) X [(3, .int v7), (4, .int r5), (0, .ref (V.2.2.1 + 92)), (1, .int l1), (2, .int x2)] 4 rfl (by rw [e_v7]; rfl) (Nat.le_of_ble_eq_true rfl) rfl dX12_leastBy_46 ?_
      refine g_goto (pc := 49) (tgt := 4) X dX12_leastBy_49 rfl ?_
      refine g_sub [2, 3, 4, 0] rfl ?_
      cases h
      exact hb4 _ _ _ hA
    · replace h := if_f c13 h
      refine g_iload_n (pc := 32) X 3 rfl dX12_leastBy_32 ?_
      refine g_iconst (v := (-1)) (pc := 33) X rfl dX12_leastBy_33 ?_
      refine g_icmp_eq (pc := 34) (tgt := 43) X dX12_leastBy_34 rfl (fun c12 => ?_) (fun c12 => ?_)
      · replace h := if_t c12 h
        refine g_iload (pc := 43) X 0 rfl dX12_leastBy_43 ?_
        refine g_istore_n (pc := 45) X [(2, .int r5), (4, .int r5), (0, .ref (V.2.2.1 + 92)), (1, .int l1), (3, .int x3)] rfl (Nat.le_of_ble_eq_true rfl) rfl dX12_leastBy_45 ?_
        obtain ⟨v8, e_v8, h⟩ := bnd_e h
        refine g_iinc (pc := 46) (v := v8) X [(3, .int v8), (2, .int r5), (4, .int r5), (0, .ref (V.2.2.1 + 92)), (1, .int l1)] 4 rfl (by rw [e_v8]; rfl) (Nat.le_of_ble_eq_true rfl) rfl dX12_leastBy_46 ?_
        refine g_goto (pc := 49) (tgt := 4) X dX12_leastBy_49 rfl ?_
        refine g_sub [3, 4, 1, 0] rfl ?_
        cases h
        exact hb4 _ _ _ hA
      · replace h := if_f c12 h
        refine g_iload (pc := 37) X 0 rfl dX12_leastBy_37 ?_
        refine g_iload_n (pc := 39) X 3 rfl dX12_leastBy_39 ?_
        refine g_icmp_ge (pc := 40) (tgt := 46) X dX12_leastBy_40 rfl (fun c11 => ?_) (fun c11 => ?_)
        · replace h := if_t c11 h
          obtain ⟨v9, e_v9, h⟩ := bnd_e h
          refine g_iinc (pc := 46) (v := v9) X [(3, .int v9), (4, .int r5), (0, .ref (V.2.2.1 + 92)), (1, .int l1), (2, .int x2)] 4 rfl (by rw [e_v9]; rfl) (Nat.le_of_ble_eq_true rfl) rfl dX12_leastBy_46 ?_
          refine g_goto (pc := 49) (tgt := 4) X dX12_leastBy_49 rfl ?_
          refine g_sub [2, 3, 4, 0] rfl ?_
          cases h
          exact hb4 _ _ _ hA
        · replace h := if_f c11 h
          refine g_iload (pc := 43) X 0 rfl dX12_leastBy_43 ?_
          refine g_istore_n (pc := 45) X [(2, .int r5), (4, .int r5), (0, .ref (V.2.2.1 + 92)), (1, .int l1), (3, .int x3)] rfl (Nat.le_of_ble_eq_true rfl) rfl dX12_leastBy_45 ?_
          obtain ⟨v10, e_v10, h⟩ := bnd_e h
          refine g_iinc (pc := 46) (v := v10) X [(3, .int v10), (2, .int r5), (4, .int r5), (0, .ref (V.2.2.1 + 92)), (1, .int l1)] 4 rfl (by rw [e_v10]; rfl) (Nat.le_of_ble_eq_true rfl) rfl dX12_leastBy_46 ?_
          refine g_goto (pc := 49) (tgt := 4) X dX12_leastBy_49 rfl ?_
          refine g_sub [3, 4, 1, 0] rfl ?_
          cases h
          exact hb4 _ _ _ hA
set_option maxRecDepth 100000 in
theorem tl_Mo_leastBy_L4 {V : Ev} {Γ : Cn} {fin : Option Value × St} {l1 : Int32} {x2 : Int32} {x3 : Int32} {σ9 : St} (X : Cx V Γ M_X12_leastBy)  {y2 : Int32} {σ8 : St} {n : Nat} (h : iter (fun s : (Int32 × Int32 × St) => Mo_leastBy_L4 l1 s.2.2 s.1 s.2.1) n (x2, x3, σ9) = some (y2, σ8)) (hK : Go V Γ M_X12_leastBy (Zm V Γ 5 fin) 52 [(2, .int y2)] [] σ8) : Go V Γ M_X12_leastBy (Zm V Γ 5 fin) 4 [(0, .ref (V.2.2.1 + 92)), (1, .int l1), (2, .int x2), (3, .int x3)] [] σ9 := by
  refine iter_go (G := (fun s : (Int32 × Int32 × St) => Go V Γ M_X12_leastBy (Zm V Γ 5 fin) 4 [(0, .ref (V.2.2.1 + 92)), (1, .int l1), (2, .int s.1), (3, .int s.2.1)] [] s.2.2)) (fun s o ho hS => ?_) n (x2, x3, σ9) h
  exact tb_Mo_leastBy_L4 X  (fun _ _ _ h9 => h9) (fun _ _ he => by cases he; exact hK) ho hS
noncomputable def Mo_leastBy (σ : St) (p1 : Int32) : Option (Int32 × St) :=
  bd2 (iter (fun s : (Int32 × Int32 × St) => Mo_leastBy_L4 p1 s.2.2 s.1 s.2.1) FUEL ((-1), 0, σ)) (fun v15 σ16 => some (v15, σ16))
set_option maxRecDepth 100000 in
set_option maxHeartbeats 4000000 in
theorem tm_Mo_leastBy {V : Ev} {Γ : Cn} {fin : Option Value × St} {σ : St} {p1 : Int32} {o : (Int32 × St)} (X : Cx V Γ M_X12_leastBy) {A : (Int32 × St) → Prop}  (hr : ∀ (r : Int32) (σ9 : St), A (r, σ9) → (some (.int r), σ9) = fin) (h : Mo_leastBy σ p1 = some o) (hA : A o) : Go V Γ M_X12_leastBy (Zm V Γ 5 fin) 0 [(0, .ref (V.2.2.1 + 92)), (1, .int p1)] [] σ := by
  unfold Mo_leastBy at h
  refine g_iconst (v := (-1)) (pc := 0) X rfl dX12_leastBy_0 ?_
  refine g_istore_n (pc := 1) X [(2, .int (-1)), (0, .ref (V.2.2.1 + 92)), (1, .int p1)] rfl (Nat.le_of_ble_eq_true rfl) rfl dX12_leastBy_1 ?_
  refine g_iconst (v := 0) (pc := 2) X rfl dX12_leastBy_2 ?_
  refine g_istore_n (pc := 3) X [(3, .int 0), (2, .int (-1)), (0, .ref (V.2.2.1 + 92)), (1, .int p1)] rfl (Nat.le_of_ble_eq_true rfl) rfl dX12_leastBy_3 ?_
  refine g_sub [2, 3, 1, 0] rfl ?_
  obtain ⟨v15, σ16, hi17, h⟩ := bd2_e h
  refine tl_Mo_leastBy_L4 X  hi17 ?_
  refine g_iload_n (pc := 52) X 0 rfl dX12_leastBy_52 ?_
  cases h
  exact g_iret (pc := 53) X rfl rfl (hr _ _ hA) dX12_leastBy_53
set_option maxRecDepth 100000 in
theorem run_Mo_leastBy {V : Ev} {σ : St} {p1 : Int32} {o : (Int32 × St)}   (h : Mo_leastBy σ p1 = some o) : Rs V 5 M_X12_leastBy [.ref (V.2.2.1 + 92), .int p1] σ (some (.int o.1), o.2) := by
  refine Rs.of (by decide +kernel) (Nat.le_of_ble_eq_true rfl) (fun Γ X => ?_)
  exact tm_Mo_leastBy X (A := fun o1 => o1 = o)  (fun _ _ e => by rw [← e]) h rfl
theorem dX12_mostBy_0 : decode cX12_mostBy 0 = .ok (.iconst (-1), 1) := by decide +kernel
theorem dX12_mostBy_1 : decode cX12_mostBy 1 = .ok (.istore_n 3, 1) := by decide +kernel
theorem dX12_mostBy_2 : decode cX12_mostBy 2 = .ok (.aload_n 0, 1) := by decide +kernel
theorem dX12_mostBy_3 : decode cX12_mostBy 3 = .ok (.iconst (-1), 1) := by decide +kernel
theorem dX12_mostBy_4 : decode cX12_mostBy 4 = .ok (.putfield 388, 3) := by decide +kernel
theorem dX12_mostBy_7 : decode cX12_mostBy 7 = .ok (.iconst 0, 1) := by decide +kernel
theorem dX12_mostBy_8 : decode cX12_mostBy 8 = .ok (.istore 4, 2) := by decide +kernel
theorem dX12_mostBy_10 : decode cX12_mostBy 10 = .ok (.iload 4, 2) := by decide +kernel
theorem dX12_mostBy_12 : decode cX12_mostBy 12 = .ok (.aload_n 0, 1) := by decide +kernel
theorem dX12_mostBy_13 : decode cX12_mostBy 13 = .ok (.getfield 7, 3) := by decide +kernel
theorem dX12_mostBy_16 : decode cX12_mostBy 16 = .ok (.iconst 0, 1) := by decide +kernel
theorem dX12_mostBy_17 : decode cX12_mostBy 17 = .ok (.iaload, 1) := by decide +kernel
theorem dX12_mostBy_18 : decode cX12_mostBy 18 = .ok (.if_icmp .gt 72, 3) := by decide +kernel
theorem dX12_mostBy_21 : decode cX12_mostBy 21 = .ok (.aload_n 0, 1) := by decide +kernel
theorem dX12_mostBy_22 : decode cX12_mostBy 22 = .ok (.iload_n 1, 1) := by decide +kernel
theorem dX12_mostBy_23 : decode cX12_mostBy 23 = .ok (.iload 4, 2) := by decide +kernel
theorem dX12_mostBy_25 : decode cX12_mostBy 25 = .ok (.invokevirtual 382, 3) := by decide +kernel
theorem dX12_mostBy_28 : decode cX12_mostBy 28 = .ok (.istore 5, 2) := by decide +kernel
theorem dX12_mostBy_30 : decode cX12_mostBy 30 = .ok (.aload_n 0, 1) := by decide +kernel
theorem dX12_mostBy_31 : decode cX12_mostBy 31 = .ok (.iload 5, 2) := by decide +kernel
theorem dX12_mostBy_33 : decode cX12_mostBy 33 = .ok (.invokevirtual 250, 3) := by decide +kernel
theorem dX12_mostBy_36 : decode cX12_mostBy 36 = .ok (.iconst (-1), 1) := by decide +kernel
theorem dX12_mostBy_37 : decode cX12_mostBy 37 = .ok (.if_icmp .ne 7, 3) := by decide +kernel
theorem dX12_mostBy_40 : decode cX12_mostBy 40 = .ok (.iconst (-1), 1) := by decide +kernel
theorem dX12_mostBy_41 : decode cX12_mostBy 41 = .ok (.goto 23, 3) := by decide +kernel
theorem dX12_mostBy_44 : decode cX12_mostBy 44 = .ok (.iload_n 2, 1) := by decide +kernel
theorem dX12_mostBy_45 : decode cX12_mostBy 45 = .ok (.iconst 1, 1) := by decide +kernel
theorem dX12_mostBy_46 : decode cX12_mostBy 46 = .ok (.if_icmp .ne 12, 3) := by decide +kernel
theorem dX12_mostBy_49 : decode cX12_mostBy 49 = .ok (.aload_n 0, 1) := by decide +kernel
theorem dX12_mostBy_50 : decode cX12_mostBy 50 = .ok (.iload 5, 2) := by decide +kernel
theorem dX12_mostBy_52 : decode cX12_mostBy 52 = .ok (.invokevirtual 385, 3) := by decide +kernel
theorem dX12_mostBy_55 : decode cX12_mostBy 55 = .ok (.goto 9, 3) := by decide +kernel
theorem dX12_mostBy_58 : decode cX12_mostBy 58 = .ok (.aload_n 0, 1) := by decide +kernel
theorem dX12_mostBy_59 : decode cX12_mostBy 59 = .ok (.iload 5, 2) := by decide +kernel
theorem dX12_mostBy_61 : decode cX12_mostBy 61 = .ok (.invokevirtual 391, 3) := by decide +kernel
theorem dX12_mostBy_64 : decode cX12_mostBy 64 = .ok (.istore 6, 2) := by decide +kernel
theorem dX12_mostBy_66 : decode cX12_mostBy 66 = .ok (.iload 6, 2) := by decide +kernel
theorem dX12_mostBy_68 : decode cX12_mostBy 68 = .ok (.iload_n 3, 1) := by decide +kernel
theorem dX12_mostBy_69 : decode cX12_mostBy 69 = .ok (.if_icmp .gt 6, 3) := by decide +kernel
theorem dX12_mostBy_72 : decode cX12_mostBy 72 = .ok (.goto 12, 3) := by decide +kernel
theorem dX12_mostBy_75 : decode cX12_mostBy 75 = .ok (.iload 6, 2) := by decide +kernel
theorem dX12_mostBy_77 : decode cX12_mostBy 77 = .ok (.istore_n 3, 1) := by decide +kernel
theorem dX12_mostBy_78 : decode cX12_mostBy 78 = .ok (.aload_n 0, 1) := by decide +kernel
theorem dX12_mostBy_79 : decode cX12_mostBy 79 = .ok (.iload 4, 2) := by decide +kernel
theorem dX12_mostBy_81 : decode cX12_mostBy 81 = .ok (.putfield 388, 3) := by decide +kernel
theorem dX12_mostBy_84 : decode cX12_mostBy 84 = .ok (.iinc 4 1, 3) := by decide +kernel
theorem dX12_mostBy_87 : decode cX12_mostBy 87 = .ok (.goto (-77), 3) := by decide +kernel
theorem dX12_mostBy_90 : decode cX12_mostBy 90 = .ok (.iload_n 3, 1) := by decide +kernel
theorem dX12_mostBy_91 : decode cX12_mostBy 91 = .ok (.ireturn, 1) := by decide +kernel
noncomputable def Mo_mostBy_J64_10 (σ : St) (l1 : Int32) (l2 : Int32) (l3 : Int32) (l4 : Int32) (s0 : Int32) : Option (((Int32 × Int32 × St) ⊕ (Int32 × St))) :=
  if l3 < s0 then (bnd (wI σ 92 30 l4) (fun σ10 => bnd (l4 + 1) (fun v11 => some (.inl (s0, v11, σ10))))) else (bnd (l4 + 1) (fun v12 => some (.inl (l3, v12, σ))))
set_option maxRecDepth 100000 in
set_option maxHeartbeats 4000000 in
theorem tj_Mo_mostBy_J64_10 {V : Ev} {Γ : Cn} {fin : Option Value × St} {σ : St} {l1 : Int32} {l2 : Int32} {l3 : Int32} {l4 : Int32} {s0 : Int32} {o : ((Int32 × Int32 × St) ⊕ (Int32 × St))} (X : Cx V Γ M_X12_mostBy) {A : ((Int32 × Int32 × St) ⊕ (Int32 × St)) → Prop}  (hb10 : ∀ (x3 : Int32) (x4 : Int32) (σ9 : St), A (.inl (x3, x4, σ9)) → Go V Γ M_X12_mostBy (Zm V Γ 6 fin) 10 [(0, .ref (V.2.2.1 + 92)), (1, .int l1), (2, .int l2), (3, .int x3), (4, .int x4)] [] σ9) (hx10 : ∀ (x3 : Int32) (σ9 : St), A (.inr (x3, σ9)) → Go V Γ M_X12_mostBy (Zm V Γ 6 fin) 90 [(3, .int x3)] [] σ9) (h : Mo_mostBy_J64_10 σ l1 l2 l3 l4 s0 = some o) (hA : A o) : Go V Γ M_X12_mostBy (Zm V Γ 6 fin) 64 [(0, .ref (V.2.2.1 + 92)), (1, .int l1), (2, .int l2), (3, .int l3), (4, .int l4)] [.int s0] σ := by
  unfold Mo_mostBy_J64_10 at h
  refine g_istore (pc := 64) X [(6, .int s0), (0, .ref (V.2.2.1 + 92)), (1, .int l1), (2, .int l2), (3, .int l3), (4, .int l4)] (Nat.le_of_ble_eq_true rfl) rfl dX12_mostBy_64 ?_
  refine g_iload (pc := 66) X 0 rfl dX12_mostBy_66 ?_
  refine g_iload_n (pc := 68) X 4 rfl dX12_mostBy_68 ?_
  refine g_icmp_gt (pc := 69) (tgt := 75) X dX12_mostBy_69 rfl (fun c13 => ?_) (fun c13 => ?_)
  · replace h := if_t c13 h
    refine g_iload (pc := 75) X 0 rfl dX12_mostBy_75 ?_
    refine g_istore_n (pc := 77) X [(3, .int s0), (6, .int s0), (0, .ref (V.2.2.1 + 92)), (1, .int l1), (2, .int l2), (4, .int l4)] rfl (Nat.le_of_ble_eq_true rfl) rfl dX12_mostBy_77 ?_
    refine g_aload_n (pc := 78) X 2 rfl dX12_mostBy_78 ?_
    refine g_iload (pc := 79) X 5 rfl dX12_mostBy_79 ?_
    refine g_putI (pc := 81) X k_fl_X12_388 s_92 rfl rfl rfl dX12_mostBy_81 ?_
    obtain ⟨σ10, e_σ10, h⟩ := bnd_e h
    refine g_nmS e_σ10 ?_
    obtain ⟨v11, e_v11, h⟩ := bnd_e h
    refine g_iinc (pc := 84) (v := v11) X [(4, .int v11), (3, .int s0), (6, .int s0), (0, .ref (V.2.2.1 + 92)), (1, .int l1), (2, .int l2)] 5 rfl (by rw [e_v11]; rfl) (Nat.le_of_ble_eq_true rfl) rfl dX12_mostBy_84 ?_
    refine g_goto (pc := 87) (tgt := 10) X dX12_mostBy_87 rfl ?_
    refine g_sub [3, 4, 5, 1, 0] rfl ?_
    cases h
    exact hb10 _ _ _ hA
  · replace h := if_f c13 h
    refine g_goto (pc := 72) (tgt := 84) X dX12_mostBy_72 rfl ?_
    obtain ⟨v12, e_v12, h⟩ := bnd_e h
    refine g_iinc (pc := 84) (v := v12) X [(4, .int v12), (6, .int s0), (0, .ref (V.2.2.1 + 92)), (1, .int l1), (2, .int l2), (3, .int l3)] 5 rfl (by rw [e_v12]; rfl) (Nat.le_of_ble_eq_true rfl) rfl dX12_mostBy_84 ?_
    refine g_goto (pc := 87) (tgt := 10) X dX12_mostBy_87 rfl ?_
    refine g_sub [2, 3, 4, 5, 0] rfl ?_
    cases h
    exact hb10 _ _ _ hA
noncomputable def Mo_mostBy_L10 (l1 : Int32) (l2 : Int32) (σ : St) (x3 : Int32) (x4 : Int32) : Option ((Int32 × Int32 × St) ⊕ (Int32 × St)) :=
  chk (ix 0 2060) (if (σ.1 93 (tn 0)) < x4 then (some (.inr (x3, σ))) else (bd (Mo_afterBy σ l1 x4) (fun r4 => bd (Mo_spanOf σ r4) (fun r6 => if r6 = (-1) then (Mo_mostBy_J64_10 σ l1 l2 x3 x4 (-1)) else (if l2 = 1 then (bd2 (Mo_worthOf σ r4) (fun r15 σ16 => Mo_mostBy_J64_10 σ16 l1 l2 x3 x4 r15)) else (bd2 (Mo_leastBy σ r4) (fun r8 σ9 => Mo_mostBy_J64_10 σ9 l1 l2 x3 x4 r8)))))))
set_option maxRecDepth 100000 in
set_option maxHeartbeats 4000000 in
theorem tb_Mo_mostBy_L10 {V : Ev} {Γ : Cn} {fin : Option Value × St} {l1 : Int32} {l2 : Int32} {σ : St} {x3 : Int32} {x4 : Int32} {o : ((Int32 × Int32 × St) ⊕ (Int32 × St))} (X : Cx V Γ M_X12_mostBy) {A : ((Int32 × Int32 × St) ⊕ (Int32 × St)) → Prop}  (hb10 : ∀ (x3 : Int32) (x4 : Int32) (σ9 : St), A (.inl (x3, x4, σ9)) → Go V Γ M_X12_mostBy (Zm V Γ 6 fin) 10 [(0, .ref (V.2.2.1 + 92)), (1, .int l1), (2, .int l2), (3, .int x3), (4, .int x4)] [] σ9) (hx10 : ∀ (x3 : Int32) (σ9 : St), A (.inr (x3, σ9)) → Go V Γ M_X12_mostBy (Zm V Γ 6 fin) 90 [(3, .int x3)] [] σ9) (h : Mo_mostBy_L10 l1 l2 σ x3 x4 = some o) (hA : A o) : Go V Γ M_X12_mostBy (Zm V Γ 6 fin) 10 [(0, .ref (V.2.2.1 + 92)), (1, .int l1), (2, .int l2), (3, .int x3), (4, .int x4)] [] σ := by
  unfold Mo_mostBy_L10 at h
  refine g_iload (pc := 10) X 4 rfl dX12_mostBy_10 ?_
  refine g_aload_n (pc := 12) X 0 rfl dX12_mostBy_12 ?_
  refine g_getR (r := 93) (pc := 13) X k_fl_X12_7 s_92 rfl dX12_mostBy_13 ?_
  refine g_iconst (v := 0) (pc := 16) X rfl dX12_mostBy_16 ?_
  obtain ⟨c2, h⟩ := chk_e h
  refine g_iald (pc := 17) X s_93 c2 dX12_mostBy_17 ?_
  refine g_icmp_gt (pc := 18) (tgt := 90) X dX12_mostBy_18 rfl (fun c19 => ?_) (fun c19 => ?_)
  · replace h := if_t c19 h
    refine g_sub [3] rfl ?_
    cases h
    exact hx10 _ _ hA
  · replace h := if_f c19 h
    refine g_aload_n (pc := 21) X 0 rfl dX12_mostBy_21 ?_
    refine g_iload_n (pc := 22) X 1 rfl dX12_mostBy_22 ?_
    refine g_iload (pc := 23) X 4 rfl dX12_mostBy_23 ?_
    obtain ⟨r4, hc3, h⟩ := bd_e h
    refine g_callV (pc := 25) X k_ml_X12_382 (run_Mo_afterBy  hc3) s_92 rfl (room_ok (Nat.le_of_ble_eq_true rfl) (Nat.le_of_ble_eq_true rfl)) ⟨Nat.le_refl _, Nat.le_refl _⟩ _ rfl (Nat.le_of_ble_eq_true rfl) dX12_mostBy_25 ?_
    show Go V Γ M_X12_mostBy (Zm V Γ 6 fin) 28 [(0, .ref (V.2.2.1 + 92)), (1, .int l1), (2, .int l2), (3, .int x3), (4, .int x4)] [.int r4] σ
    refine g_istore (pc := 28) X [(5, .int r4), (0, .ref (V.2.2.1 + 92)), (1, .int l1), (2, .int l2), (3, .int x3), (4, .int x4)] (Nat.le_of_ble_eq_true rfl) rfl dX12_mostBy_28 ?_
    refine g_aload_n (pc := 30) X 1 rfl dX12_mostBy_30 ?_
    refine g_iload (pc := 31) X 0 rfl dX12_mostBy_31 ?_
    obtain ⟨r6, hc5, h⟩ := bd_e h
    refine g_callV (pc := 33) X k_ml_X12_250 (run_Mo_spanOf  hc5) s_92 rfl (room_ok (Nat.le_of_ble_eq_true rfl) (Nat.le_of_ble_eq_true rfl)) ⟨Nat.le_refl _, Nat.le_refl _⟩ _ rfl (Nat.le_of_ble_eq_true rfl) dX12_mostBy_33 ?_
    show Go V Γ M_X12_mostBy (Zm V Γ 6 fin) 36 [(5, .int r4), (0, .ref (V.2.2.1 + 92)), (1, .int l1), (2, .int l2), (3, .int x3), (4, .int x4)] [.int r6] σ
    refine g_iconst (v := (-1)) (pc := 36) X rfl dX12_mostBy_36 ?_
    refine g_icmp_ne (pc := 37) (tgt := 44) X dX12_mostBy_37 rfl (fun c18 => ?_) (fun c18 => ?_)
    · replace h := if_f c18 h
      refine g_iload_n (pc := 44) X 3 rfl dX12_mostBy_44 ?_
      refine g_iconst (v := 1) (pc := 45) X rfl dX12_mostBy_45 ?_
      refine g_icmp_ne (pc := 46) (tgt := 58) X dX12_mostBy_46 rfl (fun c17 => ?_) (fun c17 => ?_)
      · replace h := if_f c17 h
        refine g_aload_n (pc := 58) X 1 rfl dX12_mostBy_58 ?_
        refine g_iload (pc := 59) X 0 rfl dX12_mostBy_59 ?_
        obtain ⟨r8, σ9, hc7, h⟩ := bd2_e h
        refine g_callV (pc := 61) X k_ml_X12_391 (run_Mo_leastBy  hc7) s_92 rfl (room_ok (Nat.le_of_ble_eq_true rfl) (Nat.le_of_ble_eq_true rfl)) ⟨Nat.le_refl _, Nat.le_refl _⟩ _ rfl (Nat.le_of_ble_eq_true rfl) dX12_mostBy_61 ?_
        show Go V Γ M_X12_mostBy (Zm V Γ 6 fin) 64 [(5, .int r4), (0, .ref (V.2.2.1 + 92)), (1, .int l1), (2, .int l2), (3, .int x3), (4, .int x4)] [.int r8] σ9
        refine g_sub [1, 2, 3, 4, 5] rfl ?_
        exact tj_Mo_mostBy_J64_10 X  hb10 hx10 h hA
      · replace h := if_t c17 h
        refine g_aload_n (pc := 49) X 1 rfl dX12_mostBy_49 ?_
        refine g_iload (pc := 50) X 0 rfl dX12_mostBy_50 ?_
        obtain ⟨r15, σ16, hc14, h⟩ := bd2_e h
        refine g_callV (pc := 52) X k_ml_X12_385 (run_Mo_worthOf  hc14) s_92 rfl (room_ok (Nat.le_of_ble_eq_true rfl) (Nat.le_of_ble_eq_true rfl)) ⟨Nat.le_refl _, Nat.le_refl _⟩ _ rfl (Nat.le_of_ble_eq_true rfl) dX12_mostBy_52 ?_
        show Go V Γ M_X12_mostBy (Zm V Γ 6 fin) 55 [(5, .int r4), (0, .ref (V.2.2.1 + 92)), (1, .int l1), (2, .int l2), (3, .int x3), (4, .int x4)] [.int r15] σ16
        refine g_goto (pc := 55) (tgt := 64) X dX12_mostBy_55 rfl ?_
        refine g_sub [1, 2, 3, 4, 5] rfl ?_
        exact tj_Mo_mostBy_J64_10 X  hb10 hx10 h hA
    · replace h := if_t c18 h
      refine g_iconst (v := (-1)) (pc := 40) X rfl dX12_mostBy_40 ?_
      refine g_goto (pc := 41) (tgt := 64) X dX12_mostBy_41 rfl ?_
      refine g_sub [1, 2, 3, 4, 5] rfl ?_
      exact tj_Mo_mostBy_J64_10 X  hb10 hx10 h hA
set_option maxRecDepth 100000 in
theorem tl_Mo_mostBy_L10 {V : Ev} {Γ : Cn} {fin : Option Value × St} {l1 : Int32} {l2 : Int32} {x3 : Int32} {x4 : Int32} {σ9 : St} (X : Cx V Γ M_X12_mostBy)  {y3 : Int32} {σ8 : St} {n : Nat} (h : iter (fun s : (Int32 × Int32 × St) => Mo_mostBy_L10 l1 l2 s.2.2 s.1 s.2.1) n (x3, x4, σ9) = some (y3, σ8)) (hK : Go V Γ M_X12_mostBy (Zm V Γ 6 fin) 90 [(3, .int y3)] [] σ8) : Go V Γ M_X12_mostBy (Zm V Γ 6 fin) 10 [(0, .ref (V.2.2.1 + 92)), (1, .int l1), (2, .int l2), (3, .int x3), (4, .int x4)] [] σ9 := by
  refine iter_go (G := (fun s : (Int32 × Int32 × St) => Go V Γ M_X12_mostBy (Zm V Γ 6 fin) 10 [(0, .ref (V.2.2.1 + 92)), (1, .int l1), (2, .int l2), (3, .int s.1), (4, .int s.2.1)] [] s.2.2)) (fun s o ho hS => ?_) n (x3, x4, σ9) h
  exact tb_Mo_mostBy_L10 X  (fun _ _ _ h9 => h9) (fun _ _ he => by cases he; exact hK) ho hS
noncomputable def Mo_mostBy (σ : St) (p1 : Int32) (p2 : Int32) : Option (Int32 × St) :=
  bnd (wI σ 92 30 (-1)) (fun σ1 => bd2 (iter (fun s : (Int32 × Int32 × St) => Mo_mostBy_L10 p1 p2 s.2.2 s.1 s.2.1) FUEL ((-1), 0, σ1)) (fun v20 σ21 => some (v20, σ21)))
set_option maxRecDepth 100000 in
set_option maxHeartbeats 4000000 in
theorem tm_Mo_mostBy {V : Ev} {Γ : Cn} {fin : Option Value × St} {σ : St} {p1 : Int32} {p2 : Int32} {o : (Int32 × St)} (X : Cx V Γ M_X12_mostBy) {A : (Int32 × St) → Prop}  (hr : ∀ (r : Int32) (σ9 : St), A (r, σ9) → (some (.int r), σ9) = fin) (h : Mo_mostBy σ p1 p2 = some o) (hA : A o) : Go V Γ M_X12_mostBy (Zm V Γ 6 fin) 0 [(0, .ref (V.2.2.1 + 92)), (1, .int p1), (2, .int p2)] [] σ := by
  unfold Mo_mostBy at h
  refine g_iconst (v := (-1)) (pc := 0) X rfl dX12_mostBy_0 ?_
  refine g_istore_n (pc := 1) X [(3, .int (-1)), (0, .ref (V.2.2.1 + 92)), (1, .int p1), (2, .int p2)] rfl (Nat.le_of_ble_eq_true rfl) rfl dX12_mostBy_1 ?_
  refine g_aload_n (pc := 2) X 1 rfl dX12_mostBy_2 ?_
  refine g_iconst (v := (-1)) (pc := 3) X rfl dX12_mostBy_3 ?_
  refine g_putI (pc := 4) X k_fl_X12_388 s_92 rfl rfl rfl dX12_mostBy_4 ?_
  obtain ⟨σ1, e_σ1, h⟩ := bnd_e h
  refine g_nmS e_σ1 ?_
  refine g_iconst (v := 0) (pc := 7) X rfl dX12_mostBy_7 ?_
  refine g_istore (pc := 8) X [(4, .int 0), (3, .int (-1)), (0, .ref (V.2.2.1 + 92)), (1, .int p1), (2, .int p2)] (Nat.le_of_ble_eq_true rfl) rfl dX12_mostBy_8 ?_
  refine g_sub [2, 3, 4, 1, 0] rfl ?_
  obtain ⟨v20, σ21, hi22, h⟩ := bd2_e h
  refine tl_Mo_mostBy_L10 X  hi22 ?_
  refine g_iload_n (pc := 90) X 0 rfl dX12_mostBy_90 ?_
  cases h
  exact g_iret (pc := 91) X rfl rfl (hr _ _ hA) dX12_mostBy_91
set_option maxRecDepth 100000 in
theorem run_Mo_mostBy {V : Ev} {σ : St} {p1 : Int32} {p2 : Int32} {o : (Int32 × St)}   (h : Mo_mostBy σ p1 p2 = some o) : Rs V 6 M_X12_mostBy [.ref (V.2.2.1 + 92), .int p1, .int p2] σ (some (.int o.1), o.2) := by
  refine Rs.of (by decide +kernel) (Nat.le_of_ble_eq_true rfl) (fun Γ X => ?_)
  exact tm_Mo_mostBy X (A := fun o1 => o1 = o)  (fun _ _ e => by rw [← e]) h rfl
theorem dX12_wrongGame_0 : decode cX12_wrongGame 0 = .ok (.iload_n 1, 1) := by decide +kernel
theorem dX12_wrongGame_1 : decode cX12_wrongGame 1 = .ok (.i2l, 1) := by decide +kernel
theorem dX12_wrongGame_2 : decode cX12_wrongGame 2 = .ok (.iload_n 2, 1) := by decide +kernel
theorem dX12_wrongGame_3 : decode cX12_wrongGame 3 = .ok (.i2l, 1) := by decide +kernel
theorem dX12_wrongGame_4 : decode cX12_wrongGame 4 = .ok (.ldc2_w 311, 3) := by decide +kernel
theorem dX12_wrongGame_7 : decode cX12_wrongGame 7 = .ok (.invokestatic 270, 3) := by decide +kernel
theorem dX12_wrongGame_10 : decode cX12_wrongGame 10 = .ok (.ifCond .ne 7, 3) := by decide +kernel
theorem dX12_wrongGame_13 : decode cX12_wrongGame 13 = .ok (.iconst 1, 1) := by decide +kernel
theorem dX12_wrongGame_14 : decode cX12_wrongGame 14 = .ok (.goto 21, 3) := by decide +kernel
theorem dX12_wrongGame_17 : decode cX12_wrongGame 17 = .ok (.aload_n 0, 1) := by decide +kernel
theorem dX12_wrongGame_18 : decode cX12_wrongGame 18 = .ok (.aload_n 0, 1) := by decide +kernel
theorem dX12_wrongGame_19 : decode cX12_wrongGame 19 = .ok (.invokevirtual 259, 3) := by decide +kernel
theorem dX12_wrongGame_22 : decode cX12_wrongGame 22 = .ok (.invokevirtual 250, 3) := by decide +kernel
theorem dX12_wrongGame_25 : decode cX12_wrongGame 25 = .ok (.iconst (-1), 1) := by decide +kernel
theorem dX12_wrongGame_26 : decode cX12_wrongGame 26 = .ok (.if_icmp .ne 8, 3) := by decide +kernel
theorem dX12_wrongGame_29 : decode cX12_wrongGame 29 = .ok (.bipush 7, 2) := by decide +kernel
theorem dX12_wrongGame_31 : decode cX12_wrongGame 31 = .ok (.goto 4, 3) := by decide +kernel
theorem dX12_wrongGame_34 : decode cX12_wrongGame 34 = .ok (.iconst 0, 1) := by decide +kernel
theorem dX12_wrongGame_35 : decode cX12_wrongGame 35 = .ok (.ireturn, 1) := by decide +kernel
noncomputable def Mo_wrongGame (σ : St) (p1 : Int32) (p2 : Int32) : Option Int32 :=
  bd (Mo_isFrom p1.toInt64 p2.toInt64 2) (fun r2 => if r2 = 0 then (some 1) else (bd (Mo_onSet σ) (fun r4 => bd (Mo_spanOf σ r4) (fun r6 => if r6 = (-1) then (some 7) else (some 0)))))
set_option maxRecDepth 100000 in
set_option maxHeartbeats 4000000 in
theorem tm_Mo_wrongGame {V : Ev} {Γ : Cn} {fin : Option Value × St} {σ : St} {p1 : Int32} {p2 : Int32} {o : Int32} (X : Cx V Γ M_X12_wrongGame) {A : Int32 → Prop}  (hr : ∀ (r : Int32), A r → (some (.int r), σ) = fin) (h : Mo_wrongGame σ p1 p2 = some o) (hA : A o) : Go V Γ M_X12_wrongGame (Zm V Γ 3 fin) 0 [(0, .ref (V.2.2.1 + 92)), (1, .int p1), (2, .int p2)] [] σ := by
  unfold Mo_wrongGame at h
  refine g_iload_n (pc := 0) X 1 rfl dX12_wrongGame_0 ?_
  refine g_i2l (pc := 1) X dX12_wrongGame_1 ?_
  refine g_iload_n (pc := 2) X 2 rfl dX12_wrongGame_2 ?_
  refine g_i2l (pc := 3) X dX12_wrongGame_3 ?_
  refine g_ldc2 (v := 2) (pc := 4) X k_constl_X12_311 dX12_wrongGame_4 ?_
  obtain ⟨r2, hc1, h⟩ := bd_e h
  refine g_callS (pc := 7) X k_ml_X12_270 (run_Mo_isFrom  hc1) rfl (room_ok (Nat.le_of_ble_eq_true rfl) (Nat.le_of_ble_eq_true rfl)) ⟨Nat.le_refl _, Nat.le_refl _⟩ _ rfl (Nat.le_of_ble_eq_true rfl) dX12_wrongGame_7 ?_
  show Go V Γ M_X12_wrongGame (Zm V Γ 3 fin) 10 [(0, .ref (V.2.2.1 + 92)), (1, .int p1), (2, .int p2)] [.int r2] σ
  refine g_if_ne (pc := 10) (tgt := 17) X dX12_wrongGame_10 rfl (fun c8 => ?_) (fun c8 => ?_)
  · replace h := if_f c8 h
    refine g_aload_n (pc := 17) X 0 rfl dX12_wrongGame_17 ?_
    refine g_aload_n (pc := 18) X 0 rfl dX12_wrongGame_18 ?_
    obtain ⟨r4, hc3, h⟩ := bd_e h
    refine g_callV (pc := 19) X k_ml_X12_259 (run_Mo_onSet  hc3) s_92 rfl (room_ok (Nat.le_of_ble_eq_true rfl) (Nat.le_of_ble_eq_true rfl)) ⟨Nat.le_refl _, Nat.le_refl _⟩ _ rfl (Nat.le_of_ble_eq_true rfl) dX12_wrongGame_19 ?_
    show Go V Γ M_X12_wrongGame (Zm V Γ 3 fin) 22 [(0, .ref (V.2.2.1 + 92)), (1, .int p1), (2, .int p2)] [.int r4, .ref (V.2.2.1 + 92)] σ
    obtain ⟨r6, hc5, h⟩ := bd_e h
    refine g_callV (pc := 22) X k_ml_X12_250 (run_Mo_spanOf  hc5) s_92 rfl (room_ok (Nat.le_of_ble_eq_true rfl) (Nat.le_of_ble_eq_true rfl)) ⟨Nat.le_refl _, Nat.le_refl _⟩ _ rfl (Nat.le_of_ble_eq_true rfl) dX12_wrongGame_22 ?_
    show Go V Γ M_X12_wrongGame (Zm V Γ 3 fin) 25 [(0, .ref (V.2.2.1 + 92)), (1, .int p1), (2, .int p2)] [.int r6] σ
    refine g_iconst (v := (-1)) (pc := 25) X rfl dX12_wrongGame_25 ?_
    refine g_icmp_ne (pc := 26) (tgt := 34) X dX12_wrongGame_26 rfl (fun c7 => ?_) (fun c7 => ?_)
    · replace h := if_f c7 h
      refine g_iconst (v := 0) (pc := 34) X rfl dX12_wrongGame_34 ?_
      cases h
      exact g_iret (pc := 35) X rfl rfl (hr _ hA) dX12_wrongGame_35
    · replace h := if_t c7 h
      refine g_bipush (v := 7) (pc := 29) X (by decide) dX12_wrongGame_29 ?_
      refine g_goto (pc := 31) (tgt := 35) X dX12_wrongGame_31 rfl ?_
      cases h
      exact g_iret (pc := 35) X rfl rfl (hr _ hA) dX12_wrongGame_35
  · replace h := if_t c8 h
    refine g_iconst (v := 1) (pc := 13) X rfl dX12_wrongGame_13 ?_
    refine g_goto (pc := 14) (tgt := 35) X dX12_wrongGame_14 rfl ?_
    cases h
    exact g_iret (pc := 35) X rfl rfl (hr _ hA) dX12_wrongGame_35
set_option maxRecDepth 100000 in
theorem run_Mo_wrongGame {V : Ev} {σ : St} {p1 : Int32} {p2 : Int32} {o : Int32}   (h : Mo_wrongGame σ p1 p2 = some o) : Rs V 3 M_X12_wrongGame [.ref (V.2.2.1 + 92), .int p1, .int p2] σ (some (.int o), σ) := by
  refine Rs.of (by decide +kernel) (Nat.le_of_ble_eq_true rfl) (fun Γ X => ?_)
  exact tm_Mo_wrongGame X (A := fun o1 => o1 = o)  (fun _ e => by rw [e]) h rfl
theorem dX12_game_0 : decode cX12_game 0 = .ok (.aload_n 0, 1) := by decide +kernel
theorem dX12_game_1 : decode cX12_game 1 = .ok (.iload_n 1, 1) := by decide +kernel
theorem dX12_game_2 : decode cX12_game 2 = .ok (.iconst 0, 1) := by decide +kernel
theorem dX12_game_3 : decode cX12_game 3 = .ok (.invokevirtual 394, 3) := by decide +kernel
theorem dX12_game_6 : decode cX12_game 6 = .ok (.istore_n 2, 1) := by decide +kernel
theorem dX12_game_7 : decode cX12_game 7 = .ok (.iload_n 2, 1) := by decide +kernel
theorem dX12_game_8 : decode cX12_game 8 = .ok (.ifCond .le 9, 3) := by decide +kernel
theorem dX12_game_11 : decode cX12_game 11 = .ok (.aload_n 0, 1) := by decide +kernel
theorem dX12_game_12 : decode cX12_game 12 = .ok (.iload_n 2, 1) := by decide +kernel
theorem dX12_game_13 : decode cX12_game 13 = .ok (.invokevirtual 88, 3) := by decide +kernel
theorem dX12_game_16 : decode cX12_game 16 = .ok (.ireturn, 1) := by decide +kernel
theorem dX12_game_17 : decode cX12_game 17 = .ok (.aload_n 0, 1) := by decide +kernel
theorem dX12_game_18 : decode cX12_game 18 = .ok (.iload_n 1, 1) := by decide +kernel
theorem dX12_game_19 : decode cX12_game 19 = .ok (.ifCond .ne 14, 3) := by decide +kernel
theorem dX12_game_22 : decode cX12_game 22 = .ok (.aload_n 0, 1) := by decide +kernel
theorem dX12_game_23 : decode cX12_game 23 = .ok (.aload_n 0, 1) := by decide +kernel
theorem dX12_game_24 : decode cX12_game 24 = .ok (.invokevirtual 259, 3) := by decide +kernel
theorem dX12_game_27 : decode cX12_game 27 = .ok (.invokevirtual 385, 3) := by decide +kernel
theorem dX12_game_30 : decode cX12_game 30 = .ok (.goto 12, 3) := by decide +kernel
theorem dX12_game_33 : decode cX12_game 33 = .ok (.aload_n 0, 1) := by decide +kernel
theorem dX12_game_34 : decode cX12_game 34 = .ok (.aload_n 0, 1) := by decide +kernel
theorem dX12_game_35 : decode cX12_game 35 = .ok (.invokevirtual 259, 3) := by decide +kernel
theorem dX12_game_38 : decode cX12_game 38 = .ok (.iload_n 1, 1) := by decide +kernel
theorem dX12_game_39 : decode cX12_game 39 = .ok (.invokevirtual 397, 3) := by decide +kernel
theorem dX12_game_42 : decode cX12_game 42 = .ok (.invokevirtual 92, 3) := by decide +kernel
theorem dX12_game_45 : decode cX12_game 45 = .ok (.ireturn, 1) := by decide +kernel
noncomputable def Mo_game (σ : St) (p1 : Int32) : Option (Int32 × St) :=
  bd (Mo_wrongGame σ p1 0) (fun r2 => if r2 ≤ 0 then (if p1 = 0 then (bd (Mo_onSet σ) (fun r12 => bd2 (Mo_worthOf σ r12) (fun r14 σ15 => bd2 (Mo_gives σ15 r14) (fun r17 σ18 => some (r17, σ18))))) else (bd (Mo_onSet σ) (fun r4 => bd2 (Mo_mostBy σ r4 p1) (fun r6 σ7 => bd2 (Mo_gives σ7 r6) (fun r9 σ10 => some (r9, σ10)))))) else (bd2 (Mo_refuse σ r2) (fun r21 σ22 => some (r21, σ22))))
set_option maxRecDepth 100000 in
set_option maxHeartbeats 4000000 in
theorem tm_Mo_game {V : Ev} {Γ : Cn} {fin : Option Value × St} {σ : St} {p1 : Int32} {o : (Int32 × St)} (X : Cx V Γ M_X12_game) {A : (Int32 × St) → Prop}  (hr : ∀ (r : Int32) (σ9 : St), A (r, σ9) → (some (.int r), σ9) = fin) (h : Mo_game σ p1 = some o) (hA : A o) : Go V Γ M_X12_game (Zm V Γ 7 fin) 0 [(0, .ref (V.2.2.1 + 92)), (1, .int p1)] [] σ := by
  unfold Mo_game at h
  refine g_aload_n (pc := 0) X 0 rfl dX12_game_0 ?_
  refine g_iload_n (pc := 1) X 1 rfl dX12_game_1 ?_
  refine g_iconst (v := 0) (pc := 2) X rfl dX12_game_2 ?_
  obtain ⟨r2, hc1, h⟩ := bd_e h
  refine g_callV (pc := 3) X k_ml_X12_394 (run_Mo_wrongGame  hc1) s_92 rfl (room_ok (Nat.le_of_ble_eq_true rfl) (Nat.le_of_ble_eq_true rfl)) ⟨Nat.le_refl _, Nat.le_refl _⟩ _ rfl (Nat.le_of_ble_eq_true rfl) dX12_game_3 ?_
  show Go V Γ M_X12_game (Zm V Γ 7 fin) 6 [(0, .ref (V.2.2.1 + 92)), (1, .int p1)] [.int r2] σ
  refine g_istore_n (pc := 6) X [(2, .int r2), (0, .ref (V.2.2.1 + 92)), (1, .int p1)] rfl (Nat.le_of_ble_eq_true rfl) rfl dX12_game_6 ?_
  refine g_iload_n (pc := 7) X 0 rfl dX12_game_7 ?_
  refine g_if_le (pc := 8) (tgt := 17) X dX12_game_8 rfl (fun c23 => ?_) (fun c23 => ?_)
  · replace h := if_t c23 h
    refine g_aload_n (pc := 17) X 1 rfl dX12_game_17 ?_
    refine g_iload_n (pc := 18) X 2 rfl dX12_game_18 ?_
    refine g_if_ne (pc := 19) (tgt := 33) X dX12_game_19 rfl (fun c19 => ?_) (fun c19 => ?_)
    · replace h := if_f c19 h
      refine g_aload_n (pc := 33) X 1 rfl dX12_game_33 ?_
      refine g_aload_n (pc := 34) X 1 rfl dX12_game_34 ?_
      obtain ⟨r4, hc3, h⟩ := bd_e h
      refine g_callV (pc := 35) X k_ml_X12_259 (run_Mo_onSet  hc3) s_92 rfl (room_ok (Nat.le_of_ble_eq_true rfl) (Nat.le_of_ble_eq_true rfl)) ⟨Nat.le_refl _, Nat.le_refl _⟩ _ rfl (Nat.le_of_ble_eq_true rfl) dX12_game_35 ?_
      show Go V Γ M_X12_game (Zm V Γ 7 fin) 38 [(2, .int r2), (0, .ref (V.2.2.1 + 92)), (1, .int p1)] [.int r4, .ref (V.2.2.1 + 92), .ref (V.2.2.1 + 92)] σ
      refine g_iload_n (pc := 38) X 2 rfl dX12_game_38 ?_
      obtain ⟨r6, σ7, hc5, h⟩ := bd2_e h
      refine g_callV (pc := 39) X k_ml_X12_397 (run_Mo_mostBy  hc5) s_92 rfl (room_ok (Nat.le_of_ble_eq_true rfl) (Nat.le_of_ble_eq_true rfl)) ⟨Nat.le_refl _, Nat.le_refl _⟩ _ rfl (Nat.le_of_ble_eq_true rfl) dX12_game_39 ?_
      show Go V Γ M_X12_game (Zm V Γ 7 fin) 42 [(2, .int r2), (0, .ref (V.2.2.1 + 92)), (1, .int p1)] [.int r6, .ref (V.2.2.1 + 92)] σ7
      obtain ⟨r9, σ10, hc8, h⟩ := bd2_e h
      refine g_callV (pc := 42) X k_ml_X12_92 (run_Mo_gives  hc8) s_92 rfl (room_ok (Nat.le_of_ble_eq_true rfl) (Nat.le_of_ble_eq_true rfl)) ⟨Nat.le_refl _, Nat.le_refl _⟩ _ rfl (Nat.le_of_ble_eq_true rfl) dX12_game_42 ?_
      show Go V Γ M_X12_game (Zm V Γ 7 fin) 45 [(2, .int r2), (0, .ref (V.2.2.1 + 92)), (1, .int p1)] [.int r9] σ10
      cases h
      exact g_iret (pc := 45) X rfl rfl (hr _ _ hA) dX12_game_45
    · replace h := if_t c19 h
      refine g_aload_n (pc := 22) X 1 rfl dX12_game_22 ?_
      refine g_aload_n (pc := 23) X 1 rfl dX12_game_23 ?_
      obtain ⟨r12, hc11, h⟩ := bd_e h
      refine g_callV (pc := 24) X k_ml_X12_259 (run_Mo_onSet  hc11) s_92 rfl (room_ok (Nat.le_of_ble_eq_true rfl) (Nat.le_of_ble_eq_true rfl)) ⟨Nat.le_refl _, Nat.le_refl _⟩ _ rfl (Nat.le_of_ble_eq_true rfl) dX12_game_24 ?_
      show Go V Γ M_X12_game (Zm V Γ 7 fin) 27 [(2, .int r2), (0, .ref (V.2.2.1 + 92)), (1, .int p1)] [.int r12, .ref (V.2.2.1 + 92), .ref (V.2.2.1 + 92)] σ
      obtain ⟨r14, σ15, hc13, h⟩ := bd2_e h
      refine g_callV (pc := 27) X k_ml_X12_385 (run_Mo_worthOf  hc13) s_92 rfl (room_ok (Nat.le_of_ble_eq_true rfl) (Nat.le_of_ble_eq_true rfl)) ⟨Nat.le_refl _, Nat.le_refl _⟩ _ rfl (Nat.le_of_ble_eq_true rfl) dX12_game_27 ?_
      show Go V Γ M_X12_game (Zm V Γ 7 fin) 30 [(2, .int r2), (0, .ref (V.2.2.1 + 92)), (1, .int p1)] [.int r14, .ref (V.2.2.1 + 92)] σ15
      refine g_goto (pc := 30) (tgt := 42) X dX12_game_30 rfl ?_
      obtain ⟨r17, σ18, hc16, h⟩ := bd2_e h
      refine g_callV (pc := 42) X k_ml_X12_92 (run_Mo_gives  hc16) s_92 rfl (room_ok (Nat.le_of_ble_eq_true rfl) (Nat.le_of_ble_eq_true rfl)) ⟨Nat.le_refl _, Nat.le_refl _⟩ _ rfl (Nat.le_of_ble_eq_true rfl) dX12_game_42 ?_
      show Go V Γ M_X12_game (Zm V Γ 7 fin) 45 [(2, .int r2), (0, .ref (V.2.2.1 + 92)), (1, .int p1)] [.int r17] σ18
      cases h
      exact g_iret (pc := 45) X rfl rfl (hr _ _ hA) dX12_game_45
  · replace h := if_f c23 h
    refine g_aload_n (pc := 11) X 1 rfl dX12_game_11 ?_
    refine g_iload_n (pc := 12) X 0 rfl dX12_game_12 ?_
    obtain ⟨r21, σ22, hc20, h⟩ := bd2_e h
    refine g_callV (pc := 13) X k_ml_X12_88 (run_Mo_refuse  hc20) s_92 rfl (room_ok (Nat.le_of_ble_eq_true rfl) (Nat.le_of_ble_eq_true rfl)) ⟨Nat.le_refl _, Nat.le_refl _⟩ _ rfl (Nat.le_of_ble_eq_true rfl) dX12_game_13 ?_
    show Go V Γ M_X12_game (Zm V Γ 7 fin) 16 [(2, .int r2), (0, .ref (V.2.2.1 + 92)), (1, .int p1)] [.int r21] σ22
    cases h
    exact g_iret (pc := 16) X rfl rfl (hr _ _ hA) dX12_game_16
set_option maxRecDepth 100000 in
theorem run_Mo_game {V : Ev} {σ : St} {p1 : Int32} {o : (Int32 × St)}   (h : Mo_game σ p1 = some o) : Rs V 7 M_X12_game [.ref (V.2.2.1 + 92), .int p1] σ (some (.int o.1), o.2) := by
  refine Rs.of (by decide +kernel) (Nat.le_of_ble_eq_true rfl) (fun Γ X => ?_)
  exact tm_Mo_game X (A := fun o1 => o1 = o)  (fun _ _ e => by rw [← e]) h rfl
theorem dX12_moveOf_0 : decode cX12_moveOf 0 = .ok (.aload_n 0, 1) := by decide +kernel
theorem dX12_moveOf_1 : decode cX12_moveOf 1 = .ok (.iload_n 1, 1) := by decide +kernel
theorem dX12_moveOf_2 : decode cX12_moveOf 2 = .ok (.iconst 1, 1) := by decide +kernel
theorem dX12_moveOf_3 : decode cX12_moveOf 3 = .ok (.invokevirtual 394, 3) := by decide +kernel
theorem dX12_moveOf_6 : decode cX12_moveOf 6 = .ok (.istore_n 2, 1) := by decide +kernel
theorem dX12_moveOf_7 : decode cX12_moveOf 7 = .ok (.iload_n 2, 1) := by decide +kernel
theorem dX12_moveOf_8 : decode cX12_moveOf 8 = .ok (.ifCond .le 9, 3) := by decide +kernel
theorem dX12_moveOf_11 : decode cX12_moveOf 11 = .ok (.aload_n 0, 1) := by decide +kernel
theorem dX12_moveOf_12 : decode cX12_moveOf 12 = .ok (.iload_n 2, 1) := by decide +kernel
theorem dX12_moveOf_13 : decode cX12_moveOf 13 = .ok (.invokevirtual 88, 3) := by decide +kernel
theorem dX12_moveOf_16 : decode cX12_moveOf 16 = .ok (.ireturn, 1) := by decide +kernel
theorem dX12_moveOf_17 : decode cX12_moveOf 17 = .ok (.aload_n 0, 1) := by decide +kernel
theorem dX12_moveOf_18 : decode cX12_moveOf 18 = .ok (.aload_n 0, 1) := by decide +kernel
theorem dX12_moveOf_19 : decode cX12_moveOf 19 = .ok (.invokevirtual 259, 3) := by decide +kernel
theorem dX12_moveOf_22 : decode cX12_moveOf 22 = .ok (.iload_n 1, 1) := by decide +kernel
theorem dX12_moveOf_23 : decode cX12_moveOf 23 = .ok (.invokevirtual 397, 3) := by decide +kernel
theorem dX12_moveOf_26 : decode cX12_moveOf 26 = .ok (.pop, 1) := by decide +kernel
theorem dX12_moveOf_27 : decode cX12_moveOf 27 = .ok (.aload_n 0, 1) := by decide +kernel
theorem dX12_moveOf_28 : decode cX12_moveOf 28 = .ok (.getfield 388, 3) := by decide +kernel
theorem dX12_moveOf_31 : decode cX12_moveOf 31 = .ok (.aload_n 0, 1) := by decide +kernel
theorem dX12_moveOf_32 : decode cX12_moveOf 32 = .ok (.getfield 7, 3) := by decide +kernel
theorem dX12_moveOf_35 : decode cX12_moveOf 35 = .ok (.iconst 0, 1) := by decide +kernel
theorem dX12_moveOf_36 : decode cX12_moveOf 36 = .ok (.iaload, 1) := by decide +kernel
theorem dX12_moveOf_37 : decode cX12_moveOf 37 = .ok (.if_icmp .ne 12, 3) := by decide +kernel
theorem dX12_moveOf_40 : decode cX12_moveOf 40 = .ok (.aload_n 0, 1) := by decide +kernel
theorem dX12_moveOf_41 : decode cX12_moveOf 41 = .ok (.bipush 6, 2) := by decide +kernel
theorem dX12_moveOf_43 : decode cX12_moveOf 43 = .ok (.invokevirtual 88, 3) := by decide +kernel
theorem dX12_moveOf_46 : decode cX12_moveOf 46 = .ok (.goto 11, 3) := by decide +kernel
theorem dX12_moveOf_49 : decode cX12_moveOf 49 = .ok (.aload_n 0, 1) := by decide +kernel
theorem dX12_moveOf_50 : decode cX12_moveOf 50 = .ok (.aload_n 0, 1) := by decide +kernel
theorem dX12_moveOf_51 : decode cX12_moveOf 51 = .ok (.getfield 388, 3) := by decide +kernel
theorem dX12_moveOf_54 : decode cX12_moveOf 54 = .ok (.invokevirtual 92, 3) := by decide +kernel
theorem dX12_moveOf_57 : decode cX12_moveOf 57 = .ok (.ireturn, 1) := by decide +kernel
noncomputable def Mo_moveOf (σ : St) (p1 : Int32) : Option (Int32 × St) :=
  bd (Mo_wrongGame σ p1 1) (fun r2 => if r2 ≤ 0 then (bd (Mo_onSet σ) (fun r4 => bd2 (Mo_mostBy σ r4 p1) (fun r6 σ7 => chk (ix 0 2060) (if (σ7.1 92 30) = (σ7.1 93 (tn 0)) then (bd2 (Mo_refuse σ7 6) (fun r13 σ14 => some (r13, σ14))) else (bd2 (Mo_gives σ7 (σ7.1 92 30)) (fun r10 σ11 => some (r10, σ11))))))) else (bd2 (Mo_refuse σ r2) (fun r17 σ18 => some (r17, σ18))))
set_option maxRecDepth 100000 in
set_option maxHeartbeats 4000000 in
theorem tm_Mo_moveOf {V : Ev} {Γ : Cn} {fin : Option Value × St} {σ : St} {p1 : Int32} {o : (Int32 × St)} (X : Cx V Γ M_X12_moveOf) {A : (Int32 × St) → Prop}  (hr : ∀ (r : Int32) (σ9 : St), A (r, σ9) → (some (.int r), σ9) = fin) (h : Mo_moveOf σ p1 = some o) (hA : A o) : Go V Γ M_X12_moveOf (Zm V Γ 7 fin) 0 [(0, .ref (V.2.2.1 + 92)), (1, .int p1)] [] σ := by
  unfold Mo_moveOf at h
  refine g_aload_n (pc := 0) X 0 rfl dX12_moveOf_0 ?_
  refine g_iload_n (pc := 1) X 1 rfl dX12_moveOf_1 ?_
  refine g_iconst (v := 1) (pc := 2) X rfl dX12_moveOf_2 ?_
  obtain ⟨r2, hc1, h⟩ := bd_e h
  refine g_callV (pc := 3) X k_ml_X12_394 (run_Mo_wrongGame  hc1) s_92 rfl (room_ok (Nat.le_of_ble_eq_true rfl) (Nat.le_of_ble_eq_true rfl)) ⟨Nat.le_refl _, Nat.le_refl _⟩ _ rfl (Nat.le_of_ble_eq_true rfl) dX12_moveOf_3 ?_
  show Go V Γ M_X12_moveOf (Zm V Γ 7 fin) 6 [(0, .ref (V.2.2.1 + 92)), (1, .int p1)] [.int r2] σ
  refine g_istore_n (pc := 6) X [(2, .int r2), (0, .ref (V.2.2.1 + 92)), (1, .int p1)] rfl (Nat.le_of_ble_eq_true rfl) rfl dX12_moveOf_6 ?_
  refine g_iload_n (pc := 7) X 0 rfl dX12_moveOf_7 ?_
  refine g_if_le (pc := 8) (tgt := 17) X dX12_moveOf_8 rfl (fun c19 => ?_) (fun c19 => ?_)
  · replace h := if_t c19 h
    refine g_aload_n (pc := 17) X 1 rfl dX12_moveOf_17 ?_
    refine g_aload_n (pc := 18) X 1 rfl dX12_moveOf_18 ?_
    obtain ⟨r4, hc3, h⟩ := bd_e h
    refine g_callV (pc := 19) X k_ml_X12_259 (run_Mo_onSet  hc3) s_92 rfl (room_ok (Nat.le_of_ble_eq_true rfl) (Nat.le_of_ble_eq_true rfl)) ⟨Nat.le_refl _, Nat.le_refl _⟩ _ rfl (Nat.le_of_ble_eq_true rfl) dX12_moveOf_19 ?_
    show Go V Γ M_X12_moveOf (Zm V Γ 7 fin) 22 [(2, .int r2), (0, .ref (V.2.2.1 + 92)), (1, .int p1)] [.int r4, .ref (V.2.2.1 + 92)] σ
    refine g_iload_n (pc := 22) X 2 rfl dX12_moveOf_22 ?_
    obtain ⟨r6, σ7, hc5, h⟩ := bd2_e h
    refine g_callV (pc := 23) X k_ml_X12_397 (run_Mo_mostBy  hc5) s_92 rfl (room_ok (Nat.le_of_ble_eq_true rfl) (Nat.le_of_ble_eq_true rfl)) ⟨Nat.le_refl _, Nat.le_refl _⟩ _ rfl (Nat.le_of_ble_eq_true rfl) dX12_moveOf_23 ?_
    show Go V Γ M_X12_moveOf (Zm V Γ 7 fin) 26 [(2, .int r2), (0, .ref (V.2.2.1 + 92)), (1, .int p1)] [.int r6] σ7
    refine g_pop (pc := 26) X rfl dX12_moveOf_26 ?_
    refine g_aload_n (pc := 27) X 1 rfl dX12_moveOf_27 ?_
    refine g_getI (pc := 28) X k_fl_X12_388 s_92 rfl dX12_moveOf_28 ?_
    refine g_aload_n (pc := 31) X 1 rfl dX12_moveOf_31 ?_
    refine g_getR (r := 93) (pc := 32) X k_fl_X12_7 s_92 rfl dX12_moveOf_32 ?_
    refine g_iconst (v := 0) (pc := 35) X rfl dX12_moveOf_35 ?_
    obtain ⟨c8, h⟩ := chk_e h
    refine g_iald (pc := 36) X s_93 c8 dX12_moveOf_36 ?_
    refine g_icmp_ne (pc := 37) (tgt := 49) X dX12_moveOf_37 rfl (fun c15 => ?_) (fun c15 => ?_)
    · replace h := if_f c15 h
      refine g_aload_n (pc := 49) X 1 rfl dX12_moveOf_49 ?_
      refine g_aload_n (pc := 50) X 1 rfl dX12_moveOf_50 ?_
      refine g_getI (pc := 51) X k_fl_X12_388 s_92 rfl dX12_moveOf_51 ?_
      obtain ⟨r10, σ11, hc9, h⟩ := bd2_e h
      refine g_callV (pc := 54) X k_ml_X12_92 (run_Mo_gives  hc9) s_92 rfl (room_ok (Nat.le_of_ble_eq_true rfl) (Nat.le_of_ble_eq_true rfl)) ⟨Nat.le_refl _, Nat.le_refl _⟩ _ rfl (Nat.le_of_ble_eq_true rfl) dX12_moveOf_54 ?_
      show Go V Γ M_X12_moveOf (Zm V Γ 7 fin) 57 [(2, .int r2), (0, .ref (V.2.2.1 + 92)), (1, .int p1)] [.int r10] σ11
      cases h
      exact g_iret (pc := 57) X rfl rfl (hr _ _ hA) dX12_moveOf_57
    · replace h := if_t c15 h
      refine g_aload_n (pc := 40) X 1 rfl dX12_moveOf_40 ?_
      refine g_bipush (v := 6) (pc := 41) X (by decide) dX12_moveOf_41 ?_
      obtain ⟨r13, σ14, hc12, h⟩ := bd2_e h
      refine g_callV (pc := 43) X k_ml_X12_88 (run_Mo_refuse  hc12) s_92 rfl (room_ok (Nat.le_of_ble_eq_true rfl) (Nat.le_of_ble_eq_true rfl)) ⟨Nat.le_refl _, Nat.le_refl _⟩ _ rfl (Nat.le_of_ble_eq_true rfl) dX12_moveOf_43 ?_
      show Go V Γ M_X12_moveOf (Zm V Γ 7 fin) 46 [(2, .int r2), (0, .ref (V.2.2.1 + 92)), (1, .int p1)] [.int r13] σ14
      refine g_goto (pc := 46) (tgt := 57) X dX12_moveOf_46 rfl ?_
      cases h
      exact g_iret (pc := 57) X rfl rfl (hr _ _ hA) dX12_moveOf_57
  · replace h := if_f c19 h
    refine g_aload_n (pc := 11) X 1 rfl dX12_moveOf_11 ?_
    refine g_iload_n (pc := 12) X 0 rfl dX12_moveOf_12 ?_
    obtain ⟨r17, σ18, hc16, h⟩ := bd2_e h
    refine g_callV (pc := 13) X k_ml_X12_88 (run_Mo_refuse  hc16) s_92 rfl (room_ok (Nat.le_of_ble_eq_true rfl) (Nat.le_of_ble_eq_true rfl)) ⟨Nat.le_refl _, Nat.le_refl _⟩ _ rfl (Nat.le_of_ble_eq_true rfl) dX12_moveOf_13 ?_
    show Go V Γ M_X12_moveOf (Zm V Γ 7 fin) 16 [(2, .int r2), (0, .ref (V.2.2.1 + 92)), (1, .int p1)] [.int r17] σ18
    cases h
    exact g_iret (pc := 16) X rfl rfl (hr _ _ hA) dX12_moveOf_16
set_option maxRecDepth 100000 in
theorem run_Mo_moveOf {V : Ev} {σ : St} {p1 : Int32} {o : (Int32 × St)}   (h : Mo_moveOf σ p1 = some o) : Rs V 7 M_X12_moveOf [.ref (V.2.2.1 + 92), .int p1] σ (some (.int o.1), o.2) := by
  refine Rs.of (by decide +kernel) (Nat.le_of_ble_eq_true rfl) (fun Γ X => ?_)
  exact tm_Mo_moveOf X (A := fun o1 => o1 = o)  (fun _ _ e => by rw [← e]) h rfl
theorem dX12_uncaught_0 : decode cX12_uncaught 0 = .ok (.iload_n 1, 1) := by decide +kernel
theorem dX12_uncaught_1 : decode cX12_uncaught 1 = .ok (.i2l, 1) := by decide +kernel
theorem dX12_uncaught_2 : decode cX12_uncaught 2 = .ok (.lconst 0, 1) := by decide +kernel
theorem dX12_uncaught_3 : decode cX12_uncaught 3 = .ok (.ldc2_w 400, 3) := by decide +kernel
theorem dX12_uncaught_6 : decode cX12_uncaught 6 = .ok (.invokestatic 270, 3) := by decide +kernel
theorem dX12_uncaught_9 : decode cX12_uncaught 9 = .ok (.ifCond .eq 15, 3) := by decide +kernel
theorem dX12_uncaught_12 : decode cX12_uncaught 12 = .ok (.iload_n 2, 1) := by decide +kernel
theorem dX12_uncaught_13 : decode cX12_uncaught 13 = .ok (.i2l, 1) := by decide +kernel
theorem dX12_uncaught_14 : decode cX12_uncaught 14 = .ok (.lconst 0, 1) := by decide +kernel
theorem dX12_uncaught_15 : decode cX12_uncaught 15 = .ok (.ldc2_w 400, 3) := by decide +kernel
theorem dX12_uncaught_18 : decode cX12_uncaught 18 = .ok (.invokestatic 270, 3) := by decide +kernel
theorem dX12_uncaught_21 : decode cX12_uncaught 21 = .ok (.ifCond .ne 9, 3) := by decide +kernel
theorem dX12_uncaught_24 : decode cX12_uncaught 24 = .ok (.aload_n 0, 1) := by decide +kernel
theorem dX12_uncaught_25 : decode cX12_uncaught 25 = .ok (.iconst 1, 1) := by decide +kernel
theorem dX12_uncaught_26 : decode cX12_uncaught 26 = .ok (.invokevirtual 95, 3) := by decide +kernel
theorem dX12_uncaught_29 : decode cX12_uncaught 29 = .ok (.ireturn, 1) := by decide +kernel
theorem dX12_uncaught_30 : decode cX12_uncaught 30 = .ok (.aload_n 0, 1) := by decide +kernel
theorem dX12_uncaught_31 : decode cX12_uncaught 31 = .ok (.invokevirtual 274, 3) := by decide +kernel
theorem dX12_uncaught_34 : decode cX12_uncaught 34 = .ok (.ifCond .ne 10, 3) := by decide +kernel
theorem dX12_uncaught_37 : decode cX12_uncaught 37 = .ok (.aload_n 0, 1) := by decide +kernel
theorem dX12_uncaught_38 : decode cX12_uncaught 38 = .ok (.bipush 7, 2) := by decide +kernel
theorem dX12_uncaught_40 : decode cX12_uncaught 40 = .ok (.invokevirtual 95, 3) := by decide +kernel
theorem dX12_uncaught_43 : decode cX12_uncaught 43 = .ok (.ireturn, 1) := by decide +kernel
theorem dX12_uncaught_44 : decode cX12_uncaught 44 = .ok (.aload_n 0, 1) := by decide +kernel
theorem dX12_uncaught_45 : decode cX12_uncaught 45 = .ok (.iconst 0, 1) := by decide +kernel
theorem dX12_uncaught_46 : decode cX12_uncaught 46 = .ok (.invokevirtual 277, 3) := by decide +kernel
theorem dX12_uncaught_49 : decode cX12_uncaught 49 = .ok (.i2l, 1) := by decide +kernel
theorem dX12_uncaught_50 : decode cX12_uncaught 50 = .ok (.lstore_n 3, 1) := by decide +kernel
theorem dX12_uncaught_51 : decode cX12_uncaught 51 = .ok (.lconst 1, 1) := by decide +kernel
theorem dX12_uncaught_52 : decode cX12_uncaught 52 = .ok (.lstore 5, 2) := by decide +kernel
theorem dX12_uncaught_54 : decode cX12_uncaught 54 = .ok (.iconst 0, 1) := by decide +kernel
theorem dX12_uncaught_55 : decode cX12_uncaught 55 = .ok (.istore 7, 2) := by decide +kernel
theorem dX12_uncaught_57 : decode cX12_uncaught 57 = .ok (.iload 7, 2) := by decide +kernel
theorem dX12_uncaught_59 : decode cX12_uncaught 59 = .ok (.bipush 6, 2) := by decide +kernel
theorem dX12_uncaught_61 : decode cX12_uncaught 61 = .ok (.if_icmp .ge 26, 3) := by decide +kernel
theorem dX12_uncaught_64 : decode cX12_uncaught 64 = .ok (.aload_n 0, 1) := by decide +kernel
theorem dX12_uncaught_65 : decode cX12_uncaught 65 = .ok (.getfield 66, 3) := by decide +kernel
theorem dX12_uncaught_68 : decode cX12_uncaught 68 = .ok (.iload 7, 2) := by decide +kernel
theorem dX12_uncaught_70 : decode cX12_uncaught 70 = .ok (.iload 7, 2) := by decide +kernel
theorem dX12_uncaught_72 : decode cX12_uncaught 72 = .ok (.ifCond .ne 7, 3) := by decide +kernel
theorem dX12_uncaught_75 : decode cX12_uncaught 75 = .ok (.lconst 1, 1) := by decide +kernel
theorem dX12_uncaught_76 : decode cX12_uncaught 76 = .ok (.goto 4, 3) := by decide +kernel
theorem dX12_uncaught_79 : decode cX12_uncaught 79 = .ok (.lconst 0, 1) := by decide +kernel
theorem dX12_uncaught_80 : decode cX12_uncaught 80 = .ok (.lastore, 1) := by decide +kernel
theorem dX12_uncaught_81 : decode cX12_uncaught 81 = .ok (.iinc 7 1, 3) := by decide +kernel
theorem dX12_uncaught_84 : decode cX12_uncaught 84 = .ok (.goto (-27), 3) := by decide +kernel
theorem dX12_uncaught_87 : decode cX12_uncaught 87 = .ok (.iconst 0, 1) := by decide +kernel
theorem dX12_uncaught_88 : decode cX12_uncaught 88 = .ok (.istore 7, 2) := by decide +kernel
theorem dX12_uncaught_90 : decode cX12_uncaught 90 = .ok (.iload 7, 2) := by decide +kernel
theorem dX12_uncaught_92 : decode cX12_uncaught 92 = .ok (.iload_n 1, 1) := by decide +kernel
theorem dX12_uncaught_93 : decode cX12_uncaught 93 = .ok (.if_icmp .ge 76, 3) := by decide +kernel
theorem dX12_uncaught_96 : decode cX12_uncaught 96 = .ok (.iconst 5, 1) := by decide +kernel
theorem dX12_uncaught_97 : decode cX12_uncaught 97 = .ok (.istore 8, 2) := by decide +kernel
theorem dX12_uncaught_99 : decode cX12_uncaught 99 = .ok (.iload 8, 2) := by decide +kernel
theorem dX12_uncaught_101 : decode cX12_uncaught 101 = .ok (.ifCond .lt 52, 3) := by decide +kernel
theorem dX12_uncaught_104 : decode cX12_uncaught 104 = .ok (.aload_n 0, 1) := by decide +kernel
theorem dX12_uncaught_105 : decode cX12_uncaught 105 = .ok (.getfield 66, 3) := by decide +kernel
theorem dX12_uncaught_108 : decode cX12_uncaught 108 = .ok (.iload 8, 2) := by decide +kernel
theorem dX12_uncaught_110 : decode cX12_uncaught 110 = .ok (.aload_n 0, 1) := by decide +kernel
theorem dX12_uncaught_111 : decode cX12_uncaught 111 = .ok (.getfield 66, 3) := by decide +kernel
theorem dX12_uncaught_114 : decode cX12_uncaught 114 = .ok (.iload 8, 2) := by decide +kernel
theorem dX12_uncaught_116 : decode cX12_uncaught 116 = .ok (.laload, 1) := by decide +kernel
theorem dX12_uncaught_117 : decode cX12_uncaught 117 = .ok (.aload_n 0, 1) := by decide +kernel
theorem dX12_uncaught_118 : decode cX12_uncaught 118 = .ok (.getfield 253, 3) := by decide +kernel
theorem dX12_uncaught_121 : decode cX12_uncaught 121 = .ok (.i2l, 1) := by decide +kernel
theorem dX12_uncaught_122 : decode cX12_uncaught 122 = .ok (.lload_n 3, 1) := by decide +kernel
theorem dX12_uncaught_123 : decode cX12_uncaught 123 = .ok (.lsub, 1) := by decide +kernel
theorem dX12_uncaught_124 : decode cX12_uncaught 124 = .ok (.lmul, 1) := by decide +kernel
theorem dX12_uncaught_125 : decode cX12_uncaught 125 = .ok (.iload 8, 2) := by decide +kernel
theorem dX12_uncaught_127 : decode cX12_uncaught 127 = .ok (.ifCond .ne 7, 3) := by decide +kernel
theorem dX12_uncaught_130 : decode cX12_uncaught 130 = .ok (.lconst 0, 1) := by decide +kernel
theorem dX12_uncaught_131 : decode cX12_uncaught 131 = .ok (.goto 14, 3) := by decide +kernel
theorem dX12_uncaught_134 : decode cX12_uncaught 134 = .ok (.aload_n 0, 1) := by decide +kernel
theorem dX12_uncaught_135 : decode cX12_uncaught 135 = .ok (.getfield 66, 3) := by decide +kernel
theorem dX12_uncaught_138 : decode cX12_uncaught 138 = .ok (.iload 8, 2) := by decide +kernel
theorem dX12_uncaught_140 : decode cX12_uncaught 140 = .ok (.iconst 1, 1) := by decide +kernel
theorem dX12_uncaught_141 : decode cX12_uncaught 141 = .ok (.isub, 1) := by decide +kernel
theorem dX12_uncaught_142 : decode cX12_uncaught 142 = .ok (.laload, 1) := by decide +kernel
theorem dX12_uncaught_143 : decode cX12_uncaught 143 = .ok (.lload_n 3, 1) := by decide +kernel
theorem dX12_uncaught_144 : decode cX12_uncaught 144 = .ok (.lmul, 1) := by decide +kernel
theorem dX12_uncaught_145 : decode cX12_uncaught 145 = .ok (.ladd, 1) := by decide +kernel
theorem dX12_uncaught_146 : decode cX12_uncaught 146 = .ok (.lastore, 1) := by decide +kernel
theorem dX12_uncaught_147 : decode cX12_uncaught 147 = .ok (.iinc 8 (-1), 3) := by decide +kernel
theorem dX12_uncaught_150 : decode cX12_uncaught 150 = .ok (.goto (-51), 3) := by decide +kernel
theorem dX12_uncaught_153 : decode cX12_uncaught 153 = .ok (.lload 5, 2) := by decide +kernel
theorem dX12_uncaught_155 : decode cX12_uncaught 155 = .ok (.aload_n 0, 1) := by decide +kernel
theorem dX12_uncaught_156 : decode cX12_uncaught 156 = .ok (.getfield 253, 3) := by decide +kernel
theorem dX12_uncaught_159 : decode cX12_uncaught 159 = .ok (.i2l, 1) := by decide +kernel
theorem dX12_uncaught_160 : decode cX12_uncaught 160 = .ok (.lmul, 1) := by decide +kernel
theorem dX12_uncaught_161 : decode cX12_uncaught 161 = .ok (.lstore 5, 2) := by decide +kernel
theorem dX12_uncaught_163 : decode cX12_uncaught 163 = .ok (.iinc 7 1, 3) := by decide +kernel
theorem dX12_uncaught_166 : decode cX12_uncaught 166 = .ok (.goto (-76), 3) := by decide +kernel
theorem dX12_uncaught_169 : decode cX12_uncaught 169 = .ok (.lconst 0, 1) := by decide +kernel
theorem dX12_uncaught_170 : decode cX12_uncaught 170 = .ok (.lstore 7, 2) := by decide +kernel
theorem dX12_uncaught_172 : decode cX12_uncaught 172 = .ok (.iload_n 2, 1) := by decide +kernel
theorem dX12_uncaught_173 : decode cX12_uncaught 173 = .ok (.istore 9, 2) := by decide +kernel
theorem dX12_uncaught_175 : decode cX12_uncaught 175 = .ok (.iload 9, 2) := by decide +kernel
theorem dX12_uncaught_177 : decode cX12_uncaught 177 = .ok (.bipush 6, 2) := by decide +kernel
theorem dX12_uncaught_179 : decode cX12_uncaught 179 = .ok (.if_icmp .ge 21, 3) := by decide +kernel
theorem dX12_uncaught_182 : decode cX12_uncaught 182 = .ok (.lload 7, 2) := by decide +kernel
theorem dX12_uncaught_184 : decode cX12_uncaught 184 = .ok (.aload_n 0, 1) := by decide +kernel
theorem dX12_uncaught_185 : decode cX12_uncaught 185 = .ok (.getfield 66, 3) := by decide +kernel
theorem dX12_uncaught_188 : decode cX12_uncaught 188 = .ok (.iload 9, 2) := by decide +kernel
theorem dX12_uncaught_190 : decode cX12_uncaught 190 = .ok (.laload, 1) := by decide +kernel
theorem dX12_uncaught_191 : decode cX12_uncaught 191 = .ok (.ladd, 1) := by decide +kernel
theorem dX12_uncaught_192 : decode cX12_uncaught 192 = .ok (.lstore 7, 2) := by decide +kernel
theorem dX12_uncaught_194 : decode cX12_uncaught 194 = .ok (.iinc 9 1, 3) := by decide +kernel
theorem dX12_uncaught_197 : decode cX12_uncaught 197 = .ok (.goto (-22), 3) := by decide +kernel
theorem dX12_uncaught_200 : decode cX12_uncaught 200 = .ok (.aload_n 0, 1) := by decide +kernel
theorem dX12_uncaught_201 : decode cX12_uncaught 201 = .ok (.lload 7, 2) := by decide +kernel
theorem dX12_uncaught_203 : decode cX12_uncaught 203 = .ok (.lload 5, 2) := by decide +kernel
theorem dX12_uncaught_205 : decode cX12_uncaught 205 = .ok (.invokevirtual 329, 3) := by decide +kernel
theorem dX12_uncaught_208 : decode cX12_uncaught 208 = .ok (.ireturn, 1) := by decide +kernel
noncomputable def Mo_uncaught_L57 (l1 : Int32) (l2 : Int32) (l3 : Int64) (l5 : Int64) (σ : St) (x7 : Int32) : Option ((Int32 × St) ⊕ St) :=
  if 6 ≤ x7 then (some (.inr σ)) else (if x7 = 0 then (chk (ix x7 6) (bnd (wL σ 107 (tn x7) 1) (fun σ19 => bnd (x7 + 1) (fun v20 => some (.inl (v20, σ19)))))) else (chk (ix x7 6) (bnd (wL σ 107 (tn x7) 0) (fun σ16 => bnd (x7 + 1) (fun v17 => some (.inl (v17, σ16)))))))
set_option maxRecDepth 100000 in
set_option maxHeartbeats 4000000 in
theorem tb_Mo_uncaught_L57 {V : Ev} {Γ : Cn} {fin : Option Value × St} {l1 : Int32} {l2 : Int32} {l3 : Int64} {l5 : Int64} {σ : St} {x7 : Int32} {o : ((Int32 × St) ⊕ St)} (X : Cx V Γ M_X12_uncaught) {A : ((Int32 × St) ⊕ St) → Prop}  (hb57 : ∀ (x7 : Int32) (σ9 : St), A (.inl (x7, σ9)) → Go V Γ M_X12_uncaught (Zm V Γ 5 fin) 57 [(0, .ref (V.2.2.1 + 92)), (1, .int l1), (2, .int l2), (3, .long l3), (5, .long l5), (7, .int x7)] [] σ9) (hx57 : ∀ (σ9 : St), A (.inr σ9) → Go V Γ M_X12_uncaught (Zm V Γ 5 fin) 87 [(0, .ref (V.2.2.1 + 92)), (1, .int l1), (2, .int l2), (3, .long l3), (5, .long l5)] [] σ9) (h : Mo_uncaught_L57 l1 l2 l3 l5 σ x7 = some o) (hA : A o) : Go V Γ M_X12_uncaught (Zm V Γ 5 fin) 57 [(0, .ref (V.2.2.1 + 92)), (1, .int l1), (2, .int l2), (3, .long l3), (5, .long l5), (7, .int x7)] [] σ := by
  unfold Mo_uncaught_L57 at h
  refine g_iload (pc := 57) X 5 rfl dX12_uncaught_57 ?_
  refine g_bipush (v := 6) (pc := 59) X (by decide) dX12_uncaught_59 ?_
  refine g_icmp_ge (pc := 61) (tgt := 87) X dX12_uncaught_61 rfl (fun c22 => ?_) (fun c22 => ?_)
  · replace h := if_t c22 h
    refine g_sub [0, 1, 2, 3, 4] rfl ?_
    cases h
    exact hx57 _ hA
  · replace h := if_f c22 h
    refine g_aload_n (pc := 64) X 0 rfl dX12_uncaught_64 ?_
    refine g_getR (r := 107) (pc := 65) X k_fl_X12_66 s_92 rfl dX12_uncaught_65 ?_
    refine g_iload (pc := 68) X 5 rfl dX12_uncaught_68 ?_
    refine g_iload (pc := 70) X 5 rfl dX12_uncaught_70 ?_
    refine g_if_ne (pc := 72) (tgt := 79) X dX12_uncaught_72 rfl (fun c21 => ?_) (fun c21 => ?_)
    · replace h := if_f c21 h
      refine g_lconst (v := 0) (pc := 79) X rfl dX12_uncaught_79 ?_
      obtain ⟨c15, h⟩ := chk_e h
      refine g_last (pc := 80) X s_107 c15 dX12_uncaught_80 ?_
      obtain ⟨σ16, e_σ16, h⟩ := bnd_e h
      refine g_nmS e_σ16 ?_
      obtain ⟨v17, e_v17, h⟩ := bnd_e h
      refine g_iinc (pc := 81) (v := v17) X [(7, .int v17), (0, .ref (V.2.2.1 + 92)), (1, .int l1), (2, .int l2), (3, .long l3), (5, .long l5)] 5 rfl (by rw [e_v17]; rfl) (Nat.le_of_ble_eq_true rfl) rfl dX12_uncaught_81 ?_
      refine g_goto (pc := 84) (tgt := 57) X dX12_uncaught_84 rfl ?_
      refine g_sub [1, 2, 3, 4, 5, 0] rfl ?_
      cases h
      exact hb57 _ _ hA
    · replace h := if_t c21 h
      refine g_lconst (v := 1) (pc := 75) X rfl dX12_uncaught_75 ?_
      refine g_goto (pc := 76) (tgt := 80) X dX12_uncaught_76 rfl ?_
      obtain ⟨c18, h⟩ := chk_e h
      refine g_last (pc := 80) X s_107 c18 dX12_uncaught_80 ?_
      obtain ⟨σ19, e_σ19, h⟩ := bnd_e h
      refine g_nmS e_σ19 ?_
      obtain ⟨v20, e_v20, h⟩ := bnd_e h
      refine g_iinc (pc := 81) (v := v20) X [(7, .int v20), (0, .ref (V.2.2.1 + 92)), (1, .int l1), (2, .int l2), (3, .long l3), (5, .long l5)] 5 rfl (by rw [e_v20]; rfl) (Nat.le_of_ble_eq_true rfl) rfl dX12_uncaught_81 ?_
      refine g_goto (pc := 84) (tgt := 57) X dX12_uncaught_84 rfl ?_
      refine g_sub [1, 2, 3, 4, 5, 0] rfl ?_
      cases h
      exact hb57 _ _ hA
set_option maxRecDepth 100000 in
theorem tl_Mo_uncaught_L57 {V : Ev} {Γ : Cn} {fin : Option Value × St} {l1 : Int32} {l2 : Int32} {l3 : Int64} {l5 : Int64} {x7 : Int32} {σ9 : St} (X : Cx V Γ M_X12_uncaught)  {σ8 : St} {n : Nat} (h : iter (fun s : (Int32 × St) => Mo_uncaught_L57 l1 l2 l3 l5 s.2 s.1) n (x7, σ9) = some σ8) (hK : Go V Γ M_X12_uncaught (Zm V Γ 5 fin) 87 [(0, .ref (V.2.2.1 + 92)), (1, .int l1), (2, .int l2), (3, .long l3), (5, .long l5)] [] σ8) : Go V Γ M_X12_uncaught (Zm V Γ 5 fin) 57 [(0, .ref (V.2.2.1 + 92)), (1, .int l1), (2, .int l2), (3, .long l3), (5, .long l5), (7, .int x7)] [] σ9 := by
  refine iter_go (G := (fun s : (Int32 × St) => Go V Γ M_X12_uncaught (Zm V Γ 5 fin) 57 [(0, .ref (V.2.2.1 + 92)), (1, .int l1), (2, .int l2), (3, .long l3), (5, .long l5), (7, .int s.1)] [] s.2)) (fun s o ho hS => ?_) n (x7, σ9) h
  exact tb_Mo_uncaught_L57 X  (fun _ _ h9 => h9) (fun _ he => by cases he; exact hK) ho hS
noncomputable def Mo_uncaught_L99 (l1 : Int32) (l2 : Int32) (l3 : Int64) (l5 : Int64) (l7 : Int32) (σ : St) (x8 : Int32) : Option ((Int32 × St) ⊕ St) :=
  if x8 < 0 then (some (.inr σ)) else (chk (ix x8 6) (if x8 = 0 then (chk (ix x8 6) (bnd (wL σ 107 (tn x8) (((σ.2 107 (tn x8)) * (((σ.1 92 23).toInt64) - l3)) + 0)) (fun σ31 => bnd (x8 + (-1)) (fun v32 => some (.inl (v32, σ31)))))) else (chk (ix (x8 - 1) 6) (chk (ix x8 6) (bnd (wL σ 107 (tn x8) (((σ.2 107 (tn x8)) * (((σ.1 92 23).toInt64) - l3)) + ((σ.2 107 (tn (x8 - 1))) * l3))) (fun σ28 => bnd (x8 + (-1)) (fun v29 => some (.inl (v29, σ28)))))))))
set_option maxRecDepth 100000 in
set_option maxHeartbeats 4000000 in
theorem tb_Mo_uncaught_L99 {V : Ev} {Γ : Cn} {fin : Option Value × St} {l1 : Int32} {l2 : Int32} {l3 : Int64} {l5 : Int64} {l7 : Int32} {σ : St} {x8 : Int32} {o : ((Int32 × St) ⊕ St)} (X : Cx V Γ M_X12_uncaught) {A : ((Int32 × St) ⊕ St) → Prop}  (hb99 : ∀ (x8 : Int32) (σ9 : St), A (.inl (x8, σ9)) → Go V Γ M_X12_uncaught (Zm V Γ 5 fin) 99 [(0, .ref (V.2.2.1 + 92)), (1, .int l1), (2, .int l2), (3, .long l3), (5, .long l5), (7, .int l7), (8, .int x8)] [] σ9) (hx99 : ∀ (σ9 : St), A (.inr σ9) → Go V Γ M_X12_uncaught (Zm V Γ 5 fin) 153 [(0, .ref (V.2.2.1 + 92)), (1, .int l1), (2, .int l2), (3, .long l3), (5, .long l5), (7, .int l7)] [] σ9) (h : Mo_uncaught_L99 l1 l2 l3 l5 l7 σ x8 = some o) (hA : A o) : Go V Γ M_X12_uncaught (Zm V Γ 5 fin) 99 [(0, .ref (V.2.2.1 + 92)), (1, .int l1), (2, .int l2), (3, .long l3), (5, .long l5), (7, .int l7), (8, .int x8)] [] σ := by
  unfold Mo_uncaught_L99 at h
  refine g_iload (pc := 99) X 6 rfl dX12_uncaught_99 ?_
  refine g_if_lt (pc := 101) (tgt := 153) X dX12_uncaught_101 rfl (fun c34 => ?_) (fun c34 => ?_)
  · replace h := if_t c34 h
    refine g_sub [0, 1, 2, 3, 4, 5] rfl ?_
    cases h
    exact hx99 _ hA
  · replace h := if_f c34 h
    refine g_aload_n (pc := 104) X 0 rfl dX12_uncaught_104 ?_
    refine g_getR (r := 107) (pc := 105) X k_fl_X12_66 s_92 rfl dX12_uncaught_105 ?_
    refine g_iload (pc := 108) X 6 rfl dX12_uncaught_108 ?_
    refine g_aload_n (pc := 110) X 0 rfl dX12_uncaught_110 ?_
    refine g_getR (r := 107) (pc := 111) X k_fl_X12_66 s_92 rfl dX12_uncaught_111 ?_
    refine g_iload (pc := 114) X 6 rfl dX12_uncaught_114 ?_
    obtain ⟨c25, h⟩ := chk_e h
    refine g_lald (pc := 116) X s_107 c25 dX12_uncaught_116 ?_
    refine g_aload_n (pc := 117) X 0 rfl dX12_uncaught_117 ?_
    refine g_getI (pc := 118) X k_fl_X12_253 s_92 rfl dX12_uncaught_118 ?_
    refine g_i2l (pc := 121) X dX12_uncaught_121 ?_
    refine g_lload_n (pc := 122) X 3 rfl dX12_uncaught_122 ?_
    refine g_lsub (pc := 123) X dX12_uncaught_123 ?_
    refine g_lmul (pc := 124) X dX12_uncaught_124 ?_
    refine g_iload (pc := 125) X 6 rfl dX12_uncaught_125 ?_
    refine g_if_ne (pc := 127) (tgt := 134) X dX12_uncaught_127 rfl (fun c33 => ?_) (fun c33 => ?_)
    · replace h := if_f c33 h
      refine g_aload_n (pc := 134) X 0 rfl dX12_uncaught_134 ?_
      refine g_getR (r := 107) (pc := 135) X k_fl_X12_66 s_92 rfl dX12_uncaught_135 ?_
      refine g_iload (pc := 138) X 6 rfl dX12_uncaught_138 ?_
      refine g_iconst (v := 1) (pc := 140) X rfl dX12_uncaught_140 ?_
      refine g_isub (pc := 141) X dX12_uncaught_141 ?_
      obtain ⟨c26, h⟩ := chk_e h
      refine g_lald (pc := 142) X s_107 c26 dX12_uncaught_142 ?_
      refine g_lload_n (pc := 143) X 3 rfl dX12_uncaught_143 ?_
      refine g_lmul (pc := 144) X dX12_uncaught_144 ?_
      refine g_ladd (pc := 145) X dX12_uncaught_145 ?_
      obtain ⟨c27, h⟩ := chk_e h
      refine g_last (pc := 146) X s_107 c27 dX12_uncaught_146 ?_
      obtain ⟨σ28, e_σ28, h⟩ := bnd_e h
      refine g_nmS e_σ28 ?_
      obtain ⟨v29, e_v29, h⟩ := bnd_e h
      refine g_iinc (pc := 147) (v := v29) X [(8, .int v29), (0, .ref (V.2.2.1 + 92)), (1, .int l1), (2, .int l2), (3, .long l3), (5, .long l5), (7, .int l7)] 6 rfl (by rw [e_v29]; rfl) (Nat.le_of_ble_eq_true rfl) rfl dX12_uncaught_147 ?_
      refine g_goto (pc := 150) (tgt := 99) X dX12_uncaught_150 rfl ?_
      refine g_sub [1, 2, 3, 4, 5, 6, 0] rfl ?_
      cases h
      exact hb99 _ _ hA
    · replace h := if_t c33 h
      refine g_lconst (v := 0) (pc := 130) X rfl dX12_uncaught_130 ?_
      refine g_goto (pc := 131) (tgt := 145) X dX12_uncaught_131 rfl ?_
      refine g_ladd (pc := 145) X dX12_uncaught_145 ?_
      obtain ⟨c30, h⟩ := chk_e h
      refine g_last (pc := 146) X s_107 c30 dX12_uncaught_146 ?_
      obtain ⟨σ31, e_σ31, h⟩ := bnd_e h
      refine g_nmS e_σ31 ?_
      obtain ⟨v32, e_v32, h⟩ := bnd_e h
      refine g_iinc (pc := 147) (v := v32) X [(8, .int v32), (0, .ref (V.2.2.1 + 92)), (1, .int l1), (2, .int l2), (3, .long l3), (5, .long l5), (7, .int l7)] 6 rfl (by rw [e_v32]; rfl) (Nat.le_of_ble_eq_true rfl) rfl dX12_uncaught_147 ?_
      refine g_goto (pc := 150) (tgt := 99) X dX12_uncaught_150 rfl ?_
      refine g_sub [1, 2, 3, 4, 5, 6, 0] rfl ?_
      cases h
      exact hb99 _ _ hA
set_option maxRecDepth 100000 in
theorem tl_Mo_uncaught_L99 {V : Ev} {Γ : Cn} {fin : Option Value × St} {l1 : Int32} {l2 : Int32} {l3 : Int64} {l5 : Int64} {l7 : Int32} {x8 : Int32} {σ9 : St} (X : Cx V Γ M_X12_uncaught)  {σ8 : St} {n : Nat} (h : iter (fun s : (Int32 × St) => Mo_uncaught_L99 l1 l2 l3 l5 l7 s.2 s.1) n (x8, σ9) = some σ8) (hK : Go V Γ M_X12_uncaught (Zm V Γ 5 fin) 153 [(0, .ref (V.2.2.1 + 92)), (1, .int l1), (2, .int l2), (3, .long l3), (5, .long l5), (7, .int l7)] [] σ8) : Go V Γ M_X12_uncaught (Zm V Γ 5 fin) 99 [(0, .ref (V.2.2.1 + 92)), (1, .int l1), (2, .int l2), (3, .long l3), (5, .long l5), (7, .int l7), (8, .int x8)] [] σ9 := by
  refine iter_go (G := (fun s : (Int32 × St) => Go V Γ M_X12_uncaught (Zm V Γ 5 fin) 99 [(0, .ref (V.2.2.1 + 92)), (1, .int l1), (2, .int l2), (3, .long l3), (5, .long l5), (7, .int l7), (8, .int s.1)] [] s.2)) (fun s o ho hS => ?_) n (x8, σ9) h
  exact tb_Mo_uncaught_L99 X  (fun _ _ h9 => h9) (fun _ he => by cases he; exact hK) ho hS
noncomputable def Mo_uncaught_L90 (l1 : Int32) (l2 : Int32) (l3 : Int64) (σ : St) (x5 : Int64) (x7 : Int32) : Option ((Int64 × Int32 × St) ⊕ (Int64 × St)) :=
  if l1 ≤ x7 then (some (.inr (x5, σ))) else (bd (iter (fun s : (Int32 × St) => Mo_uncaught_L99 l1 l2 l3 x5 x7 s.2 s.1) FUEL (5, σ)) (fun σ35 => bnd ((x5 * ((σ35.1 92 23).toInt64))) (fun v37 => bnd (x7 + 1) (fun v38 => some (.inl (v37, v38, σ35))))))
set_option maxRecDepth 100000 in
set_option maxHeartbeats 4000000 in
theorem tb_Mo_uncaught_L90 {V : Ev} {Γ : Cn} {fin : Option Value × St} {l1 : Int32} {l2 : Int32} {l3 : Int64} {σ : St} {x5 : Int64} {x7 : Int32} {o : ((Int64 × Int32 × St) ⊕ (Int64 × St))} (X : Cx V Γ M_X12_uncaught) {A : ((Int64 × Int32 × St) ⊕ (Int64 × St)) → Prop}  (hb90 : ∀ (x5 : Int64) (x7 : Int32) (σ9 : St), A (.inl (x5, x7, σ9)) → Go V Γ M_X12_uncaught (Zm V Γ 5 fin) 90 [(0, .ref (V.2.2.1 + 92)), (1, .int l1), (2, .int l2), (3, .long l3), (5, .long x5), (7, .int x7)] [] σ9) (hx90 : ∀ (x5 : Int64) (σ9 : St), A (.inr (x5, σ9)) → Go V Γ M_X12_uncaught (Zm V Γ 5 fin) 169 [(0, .ref (V.2.2.1 + 92)), (2, .int l2), (5, .long x5)] [] σ9) (h : Mo_uncaught_L90 l1 l2 l3 σ x5 x7 = some o) (hA : A o) : Go V Γ M_X12_uncaught (Zm V Γ 5 fin) 90 [(0, .ref (V.2.2.1 + 92)), (1, .int l1), (2, .int l2), (3, .long l3), (5, .long x5), (7, .int x7)] [] σ := by
  unfold Mo_uncaught_L90 at h
  refine g_iload (pc := 90) X 5 rfl dX12_uncaught_90 ?_
  refine g_iload_n (pc := 92) X 1 rfl dX12_uncaught_92 ?_
  refine g_icmp_ge (pc := 93) (tgt := 169) X dX12_uncaught_93 rfl (fun c39 => ?_) (fun c39 => ?_)
  · replace h := if_t c39 h
    refine g_sub [0, 2, 4] rfl ?_
    cases h
    exact hx90 _ _ hA
  · replace h := if_f c39 h
    refine g_iconst (v := 5) (pc := 96) X rfl dX12_uncaught_96 ?_
    refine g_istore (pc := 97) X [(8, .int 5), (0, .ref (V.2.2.1 + 92)), (1, .int l1), (2, .int l2), (3, .long l3), (5, .long x5), (7, .int x7)] (Nat.le_of_ble_eq_true rfl) rfl dX12_uncaught_97 ?_
    refine g_sub [1, 2, 3, 4, 5, 6, 0] rfl ?_
    obtain ⟨σ35, hi36, h⟩ := bd_e h
    refine tl_Mo_uncaught_L99 X  hi36 ?_
    refine g_lload (pc := 153) X 4 rfl dX12_uncaught_153 ?_
    refine g_aload_n (pc := 155) X 0 rfl dX12_uncaught_155 ?_
    refine g_getI (pc := 156) X k_fl_X12_253 s_92 rfl dX12_uncaught_156 ?_
    refine g_i2l (pc := 159) X dX12_uncaught_159 ?_
    refine g_lmul (pc := 160) X dX12_uncaught_160 ?_
    obtain ⟨v37, e_v37, h⟩ := bnd_e h
    refine g_nmL e_v37 ?_
    refine g_lstore (pc := 161) X [(5, .long v37), (0, .ref (V.2.2.1 + 92)), (1, .int l1), (2, .int l2), (3, .long l3), (7, .int x7)] (Nat.le_of_ble_eq_true rfl) rfl dX12_uncaught_161 ?_
    obtain ⟨v38, e_v38, h⟩ := bnd_e h
    refine g_iinc (pc := 163) (v := v38) X [(7, .int v38), (5, .long v37), (0, .ref (V.2.2.1 + 92)), (1, .int l1), (2, .int l2), (3, .long l3)] 5 rfl (by rw [e_v38]; rfl) (Nat.le_of_ble_eq_true rfl) rfl dX12_uncaught_163 ?_
    refine g_goto (pc := 166) (tgt := 90) X dX12_uncaught_166 rfl ?_
    refine g_sub [2, 3, 4, 5, 1, 0] rfl ?_
    cases h
    exact hb90 _ _ _ hA
set_option maxRecDepth 100000 in
theorem tl_Mo_uncaught_L90 {V : Ev} {Γ : Cn} {fin : Option Value × St} {l1 : Int32} {l2 : Int32} {l3 : Int64} {x5 : Int64} {x7 : Int32} {σ9 : St} (X : Cx V Γ M_X12_uncaught)  {y5 : Int64} {σ8 : St} {n : Nat} (h : iter (fun s : (Int64 × Int32 × St) => Mo_uncaught_L90 l1 l2 l3 s.2.2 s.1 s.2.1) n (x5, x7, σ9) = some (y5, σ8)) (hK : Go V Γ M_X12_uncaught (Zm V Γ 5 fin) 169 [(0, .ref (V.2.2.1 + 92)), (2, .int l2), (5, .long y5)] [] σ8) : Go V Γ M_X12_uncaught (Zm V Γ 5 fin) 90 [(0, .ref (V.2.2.1 + 92)), (1, .int l1), (2, .int l2), (3, .long l3), (5, .long x5), (7, .int x7)] [] σ9 := by
  refine iter_go (G := (fun s : (Int64 × Int32 × St) => Go V Γ M_X12_uncaught (Zm V Γ 5 fin) 90 [(0, .ref (V.2.2.1 + 92)), (1, .int l1), (2, .int l2), (3, .long l3), (5, .long s.1), (7, .int s.2.1)] [] s.2.2)) (fun s o ho hS => ?_) n (x5, x7, σ9) h
  exact tb_Mo_uncaught_L90 X  (fun _ _ _ h9 => h9) (fun _ _ he => by cases he; exact hK) ho hS
noncomputable def Mo_uncaught_L175 (l5 : Int64) (σ : St) (x7 : Int64) (x9 : Int32) : Option ((Int64 × Int32) ⊕ Int64) :=
  if 6 ≤ x9 then (some (.inr x7)) else (chk (ix x9 6) (bnd ((x7 + (σ.2 107 (tn x9)))) (fun v44 => bnd (x9 + 1) (fun v45 => some (.inl (v44, v45))))))
set_option maxRecDepth 100000 in
set_option maxHeartbeats 4000000 in
theorem tb_Mo_uncaught_L175 {V : Ev} {Γ : Cn} {fin : Option Value × St} {l5 : Int64} {σ : St} {x7 : Int64} {x9 : Int32} {o : ((Int64 × Int32) ⊕ Int64)} (X : Cx V Γ M_X12_uncaught) {A : ((Int64 × Int32) ⊕ Int64) → Prop}  (hb175 : ∀ (x7 : Int64) (x9 : Int32), A (.inl (x7, x9)) → Go V Γ M_X12_uncaught (Zm V Γ 5 fin) 175 [(0, .ref (V.2.2.1 + 92)), (5, .long l5), (7, .long x7), (9, .int x9)] [] σ) (hx175 : ∀ (x7 : Int64), A (.inr x7) → Go V Γ M_X12_uncaught (Zm V Γ 5 fin) 200 [(0, .ref (V.2.2.1 + 92)), (5, .long l5), (7, .long x7)] [] σ) (h : Mo_uncaught_L175 l5 σ x7 x9 = some o) (hA : A o) : Go V Γ M_X12_uncaught (Zm V Γ 5 fin) 175 [(0, .ref (V.2.2.1 + 92)), (5, .long l5), (7, .long x7), (9, .int x9)] [] σ := by
  unfold Mo_uncaught_L175 at h
  refine g_iload (pc := 175) X 3 rfl dX12_uncaught_175 ?_
  refine g_bipush (v := 6) (pc := 177) X (by decide) dX12_uncaught_177 ?_
  refine g_icmp_ge (pc := 179) (tgt := 200) X dX12_uncaught_179 rfl (fun c46 => ?_) (fun c46 => ?_)
  · replace h := if_t c46 h
    refine g_sub [0, 1, 2] rfl ?_
    cases h
    exact hx175 _ hA
  · replace h := if_f c46 h
    refine g_lload (pc := 182) X 2 rfl dX12_uncaught_182 ?_
    refine g_aload_n (pc := 184) X 0 rfl dX12_uncaught_184 ?_
    refine g_getR (r := 107) (pc := 185) X k_fl_X12_66 s_92 rfl dX12_uncaught_185 ?_
    refine g_iload (pc := 188) X 3 rfl dX12_uncaught_188 ?_
    obtain ⟨c43, h⟩ := chk_e h
    refine g_lald (pc := 190) X s_107 c43 dX12_uncaught_190 ?_
    refine g_ladd (pc := 191) X dX12_uncaught_191 ?_
    obtain ⟨v44, e_v44, h⟩ := bnd_e h
    refine g_nmL e_v44 ?_
    refine g_lstore (pc := 192) X [(7, .long v44), (0, .ref (V.2.2.1 + 92)), (5, .long l5), (9, .int x9)] (Nat.le_of_ble_eq_true rfl) rfl dX12_uncaught_192 ?_
    obtain ⟨v45, e_v45, h⟩ := bnd_e h
    refine g_iinc (pc := 194) (v := v45) X [(9, .int v45), (7, .long v44), (0, .ref (V.2.2.1 + 92)), (5, .long l5)] 3 rfl (by rw [e_v45]; rfl) (Nat.le_of_ble_eq_true rfl) rfl dX12_uncaught_194 ?_
    refine g_goto (pc := 197) (tgt := 175) X dX12_uncaught_197 rfl ?_
    refine g_sub [2, 3, 1, 0] rfl ?_
    cases h
    exact hb175 _ _ hA
set_option maxRecDepth 100000 in
theorem tl_Mo_uncaught_L175 {V : Ev} {Γ : Cn} {fin : Option Value × St} {l5 : Int64} {σ : St} {x7 : Int64} {x9 : Int32} (X : Cx V Γ M_X12_uncaught)  {y7 : Int64} {n : Nat} (h : iter (fun s : (Int64 × Int32) => Mo_uncaught_L175 l5 σ s.1 s.2) n (x7, x9) = some y7) (hK : Go V Γ M_X12_uncaught (Zm V Γ 5 fin) 200 [(0, .ref (V.2.2.1 + 92)), (5, .long l5), (7, .long y7)] [] σ) : Go V Γ M_X12_uncaught (Zm V Γ 5 fin) 175 [(0, .ref (V.2.2.1 + 92)), (5, .long l5), (7, .long x7), (9, .int x9)] [] σ := by
  refine iter_go (G := (fun s : (Int64 × Int32) => Go V Γ M_X12_uncaught (Zm V Γ 5 fin) 175 [(0, .ref (V.2.2.1 + 92)), (5, .long l5), (7, .long s.1), (9, .int s.2)] [] σ)) (fun s o ho hS => ?_) n (x7, x9) h
  exact tb_Mo_uncaught_L175 X  (fun _ _ h9 => h9) (fun _ he => by cases he; exact hK) ho hS
noncomputable def Mo_uncaught (σ : St) (p1 : Int32) (p2 : Int32) : Option (Int32 × St) :=
  bd (Mo_isFrom p1.toInt64 0 5) (fun r2 => if r2 = 0 then (bd2 (Mo_is σ 1) (fun r4 σ5 => chk (ckz r4) (some (r4, σ5)))) else (bd (Mo_isFrom p2.toInt64 0 5) (fun r8 => if r8 = 0 then (bd2 (Mo_is σ 1) (fun r59 σ60 => chk (ckz r59) (some (r59, σ60)))) else (bd2 (Mo_laysNow σ) (fun r10 σ11 => if r10 = 0 then (bd2 (Mo_is σ11 7) (fun r54 σ55 => chk (ckz r54) (some (r54, σ55)))) else (bd (Mo_justBy σ11 0) (fun r13 => bnd (r13.toInt64) (fun v14 => bd (iter (fun s : (Int32 × St) => Mo_uncaught_L57 p1 p2 v14 1 s.2 s.1) FUEL (0, σ11)) (fun σ23 => bd2 (iter (fun s : (Int64 × Int32 × St) => Mo_uncaught_L90 p1 p2 v14 s.2.2 s.1 s.2.1) FUEL (1, 0, σ23)) (fun v40 σ41 => bd (iter (fun s : (Int64 × Int32) => Mo_uncaught_L175 v40 σ41 s.1 s.2) FUEL (0, p2)) (fun v47 => bd2 (Mo_tellsBy σ41 v47 v40) (fun r50 σ51 => chk (ckz r50) (some (r50, σ51))))))))))))))
set_option maxRecDepth 100000 in
set_option maxHeartbeats 4000000 in
theorem tm_Mo_uncaught {V : Ev} {Γ : Cn} {fin : Option Value × St} {σ : St} {p1 : Int32} {p2 : Int32} {o : (Int32 × St)} (X : Cx V Γ M_X12_uncaught) {A : (Int32 × St) → Prop}  (hr : ∀ (r : Int32) (σ9 : St), A (r, σ9) → (some (.int r), σ9) = fin) (h : Mo_uncaught σ p1 p2 = some o) (hA : A o) : Go V Γ M_X12_uncaught (Zm V Γ 5 fin) 0 [(0, .ref (V.2.2.1 + 92)), (1, .int p1), (2, .int p2)] [] σ := by
  unfold Mo_uncaught at h
  refine g_iload_n (pc := 0) X 1 rfl dX12_uncaught_0 ?_
  refine g_i2l (pc := 1) X dX12_uncaught_1 ?_
  refine g_lconst (v := 0) (pc := 2) X rfl dX12_uncaught_2 ?_
  refine g_ldc2 (v := 5) (pc := 3) X k_constl_X12_400 dX12_uncaught_3 ?_
  obtain ⟨r2, hc1, h⟩ := bd_e h
  refine g_callS (pc := 6) X k_ml_X12_270 (run_Mo_isFrom  hc1) rfl (room_ok (Nat.le_of_ble_eq_true rfl) (Nat.le_of_ble_eq_true rfl)) ⟨Nat.le_refl _, Nat.le_refl _⟩ _ rfl (Nat.le_of_ble_eq_true rfl) dX12_uncaught_6 ?_
  show Go V Γ M_X12_uncaught (Zm V Γ 5 fin) 9 [(0, .ref (V.2.2.1 + 92)), (1, .int p1), (2, .int p2)] [.int r2] σ
  refine g_if_eq (pc := 9) (tgt := 24) X dX12_uncaught_9 rfl (fun c63 => ?_) (fun c63 => ?_)
  · replace h := if_t c63 h
    refine g_aload_n (pc := 24) X 0 rfl dX12_uncaught_24 ?_
    refine g_iconst (v := 1) (pc := 25) X rfl dX12_uncaught_25 ?_
    obtain ⟨r4, σ5, hc3, h⟩ := bd2_e h
    refine g_callV (pc := 26) X k_ml_X12_95 (run_Mo_is  hc3) s_92 rfl (room_ok (Nat.le_of_ble_eq_true rfl) (Nat.le_of_ble_eq_true rfl)) ⟨Nat.le_refl _, Nat.le_refl _⟩ _ rfl (Nat.le_of_ble_eq_true rfl) dX12_uncaught_26 ?_
    show Go V Γ M_X12_uncaught (Zm V Γ 5 fin) 29 [(0, .ref (V.2.2.1 + 92)), (1, .int p1), (2, .int p2)] [.int r4] σ5
    obtain ⟨c6, h⟩ := chk_e h
    cases h
    exact g_iret (pc := 29) X rfl (ckz_e c6).1 (hr _ _ hA) dX12_uncaught_29
  · replace h := if_f c63 h
    refine g_iload_n (pc := 12) X 2 rfl dX12_uncaught_12 ?_
    refine g_i2l (pc := 13) X dX12_uncaught_13 ?_
    refine g_lconst (v := 0) (pc := 14) X rfl dX12_uncaught_14 ?_
    refine g_ldc2 (v := 5) (pc := 15) X k_constl_X12_400 dX12_uncaught_15 ?_
    obtain ⟨r8, hc7, h⟩ := bd_e h
    refine g_callS (pc := 18) X k_ml_X12_270 (run_Mo_isFrom  hc7) rfl (room_ok (Nat.le_of_ble_eq_true rfl) (Nat.le_of_ble_eq_true rfl)) ⟨Nat.le_refl _, Nat.le_refl _⟩ _ rfl (Nat.le_of_ble_eq_true rfl) dX12_uncaught_18 ?_
    show Go V Γ M_X12_uncaught (Zm V Γ 5 fin) 21 [(0, .ref (V.2.2.1 + 92)), (1, .int p1), (2, .int p2)] [.int r8] σ
    refine g_if_ne (pc := 21) (tgt := 30) X dX12_uncaught_21 rfl (fun c62 => ?_) (fun c62 => ?_)
    · replace h := if_f c62 h
      refine g_aload_n (pc := 30) X 0 rfl dX12_uncaught_30 ?_
      obtain ⟨r10, σ11, hc9, h⟩ := bd2_e h
      refine g_callV (pc := 31) X k_ml_X12_274 (run_Mo_laysNow  hc9) s_92 rfl (room_ok (Nat.le_of_ble_eq_true rfl) (Nat.le_of_ble_eq_true rfl)) ⟨Nat.le_refl _, Nat.le_refl _⟩ _ rfl (Nat.le_of_ble_eq_true rfl) dX12_uncaught_31 ?_
      show Go V Γ M_X12_uncaught (Zm V Γ 5 fin) 34 [(0, .ref (V.2.2.1 + 92)), (1, .int p1), (2, .int p2)] [.int r10] σ11
      refine g_if_ne (pc := 34) (tgt := 44) X dX12_uncaught_34 rfl (fun c57 => ?_) (fun c57 => ?_)
      · replace h := if_f c57 h
        refine g_aload_n (pc := 44) X 0 rfl dX12_uncaught_44 ?_
        refine g_iconst (v := 0) (pc := 45) X rfl dX12_uncaught_45 ?_
        obtain ⟨r13, hc12, h⟩ := bd_e h
        refine g_callV (pc := 46) X k_ml_X12_277 (run_Mo_justBy  hc12) s_92 rfl (room_ok (Nat.le_of_ble_eq_true rfl) (Nat.le_of_ble_eq_true rfl)) ⟨Nat.le_refl _, Nat.le_refl _⟩ _ rfl (Nat.le_of_ble_eq_true rfl) dX12_uncaught_46 ?_
        show Go V Γ M_X12_uncaught (Zm V Γ 5 fin) 49 [(0, .ref (V.2.2.1 + 92)), (1, .int p1), (2, .int p2)] [.int r13] σ11
        refine g_i2l (pc := 49) X dX12_uncaught_49 ?_
        obtain ⟨v14, e_v14, h⟩ := bnd_e h
        refine g_nmL e_v14 ?_
        refine g_lstore_n (pc := 50) X [(3, .long v14), (0, .ref (V.2.2.1 + 92)), (1, .int p1), (2, .int p2)] rfl (Nat.le_of_ble_eq_true rfl) rfl dX12_uncaught_50 ?_
        refine g_lconst (v := 1) (pc := 51) X rfl dX12_uncaught_51 ?_
        refine g_lstore (pc := 52) X [(5, .long 1), (3, .long v14), (0, .ref (V.2.2.1 + 92)), (1, .int p1), (2, .int p2)] (Nat.le_of_ble_eq_true rfl) rfl dX12_uncaught_52 ?_
        refine g_iconst (v := 0) (pc := 54) X rfl dX12_uncaught_54 ?_
        refine g_istore (pc := 55) X [(7, .int 0), (5, .long 1), (3, .long v14), (0, .ref (V.2.2.1 + 92)), (1, .int p1), (2, .int p2)] (Nat.le_of_ble_eq_true rfl) rfl dX12_uncaught_55 ?_
        refine g_sub [3, 4, 5, 2, 1, 0] rfl ?_
        obtain ⟨σ23, hi24, h⟩ := bd_e h
        refine tl_Mo_uncaught_L57 X  hi24 ?_
        refine g_iconst (v := 0) (pc := 87) X rfl dX12_uncaught_87 ?_
        refine g_istore (pc := 88) X [(7, .int 0), (0, .ref (V.2.2.1 + 92)), (1, .int p1), (2, .int p2), (3, .long v14), (5, .long 1)] (Nat.le_of_ble_eq_true rfl) rfl dX12_uncaught_88 ?_
        refine g_sub [1, 2, 3, 4, 5, 0] rfl ?_
        obtain ⟨v40, σ41, hi42, h⟩ := bd2_e h
        refine tl_Mo_uncaught_L90 X  hi42 ?_
        refine g_lconst (v := 0) (pc := 169) X rfl dX12_uncaught_169 ?_
        refine g_lstore (pc := 170) X [(7, .long 0), (0, .ref (V.2.2.1 + 92)), (2, .int p2), (5, .long v40)] (Nat.le_of_ble_eq_true rfl) rfl dX12_uncaught_170 ?_
        refine g_iload_n (pc := 172) X 2 rfl dX12_uncaught_172 ?_
        refine g_istore (pc := 173) X [(9, .int p2), (7, .long 0), (0, .ref (V.2.2.1 + 92)), (2, .int p2), (5, .long v40)] (Nat.le_of_ble_eq_true rfl) rfl dX12_uncaught_173 ?_
        refine g_sub [2, 4, 1, 0] rfl ?_
        obtain ⟨v47, hi48, h⟩ := bd_e h
        refine tl_Mo_uncaught_L175 X  hi48 ?_
        refine g_aload_n (pc := 200) X 0 rfl dX12_uncaught_200 ?_
        refine g_lload (pc := 201) X 2 rfl dX12_uncaught_201 ?_
        refine g_lload (pc := 203) X 1 rfl dX12_uncaught_203 ?_
        obtain ⟨r50, σ51, hc49, h⟩ := bd2_e h
        refine g_callV (pc := 205) X k_ml_X12_329 (run_Mo_tellsBy  hc49) s_92 rfl (room_ok (Nat.le_of_ble_eq_true rfl) (Nat.le_of_ble_eq_true rfl)) ⟨Nat.le_refl _, Nat.le_refl _⟩ _ rfl (Nat.le_of_ble_eq_true rfl) dX12_uncaught_205 ?_
        show Go V Γ M_X12_uncaught (Zm V Γ 5 fin) 208 [(0, .ref (V.2.2.1 + 92)), (5, .long v40), (7, .long v47)] [.int r50] σ51
        obtain ⟨c52, h⟩ := chk_e h
        cases h
        exact g_iret (pc := 208) X rfl (ckz_e c52).1 (hr _ _ hA) dX12_uncaught_208
      · replace h := if_t c57 h
        refine g_aload_n (pc := 37) X 0 rfl dX12_uncaught_37 ?_
        refine g_bipush (v := 7) (pc := 38) X (by decide) dX12_uncaught_38 ?_
        obtain ⟨r54, σ55, hc53, h⟩ := bd2_e h
        refine g_callV (pc := 40) X k_ml_X12_95 (run_Mo_is  hc53) s_92 rfl (room_ok (Nat.le_of_ble_eq_true rfl) (Nat.le_of_ble_eq_true rfl)) ⟨Nat.le_refl _, Nat.le_refl _⟩ _ rfl (Nat.le_of_ble_eq_true rfl) dX12_uncaught_40 ?_
        show Go V Γ M_X12_uncaught (Zm V Γ 5 fin) 43 [(0, .ref (V.2.2.1 + 92)), (1, .int p1), (2, .int p2)] [.int r54] σ55
        obtain ⟨c56, h⟩ := chk_e h
        cases h
        exact g_iret (pc := 43) X rfl (ckz_e c56).1 (hr _ _ hA) dX12_uncaught_43
    · replace h := if_t c62 h
      refine g_aload_n (pc := 24) X 0 rfl dX12_uncaught_24 ?_
      refine g_iconst (v := 1) (pc := 25) X rfl dX12_uncaught_25 ?_
      obtain ⟨r59, σ60, hc58, h⟩ := bd2_e h
      refine g_callV (pc := 26) X k_ml_X12_95 (run_Mo_is  hc58) s_92 rfl (room_ok (Nat.le_of_ble_eq_true rfl) (Nat.le_of_ble_eq_true rfl)) ⟨Nat.le_refl _, Nat.le_refl _⟩ _ rfl (Nat.le_of_ble_eq_true rfl) dX12_uncaught_26 ?_
      show Go V Γ M_X12_uncaught (Zm V Γ 5 fin) 29 [(0, .ref (V.2.2.1 + 92)), (1, .int p1), (2, .int p2)] [.int r59] σ60
      obtain ⟨c61, h⟩ := chk_e h
      cases h
      exact g_iret (pc := 29) X rfl (ckz_e c61).1 (hr _ _ hA) dX12_uncaught_29
set_option maxRecDepth 100000 in
theorem run_Mo_uncaught {V : Ev} {σ : St} {p1 : Int32} {p2 : Int32} {o : (Int32 × St)}   (h : Mo_uncaught σ p1 p2 = some o) : Rs V 5 M_X12_uncaught [.ref (V.2.2.1 + 92), .int p1, .int p2] σ (some (.int o.1), o.2) := by
  refine Rs.of (by decide +kernel) (Nat.le_of_ble_eq_true rfl) (fun Γ X => ?_)
  exact tm_Mo_uncaught X (A := fun o1 => o1 = o)  (fun _ _ e => by rw [← e]) h rfl
theorem dX12_copySystem_0 : decode cX12_copySystem 0 = .ok (.iload_n 1, 1) := by decide +kernel
theorem dX12_copySystem_1 : decode cX12_copySystem 1 = .ok (.invokestatic 99, 3) := by decide +kernel
theorem dX12_copySystem_4 : decode cX12_copySystem 4 = .ok (.ifCond .ne 9, 3) := by decide +kernel
theorem dX12_copySystem_7 : decode cX12_copySystem 7 = .ok (.aload_n 0, 1) := by decide +kernel
theorem dX12_copySystem_8 : decode cX12_copySystem 8 = .ok (.iconst 1, 1) := by decide +kernel
theorem dX12_copySystem_9 : decode cX12_copySystem 9 = .ok (.invokevirtual 88, 3) := by decide +kernel
theorem dX12_copySystem_12 : decode cX12_copySystem 12 = .ok (.ireturn, 1) := by decide +kernel
theorem dX12_copySystem_13 : decode cX12_copySystem 13 = .ok (.aload_n 0, 1) := by decide +kernel
theorem dX12_copySystem_14 : decode cX12_copySystem 14 = .ok (.getfield 24, 3) := by decide +kernel
theorem dX12_copySystem_17 : decode cX12_copySystem 17 = .ok (.iload_n 1, 1) := by decide +kernel
theorem dX12_copySystem_18 : decode cX12_copySystem 18 = .ok (.iaload, 1) := by decide +kernel
theorem dX12_copySystem_19 : decode cX12_copySystem 19 = .ok (.iconst (-1), 1) := by decide +kernel
theorem dX12_copySystem_20 : decode cX12_copySystem 20 = .ok (.if_icmp .ne 9, 3) := by decide +kernel
theorem dX12_copySystem_23 : decode cX12_copySystem 23 = .ok (.aload_n 0, 1) := by decide +kernel
theorem dX12_copySystem_24 : decode cX12_copySystem 24 = .ok (.iconst 2, 1) := by decide +kernel
theorem dX12_copySystem_25 : decode cX12_copySystem 25 = .ok (.invokevirtual 88, 3) := by decide +kernel
theorem dX12_copySystem_28 : decode cX12_copySystem 28 = .ok (.ireturn, 1) := by decide +kernel
theorem dX12_copySystem_29 : decode cX12_copySystem 29 = .ok (.aload_n 0, 1) := by decide +kernel
theorem dX12_copySystem_30 : decode cX12_copySystem 30 = .ok (.getfield 24, 3) := by decide +kernel
theorem dX12_copySystem_33 : decode cX12_copySystem 33 = .ok (.iload_n 1, 1) := by decide +kernel
theorem dX12_copySystem_34 : decode cX12_copySystem 34 = .ok (.iaload, 1) := by decide +kernel
theorem dX12_copySystem_35 : decode cX12_copySystem 35 = .ok (.iconst 2, 1) := by decide +kernel
theorem dX12_copySystem_36 : decode cX12_copySystem 36 = .ok (.aload_n 0, 1) := by decide +kernel
theorem dX12_copySystem_37 : decode cX12_copySystem 37 = .ok (.getfield 7, 3) := by decide +kernel
theorem dX12_copySystem_40 : decode cX12_copySystem 40 = .ok (.iconst 0, 1) := by decide +kernel
theorem dX12_copySystem_41 : decode cX12_copySystem 41 = .ok (.iaload, 1) := by decide +kernel
theorem dX12_copySystem_42 : decode cX12_copySystem 42 = .ok (.imul, 1) := by decide +kernel
theorem dX12_copySystem_43 : decode cX12_copySystem 43 = .ok (.if_icmp .ge 9, 3) := by decide +kernel
theorem dX12_copySystem_46 : decode cX12_copySystem 46 = .ok (.aload_n 0, 1) := by decide +kernel
theorem dX12_copySystem_47 : decode cX12_copySystem 47 = .ok (.iconst 3, 1) := by decide +kernel
theorem dX12_copySystem_48 : decode cX12_copySystem 48 = .ok (.invokevirtual 88, 3) := by decide +kernel
theorem dX12_copySystem_51 : decode cX12_copySystem 51 = .ok (.ireturn, 1) := by decide +kernel
theorem dX12_copySystem_52 : decode cX12_copySystem 52 = .ok (.iconst 0, 1) := by decide +kernel
theorem dX12_copySystem_53 : decode cX12_copySystem 53 = .ok (.istore_n 2, 1) := by decide +kernel
theorem dX12_copySystem_54 : decode cX12_copySystem 54 = .ok (.iload_n 2, 1) := by decide +kernel
theorem dX12_copySystem_55 : decode cX12_copySystem 55 = .ok (.iconst 2, 1) := by decide +kernel
theorem dX12_copySystem_56 : decode cX12_copySystem 56 = .ok (.aload_n 0, 1) := by decide +kernel
theorem dX12_copySystem_57 : decode cX12_copySystem 57 = .ok (.getfield 7, 3) := by decide +kernel
theorem dX12_copySystem_60 : decode cX12_copySystem 60 = .ok (.iconst 0, 1) := by decide +kernel
theorem dX12_copySystem_61 : decode cX12_copySystem 61 = .ok (.iaload, 1) := by decide +kernel
theorem dX12_copySystem_62 : decode cX12_copySystem 62 = .ok (.imul, 1) := by decide +kernel
theorem dX12_copySystem_63 : decode cX12_copySystem 63 = .ok (.if_icmp .ge 45, 3) := by decide +kernel
theorem dX12_copySystem_66 : decode cX12_copySystem 66 = .ok (.aload_n 0, 1) := by decide +kernel
theorem dX12_copySystem_67 : decode cX12_copySystem 67 = .ok (.getfield 27, 3) := by decide +kernel
theorem dX12_copySystem_70 : decode cX12_copySystem 70 = .ok (.bipush 60, 2) := by decide +kernel
theorem dX12_copySystem_72 : decode cX12_copySystem 72 = .ok (.iload_n 1, 1) := by decide +kernel
theorem dX12_copySystem_73 : decode cX12_copySystem 73 = .ok (.imul, 1) := by decide +kernel
theorem dX12_copySystem_74 : decode cX12_copySystem 74 = .ok (.iload_n 2, 1) := by decide +kernel
theorem dX12_copySystem_75 : decode cX12_copySystem 75 = .ok (.iadd, 1) := by decide +kernel
theorem dX12_copySystem_76 : decode cX12_copySystem 76 = .ok (.aload_n 0, 1) := by decide +kernel
theorem dX12_copySystem_77 : decode cX12_copySystem 77 = .ok (.getfield 7, 3) := by decide +kernel
theorem dX12_copySystem_80 : decode cX12_copySystem 80 = .ok (.iload_n 2, 1) := by decide +kernel
theorem dX12_copySystem_81 : decode cX12_copySystem 81 = .ok (.iconst 2, 1) := by decide +kernel
theorem dX12_copySystem_82 : decode cX12_copySystem 82 = .ok (.idiv, 1) := by decide +kernel
theorem dX12_copySystem_83 : decode cX12_copySystem 83 = .ok (.invokestatic 180, 3) := by decide +kernel
theorem dX12_copySystem_86 : decode cX12_copySystem 86 = .ok (.iload_n 2, 1) := by decide +kernel
theorem dX12_copySystem_87 : decode cX12_copySystem 87 = .ok (.iconst 2, 1) := by decide +kernel
theorem dX12_copySystem_88 : decode cX12_copySystem 88 = .ok (.irem, 1) := by decide +kernel
theorem dX12_copySystem_89 : decode cX12_copySystem 89 = .ok (.iadd, 1) := by decide +kernel
theorem dX12_copySystem_90 : decode cX12_copySystem 90 = .ok (.iaload, 1) := by decide +kernel
theorem dX12_copySystem_91 : decode cX12_copySystem 91 = .ok (.i2l, 1) := by decide +kernel
theorem dX12_copySystem_92 : decode cX12_copySystem 92 = .ok (.aload_n 0, 1) := by decide +kernel
theorem dX12_copySystem_93 : decode cX12_copySystem 93 = .ok (.getfield 21, 3) := by decide +kernel
theorem dX12_copySystem_96 : decode cX12_copySystem 96 = .ok (.iload_n 1, 1) := by decide +kernel
theorem dX12_copySystem_97 : decode cX12_copySystem 97 = .ok (.iaload, 1) := by decide +kernel
theorem dX12_copySystem_98 : decode cX12_copySystem 98 = .ok (.invokestatic 106, 3) := by decide +kernel
theorem dX12_copySystem_101 : decode cX12_copySystem 101 = .ok (.lastore, 1) := by decide +kernel
theorem dX12_copySystem_102 : decode cX12_copySystem 102 = .ok (.iinc 2 1, 3) := by decide +kernel
theorem dX12_copySystem_105 : decode cX12_copySystem 105 = .ok (.goto (-51), 3) := by decide +kernel
theorem dX12_copySystem_108 : decode cX12_copySystem 108 = .ok (.aload_n 0, 1) := by decide +kernel
theorem dX12_copySystem_109 : decode cX12_copySystem 109 = .ok (.aload_n 0, 1) := by decide +kernel
theorem dX12_copySystem_110 : decode cX12_copySystem 110 = .ok (.getfield 7, 3) := by decide +kernel
theorem dX12_copySystem_113 : decode cX12_copySystem 113 = .ok (.iconst 0, 1) := by decide +kernel
theorem dX12_copySystem_114 : decode cX12_copySystem 114 = .ok (.iaload, 1) := by decide +kernel
theorem dX12_copySystem_115 : decode cX12_copySystem 115 = .ok (.invokevirtual 92, 3) := by decide +kernel
theorem dX12_copySystem_118 : decode cX12_copySystem 118 = .ok (.ireturn, 1) := by decide +kernel
noncomputable def Mo_copySystem_L54 (l1 : Int32) (σ : St) (x2 : Int32) : Option ((Int32 × St) ⊕ St) :=
  chk (ix 0 2060) (if (2 * (σ.1 93 (tn 0))) ≤ x2 then (some (.inr σ)) else (chk (nzI 2) (bd (Mo_rowOf (x2 / 2)) (fun r9 => chk (nzI 2) (chk (ix (r9 + (jrem x2 2)) 2060) (chk (ix l1 4) (bd (Mo_cut ((σ.1 93 (tn (r9 + (jrem x2 2)))).toInt64) (σ.1 95 (tn l1))) (fun r14 => chk (ix ((60 * l1) + x2) 240) (bnd (wL σ 97 (tn ((60 * l1) + x2)) r14) (fun σ16 => bnd (x2 + 1) (fun v17 => some (.inl (v17, σ16)))))))))))))
set_option maxRecDepth 100000 in
set_option maxHeartbeats 4000000 in
theorem tb_Mo_copySystem_L54 {V : Ev} {Γ : Cn} {fin : Option Value × St} {l1 : Int32} {σ : St} {x2 : Int32} {o : ((Int32 × St) ⊕ St)} (X : Cx V Γ M_X12_copySystem) {A : ((Int32 × St) ⊕ St) → Prop}  (hb54 : ∀ (x2 : Int32) (σ9 : St), A (.inl (x2, σ9)) → Go V Γ M_X12_copySystem (Zm V Γ 1 fin) 54 [(0, .ref (V.2.2.1 + 92)), (1, .int l1), (2, .int x2)] [] σ9) (hx54 : ∀ (σ9 : St), A (.inr σ9) → Go V Γ M_X12_copySystem (Zm V Γ 1 fin) 108 [(0, .ref (V.2.2.1 + 92))] [] σ9) (h : Mo_copySystem_L54 l1 σ x2 = some o) (hA : A o) : Go V Γ M_X12_copySystem (Zm V Γ 1 fin) 54 [(0, .ref (V.2.2.1 + 92)), (1, .int l1), (2, .int x2)] [] σ := by
  unfold Mo_copySystem_L54 at h
  refine g_iload_n (pc := 54) X 2 rfl dX12_copySystem_54 ?_
  refine g_iconst (v := 2) (pc := 55) X rfl dX12_copySystem_55 ?_
  refine g_aload_n (pc := 56) X 0 rfl dX12_copySystem_56 ?_
  refine g_getR (r := 93) (pc := 57) X k_fl_X12_7 s_92 rfl dX12_copySystem_57 ?_
  refine g_iconst (v := 0) (pc := 60) X rfl dX12_copySystem_60 ?_
  obtain ⟨c6, h⟩ := chk_e h
  refine g_iald (pc := 61) X s_93 c6 dX12_copySystem_61 ?_
  refine g_imul (pc := 62) X dX12_copySystem_62 ?_
  refine g_icmp_ge (pc := 63) (tgt := 108) X dX12_copySystem_63 rfl (fun c18 => ?_) (fun c18 => ?_)
  · replace h := if_t c18 h
    refine g_sub [0] rfl ?_
    cases h
    exact hx54 _ hA
  · replace h := if_f c18 h
    refine g_aload_n (pc := 66) X 0 rfl dX12_copySystem_66 ?_
    refine g_getR (r := 97) (pc := 67) X k_fl_X12_27 s_92 rfl dX12_copySystem_67 ?_
    refine g_bipush (v := 60) (pc := 70) X (by decide) dX12_copySystem_70 ?_
    refine g_iload_n (pc := 72) X 1 rfl dX12_copySystem_72 ?_
    refine g_imul (pc := 73) X dX12_copySystem_73 ?_
    refine g_iload_n (pc := 74) X 2 rfl dX12_copySystem_74 ?_
    refine g_iadd (pc := 75) X dX12_copySystem_75 ?_
    refine g_aload_n (pc := 76) X 0 rfl dX12_copySystem_76 ?_
    refine g_getR (r := 93) (pc := 77) X k_fl_X12_7 s_92 rfl dX12_copySystem_77 ?_
    refine g_iload_n (pc := 80) X 2 rfl dX12_copySystem_80 ?_
    refine g_iconst (v := 2) (pc := 81) X rfl dX12_copySystem_81 ?_
    obtain ⟨c7, h⟩ := chk_e h
    refine g_idiv (pc := 82) X (nzI_e c7) dX12_copySystem_82 ?_
    obtain ⟨r9, hc8, h⟩ := bd_e h
    refine g_callS (pc := 83) X k_ml_X12_180 (run_Mo_rowOf  hc8) rfl (room_ok (Nat.le_of_ble_eq_true rfl) (Nat.le_of_ble_eq_true rfl)) ⟨Nat.le_refl _, Nat.le_refl _⟩ _ rfl (Nat.le_of_ble_eq_true rfl) dX12_copySystem_83 ?_
    show Go V Γ M_X12_copySystem (Zm V Γ 1 fin) 86 [(0, .ref (V.2.2.1 + 92)), (1, .int l1), (2, .int x2)] [.int r9, .ref (V.2.2.1 + 93), .int ((60 * l1) + x2), .ref (V.2.2.1 + 97)] σ
    refine g_iload_n (pc := 86) X 2 rfl dX12_copySystem_86 ?_
    refine g_iconst (v := 2) (pc := 87) X rfl dX12_copySystem_87 ?_
    obtain ⟨c10, h⟩ := chk_e h
    refine g_irem (pc := 88) X (nzI_e c10) dX12_copySystem_88 ?_
    refine g_iadd (pc := 89) X dX12_copySystem_89 ?_
    obtain ⟨c11, h⟩ := chk_e h
    refine g_iald (pc := 90) X s_93 c11 dX12_copySystem_90 ?_
    refine g_i2l (pc := 91) X dX12_copySystem_91 ?_
    refine g_aload_n (pc := 92) X 0 rfl dX12_copySystem_92 ?_
    refine g_getR (r := 95) (pc := 93) X k_fl_X12_21 s_92 rfl dX12_copySystem_93 ?_
    refine g_iload_n (pc := 96) X 1 rfl dX12_copySystem_96 ?_
    obtain ⟨c12, h⟩ := chk_e h
    refine g_iald (pc := 97) X s_95 c12 dX12_copySystem_97 ?_
    obtain ⟨r14, hc13, h⟩ := bd_e h
    refine g_callS (pc := 98) X k_ml_X12_106 (run_Mo_cut  hc13) rfl (room_ok (Nat.le_of_ble_eq_true rfl) (Nat.le_of_ble_eq_true rfl)) ⟨Nat.le_refl _, Nat.le_refl _⟩ _ rfl (Nat.le_of_ble_eq_true rfl) dX12_copySystem_98 ?_
    show Go V Γ M_X12_copySystem (Zm V Γ 1 fin) 101 [(0, .ref (V.2.2.1 + 92)), (1, .int l1), (2, .int x2)] [.long r14, .int ((60 * l1) + x2), .ref (V.2.2.1 + 97)] σ
    obtain ⟨c15, h⟩ := chk_e h
    refine g_last (pc := 101) X s_97 c15 dX12_copySystem_101 ?_
    obtain ⟨σ16, e_σ16, h⟩ := bnd_e h
    refine g_nmS e_σ16 ?_
    obtain ⟨v17, e_v17, h⟩ := bnd_e h
    refine g_iinc (pc := 102) (v := v17) X [(2, .int v17), (0, .ref (V.2.2.1 + 92)), (1, .int l1)] 2 rfl (by rw [e_v17]; rfl) (Nat.le_of_ble_eq_true rfl) rfl dX12_copySystem_102 ?_
    refine g_goto (pc := 105) (tgt := 54) X dX12_copySystem_105 rfl ?_
    refine g_sub [1, 2, 0] rfl ?_
    cases h
    exact hb54 _ _ hA
set_option maxRecDepth 100000 in
theorem tl_Mo_copySystem_L54 {V : Ev} {Γ : Cn} {fin : Option Value × St} {l1 : Int32} {x2 : Int32} {σ9 : St} (X : Cx V Γ M_X12_copySystem)  {σ8 : St} {n : Nat} (h : iter (fun s : (Int32 × St) => Mo_copySystem_L54 l1 s.2 s.1) n (x2, σ9) = some σ8) (hK : Go V Γ M_X12_copySystem (Zm V Γ 1 fin) 108 [(0, .ref (V.2.2.1 + 92))] [] σ8) : Go V Γ M_X12_copySystem (Zm V Γ 1 fin) 54 [(0, .ref (V.2.2.1 + 92)), (1, .int l1), (2, .int x2)] [] σ9 := by
  refine iter_go (G := (fun s : (Int32 × St) => Go V Γ M_X12_copySystem (Zm V Γ 1 fin) 54 [(0, .ref (V.2.2.1 + 92)), (1, .int l1), (2, .int s.1)] [] s.2)) (fun s o ho hS => ?_) n (x2, σ9) h
  exact tb_Mo_copySystem_L54 X  (fun _ _ h9 => h9) (fun _ he => by cases he; exact hK) ho hS
noncomputable def Mo_copySystem (σ : St) (p1 : Int32) : Option (Int32 × St) :=
  bd (Mo_isTray p1) (fun r2 => if r2 = 0 then (bd2 (Mo_refuse σ 1) (fun r34 σ35 => some (r34, σ35))) else (chk (ix p1 4) (if (σ.1 96 (tn p1)) = (-1) then (bd2 (Mo_refuse σ 2) (fun r30 σ31 => some (r30, σ31))) else (chk (ix p1 4) (chk (ix 0 2060) (if (2 * (σ.1 93 (tn 0))) ≤ (σ.1 96 (tn p1)) then (bd (iter (fun s : (Int32 × St) => Mo_copySystem_L54 p1 s.2 s.1) FUEL (0, σ)) (fun σ19 => chk (ix 0 2060) (bd2 (Mo_gives σ19 (σ19.1 93 (tn 0))) (fun r23 σ24 => some (r23, σ24))))) else (bd2 (Mo_refuse σ 3) (fun r26 σ27 => some (r26, σ27)))))))))
set_option maxRecDepth 100000 in
set_option maxHeartbeats 4000000 in
theorem tm_Mo_copySystem {V : Ev} {Γ : Cn} {fin : Option Value × St} {σ : St} {p1 : Int32} {o : (Int32 × St)} (X : Cx V Γ M_X12_copySystem) {A : (Int32 × St) → Prop}  (hr : ∀ (r : Int32) (σ9 : St), A (r, σ9) → (some (.int r), σ9) = fin) (h : Mo_copySystem σ p1 = some o) (hA : A o) : Go V Γ M_X12_copySystem (Zm V Γ 1 fin) 0 [(0, .ref (V.2.2.1 + 92)), (1, .int p1)] [] σ := by
  unfold Mo_copySystem at h
  refine g_iload_n (pc := 0) X 1 rfl dX12_copySystem_0 ?_
  obtain ⟨r2, hc1, h⟩ := bd_e h
  refine g_callS (pc := 1) X k_ml_X12_99 (run_Mo_isTray  hc1) rfl (room_ok (Nat.le_of_ble_eq_true rfl) (Nat.le_of_ble_eq_true rfl)) ⟨Nat.le_refl _, Nat.le_refl _⟩ _ rfl (Nat.le_of_ble_eq_true rfl) dX12_copySystem_1 ?_
  show Go V Γ M_X12_copySystem (Zm V Γ 1 fin) 4 [(0, .ref (V.2.2.1 + 92)), (1, .int p1)] [.int r2] σ
  refine g_if_ne (pc := 4) (tgt := 13) X dX12_copySystem_4 rfl (fun c36 => ?_) (fun c36 => ?_)
  · replace h := if_f c36 h
    refine g_aload_n (pc := 13) X 0 rfl dX12_copySystem_13 ?_
    refine g_getR (r := 96) (pc := 14) X k_fl_X12_24 s_92 rfl dX12_copySystem_14 ?_
    refine g_iload_n (pc := 17) X 1 rfl dX12_copySystem_17 ?_
    obtain ⟨c3, h⟩ := chk_e h
    refine g_iald (pc := 18) X s_96 c3 dX12_copySystem_18 ?_
    refine g_iconst (v := (-1)) (pc := 19) X rfl dX12_copySystem_19 ?_
    refine g_icmp_ne (pc := 20) (tgt := 29) X dX12_copySystem_20 rfl (fun c32 => ?_) (fun c32 => ?_)
    · replace h := if_f c32 h
      refine g_aload_n (pc := 29) X 0 rfl dX12_copySystem_29 ?_
      refine g_getR (r := 96) (pc := 30) X k_fl_X12_24 s_92 rfl dX12_copySystem_30 ?_
      refine g_iload_n (pc := 33) X 1 rfl dX12_copySystem_33 ?_
      obtain ⟨c4, h⟩ := chk_e h
      refine g_iald (pc := 34) X s_96 c4 dX12_copySystem_34 ?_
      refine g_iconst (v := 2) (pc := 35) X rfl dX12_copySystem_35 ?_
      refine g_aload_n (pc := 36) X 0 rfl dX12_copySystem_36 ?_
      refine g_getR (r := 93) (pc := 37) X k_fl_X12_7 s_92 rfl dX12_copySystem_37 ?_
      refine g_iconst (v := 0) (pc := 40) X rfl dX12_copySystem_40 ?_
      obtain ⟨c5, h⟩ := chk_e h
      refine g_iald (pc := 41) X s_93 c5 dX12_copySystem_41 ?_
      refine g_imul (pc := 42) X dX12_copySystem_42 ?_
      refine g_icmp_ge (pc := 43) (tgt := 52) X dX12_copySystem_43 rfl (fun c28 => ?_) (fun c28 => ?_)
      · replace h := if_t c28 h
        refine g_iconst (v := 0) (pc := 52) X rfl dX12_copySystem_52 ?_
        refine g_istore_n (pc := 53) X [(2, .int 0), (0, .ref (V.2.2.1 + 92)), (1, .int p1)] rfl (Nat.le_of_ble_eq_true rfl) rfl dX12_copySystem_53 ?_
        refine g_sub [1, 2, 0] rfl ?_
        obtain ⟨σ19, hi20, h⟩ := bd_e h
        refine tl_Mo_copySystem_L54 X  hi20 ?_
        refine g_aload_n (pc := 108) X 0 rfl dX12_copySystem_108 ?_
        refine g_aload_n (pc := 109) X 0 rfl dX12_copySystem_109 ?_
        refine g_getR (r := 93) (pc := 110) X k_fl_X12_7 s_92 rfl dX12_copySystem_110 ?_
        refine g_iconst (v := 0) (pc := 113) X rfl dX12_copySystem_113 ?_
        obtain ⟨c21, h⟩ := chk_e h
        refine g_iald (pc := 114) X s_93 c21 dX12_copySystem_114 ?_
        obtain ⟨r23, σ24, hc22, h⟩ := bd2_e h
        refine g_callV (pc := 115) X k_ml_X12_92 (run_Mo_gives  hc22) s_92 rfl (room_ok (Nat.le_of_ble_eq_true rfl) (Nat.le_of_ble_eq_true rfl)) ⟨Nat.le_refl _, Nat.le_refl _⟩ _ rfl (Nat.le_of_ble_eq_true rfl) dX12_copySystem_115 ?_
        show Go V Γ M_X12_copySystem (Zm V Γ 1 fin) 118 [(0, .ref (V.2.2.1 + 92))] [.int r23] σ24
        cases h
        exact g_iret (pc := 118) X rfl rfl (hr _ _ hA) dX12_copySystem_118
      · replace h := if_f c28 h
        refine g_aload_n (pc := 46) X 0 rfl dX12_copySystem_46 ?_
        refine g_iconst (v := 3) (pc := 47) X rfl dX12_copySystem_47 ?_
        obtain ⟨r26, σ27, hc25, h⟩ := bd2_e h
        refine g_callV (pc := 48) X k_ml_X12_88 (run_Mo_refuse  hc25) s_92 rfl (room_ok (Nat.le_of_ble_eq_true rfl) (Nat.le_of_ble_eq_true rfl)) ⟨Nat.le_refl _, Nat.le_refl _⟩ _ rfl (Nat.le_of_ble_eq_true rfl) dX12_copySystem_48 ?_
        show Go V Γ M_X12_copySystem (Zm V Γ 1 fin) 51 [(0, .ref (V.2.2.1 + 92)), (1, .int p1)] [.int r26] σ27
        cases h
        exact g_iret (pc := 51) X rfl rfl (hr _ _ hA) dX12_copySystem_51
    · replace h := if_t c32 h
      refine g_aload_n (pc := 23) X 0 rfl dX12_copySystem_23 ?_
      refine g_iconst (v := 2) (pc := 24) X rfl dX12_copySystem_24 ?_
      obtain ⟨r30, σ31, hc29, h⟩ := bd2_e h
      refine g_callV (pc := 25) X k_ml_X12_88 (run_Mo_refuse  hc29) s_92 rfl (room_ok (Nat.le_of_ble_eq_true rfl) (Nat.le_of_ble_eq_true rfl)) ⟨Nat.le_refl _, Nat.le_refl _⟩ _ rfl (Nat.le_of_ble_eq_true rfl) dX12_copySystem_25 ?_
      show Go V Γ M_X12_copySystem (Zm V Γ 1 fin) 28 [(0, .ref (V.2.2.1 + 92)), (1, .int p1)] [.int r30] σ31
      cases h
      exact g_iret (pc := 28) X rfl rfl (hr _ _ hA) dX12_copySystem_28
  · replace h := if_t c36 h
    refine g_aload_n (pc := 7) X 0 rfl dX12_copySystem_7 ?_
    refine g_iconst (v := 1) (pc := 8) X rfl dX12_copySystem_8 ?_
    obtain ⟨r34, σ35, hc33, h⟩ := bd2_e h
    refine g_callV (pc := 9) X k_ml_X12_88 (run_Mo_refuse  hc33) s_92 rfl (room_ok (Nat.le_of_ble_eq_true rfl) (Nat.le_of_ble_eq_true rfl)) ⟨Nat.le_refl _, Nat.le_refl _⟩ _ rfl (Nat.le_of_ble_eq_true rfl) dX12_copySystem_9 ?_
    show Go V Γ M_X12_copySystem (Zm V Γ 1 fin) 12 [(0, .ref (V.2.2.1 + 92)), (1, .int p1)] [.int r34] σ35
    cases h
    exact g_iret (pc := 12) X rfl rfl (hr _ _ hA) dX12_copySystem_12
set_option maxRecDepth 100000 in
theorem run_Mo_copySystem {V : Ev} {σ : St} {p1 : Int32} {o : (Int32 × St)}   (h : Mo_copySystem σ p1 = some o) : Rs V 1 M_X12_copySystem [.ref (V.2.2.1 + 92), .int p1] σ (some (.int o.1), o.2) := by
  refine Rs.of (by decide +kernel) (Nat.le_of_ble_eq_true rfl) (fun Γ X => ?_)
  exact tm_Mo_copySystem X (A := fun o1 => o1 = o)  (fun _ _ e => by rw [← e]) h rfl
theorem dX12_draw_0 : decode cX12_draw 0 = .ok (.aload_n 0, 1) := by decide +kernel
theorem dX12_draw_1 : decode cX12_draw 1 = .ok (.aload_n 0, 1) := by decide +kernel
theorem dX12_draw_2 : decode cX12_draw 2 = .ok (.getfield 402, 3) := by decide +kernel
theorem dX12_draw_5 : decode cX12_draw 5 = .ok (.sipush 3299, 3) := by decide +kernel
theorem dX12_draw_8 : decode cX12_draw 8 = .ok (.imul, 1) := by decide +kernel
theorem dX12_draw_9 : decode cX12_draw 9 = .ok (.sipush 11531, 3) := by decide +kernel
theorem dX12_draw_12 : decode cX12_draw 12 = .ok (.iadd, 1) := by decide +kernel
theorem dX12_draw_13 : decode cX12_draw 13 = .ok (.ldc_w 405, 3) := by decide +kernel
theorem dX12_draw_16 : decode cX12_draw 16 = .ok (.irem, 1) := by decide +kernel
theorem dX12_draw_17 : decode cX12_draw 17 = .ok (.putfield 402, 3) := by decide +kernel
theorem dX12_draw_20 : decode cX12_draw 20 = .ok (.aload_n 0, 1) := by decide +kernel
theorem dX12_draw_21 : decode cX12_draw 21 = .ok (.getfield 402, 3) := by decide +kernel
theorem dX12_draw_24 : decode cX12_draw 24 = .ok (.bipush 8, 2) := by decide +kernel
theorem dX12_draw_26 : decode cX12_draw 26 = .ok (.idiv, 1) := by decide +kernel
theorem dX12_draw_27 : decode cX12_draw 27 = .ok (.iload_n 1, 1) := by decide +kernel
theorem dX12_draw_28 : decode cX12_draw 28 = .ok (.irem, 1) := by decide +kernel
theorem dX12_draw_29 : decode cX12_draw 29 = .ok (.ireturn, 1) := by decide +kernel
noncomputable def Mo_draw (σ : St) (p1 : Int32) : Option (Int32 × St) :=
  chk (nzI 65536) (bnd (wI σ 92 32 (jrem (((σ.1 92 32) * 3299) + 11531) 65536)) (fun σ2 => chk (nzI 8) (chk (nzI p1) (some ((jrem ((σ2.1 92 32) / 8) p1), σ2)))))
set_option maxRecDepth 100000 in
set_option maxHeartbeats 4000000 in
theorem tm_Mo_draw {V : Ev} {Γ : Cn} {fin : Option Value × St} {σ : St} {p1 : Int32} {o : (Int32 × St)} (X : Cx V Γ M_X12_draw) {A : (Int32 × St) → Prop}  (hr : ∀ (r : Int32) (σ9 : St), A (r, σ9) → (some (.int r), σ9) = fin) (h : Mo_draw σ p1 = some o) (hA : A o) : Go V Γ M_X12_draw (Zm V Γ 0 fin) 0 [(0, .ref (V.2.2.1 + 92)), (1, .int p1)] [] σ := by
  unfold Mo_draw at h
  refine g_aload_n (pc := 0) X 0 rfl dX12_draw_0 ?_
  refine g_aload_n (pc := 1) X 0 rfl dX12_draw_1 ?_
  refine g_getI (pc := 2) X k_fl_X12_402 s_92 rfl dX12_draw_2 ?_
  refine g_sipush (v := 3299) (pc := 5) X (by decide) dX12_draw_5 ?_
  refine g_imul (pc := 8) X dX12_draw_8 ?_
  refine g_sipush (v := 11531) (pc := 9) X (by decide) dX12_draw_9 ?_
  refine g_iadd (pc := 12) X dX12_draw_12 ?_
  refine g_ldcw (v := 65536) (pc := 13) X (k_const_X12_405) dX12_draw_13 ?_
  obtain ⟨c1, h⟩ := chk_e h
  refine g_irem (pc := 16) X (nzI_e c1) dX12_draw_16 ?_
  refine g_putI (pc := 17) X k_fl_X12_402 s_92 rfl rfl rfl dX12_draw_17 ?_
  obtain ⟨σ2, e_σ2, h⟩ := bnd_e h
  refine g_nmS e_σ2 ?_
  refine g_aload_n (pc := 20) X 0 rfl dX12_draw_20 ?_
  refine g_getI (pc := 21) X k_fl_X12_402 s_92 rfl dX12_draw_21 ?_
  refine g_bipush (v := 8) (pc := 24) X (by decide) dX12_draw_24 ?_
  obtain ⟨c3, h⟩ := chk_e h
  refine g_idiv (pc := 26) X (nzI_e c3) dX12_draw_26 ?_
  refine g_iload_n (pc := 27) X 1 rfl dX12_draw_27 ?_
  obtain ⟨c4, h⟩ := chk_e h
  refine g_irem (pc := 28) X (nzI_e c4) dX12_draw_28 ?_
  cases h
  exact g_iret (pc := 29) X rfl rfl (hr _ _ hA) dX12_draw_29
set_option maxRecDepth 100000 in
theorem run_Mo_draw {V : Ev} {σ : St} {p1 : Int32} {o : (Int32 × St)}   (h : Mo_draw σ p1 = some o) : Rs V 0 M_X12_draw [.ref (V.2.2.1 + 92), .int p1] σ (some (.int o.1), o.2) := by
  refine Rs.of (by decide +kernel) (Nat.le_of_ble_eq_true rfl) (fun Γ X => ?_)
  exact tm_Mo_draw X (A := fun o1 => o1 = o)  (fun _ _ e => by rw [← e]) h rfl
theorem dX12_switches_0 : decode cX12_switches 0 = .ok (.aload_n 0, 1) := by decide +kernel
theorem dX12_switches_1 : decode cX12_switches 1 = .ok (.iload_n 1, 1) := by decide +kernel
theorem dX12_switches_2 : decode cX12_switches 2 = .ok (.invokevirtual 286, 3) := by decide +kernel
theorem dX12_switches_5 : decode cX12_switches 5 = .ok (.ifCond .eq 18, 3) := by decide +kernel
theorem dX12_switches_8 : decode cX12_switches 8 = .ok (.aload_n 0, 1) := by decide +kernel
theorem dX12_switches_9 : decode cX12_switches 9 = .ok (.getfield 7, 3) := by decide +kernel
theorem dX12_switches_12 : decode cX12_switches 12 = .ok (.iload_n 1, 1) := by decide +kernel
theorem dX12_switches_13 : decode cX12_switches 13 = .ok (.invokestatic 180, 3) := by decide +kernel
theorem dX12_switches_16 : decode cX12_switches 16 = .ok (.iconst 2, 1) := by decide +kernel
theorem dX12_switches_17 : decode cX12_switches 17 = .ok (.iadd, 1) := by decide +kernel
theorem dX12_switches_18 : decode cX12_switches 18 = .ok (.iaload, 1) := by decide +kernel
theorem dX12_switches_19 : decode cX12_switches 19 = .ok (.iload_n 2, 1) := by decide +kernel
theorem dX12_switches_20 : decode cX12_switches 20 = .ok (.if_icmp .ne 5, 3) := by decide +kernel
theorem dX12_switches_23 : decode cX12_switches 23 = .ok (.iconst 0, 1) := by decide +kernel
theorem dX12_switches_24 : decode cX12_switches 24 = .ok (.ireturn, 1) := by decide +kernel
theorem dX12_switches_25 : decode cX12_switches 25 = .ok (.aload_n 0, 1) := by decide +kernel
theorem dX12_switches_26 : decode cX12_switches 26 = .ok (.getfield 7, 3) := by decide +kernel
theorem dX12_switches_29 : decode cX12_switches 29 = .ok (.iload_n 1, 1) := by decide +kernel
theorem dX12_switches_30 : decode cX12_switches 30 = .ok (.invokestatic 180, 3) := by decide +kernel
theorem dX12_switches_33 : decode cX12_switches 33 = .ok (.iconst 2, 1) := by decide +kernel
theorem dX12_switches_34 : decode cX12_switches 34 = .ok (.iadd, 1) := by decide +kernel
theorem dX12_switches_35 : decode cX12_switches 35 = .ok (.iload_n 2, 1) := by decide +kernel
theorem dX12_switches_36 : decode cX12_switches 36 = .ok (.iastore, 1) := by decide +kernel
theorem dX12_switches_37 : decode cX12_switches 37 = .ok (.aload_n 0, 1) := by decide +kernel
theorem dX12_switches_38 : decode cX12_switches 38 = .ok (.getfield 72, 3) := by decide +kernel
theorem dX12_switches_41 : decode cX12_switches 41 = .ok (.iconst 2, 1) := by decide +kernel
theorem dX12_switches_42 : decode cX12_switches 42 = .ok (.iload_n 2, 1) := by decide +kernel
theorem dX12_switches_43 : decode cX12_switches 43 = .ok (.isub, 1) := by decide +kernel
theorem dX12_switches_44 : decode cX12_switches 44 = .ok (.dup2, 1) := by decide +kernel
theorem dX12_switches_45 : decode cX12_switches 45 = .ok (.iaload, 1) := by decide +kernel
theorem dX12_switches_46 : decode cX12_switches 46 = .ok (.iconst 1, 1) := by decide +kernel
theorem dX12_switches_47 : decode cX12_switches 47 = .ok (.iadd, 1) := by decide +kernel
theorem dX12_switches_48 : decode cX12_switches 48 = .ok (.iastore, 1) := by decide +kernel
theorem dX12_switches_49 : decode cX12_switches 49 = .ok (.iconst 1, 1) := by decide +kernel
theorem dX12_switches_50 : decode cX12_switches 50 = .ok (.ireturn, 1) := by decide +kernel
noncomputable def Mo_switches (σ : St) (p1 : Int32) (p2 : Int32) : Option (Int32 × St) :=
  bd (Mo_isClass σ p1) (fun r2 => if r2 = 0 then (some (0, σ)) else (bd (Mo_rowOf p1) (fun r4 => chk (ix (r4 + 2) 2060) (if (σ.1 93 (tn (r4 + 2))) = p2 then (some (0, σ)) else (bd (Mo_rowOf p1) (fun r7 => chk (ix (r7 + 2) 2060) (bnd (wI σ 93 (tn (r7 + 2)) p2) (fun σ9 => chk (ix (2 - p2) 5) (chk (ix (2 - p2) 5) (bnd (wI σ9 109 (tn (2 - p2)) ((σ9.1 109 (tn (2 - p2))) + 1)) (fun σ12 => some (1, σ12))))))))))))
set_option maxRecDepth 100000 in
set_option maxHeartbeats 4000000 in
theorem tm_Mo_switches {V : Ev} {Γ : Cn} {fin : Option Value × St} {σ : St} {p1 : Int32} {p2 : Int32} {o : (Int32 × St)} (X : Cx V Γ M_X12_switches) {A : (Int32 × St) → Prop}  (hr : ∀ (r : Int32) (σ9 : St), A (r, σ9) → (some (.int r), σ9) = fin) (h : Mo_switches σ p1 p2 = some o) (hA : A o) : Go V Γ M_X12_switches (Zm V Γ 1 fin) 0 [(0, .ref (V.2.2.1 + 92)), (1, .int p1), (2, .int p2)] [] σ := by
  unfold Mo_switches at h
  refine g_aload_n (pc := 0) X 0 rfl dX12_switches_0 ?_
  refine g_iload_n (pc := 1) X 1 rfl dX12_switches_1 ?_
  obtain ⟨r2, hc1, h⟩ := bd_e h
  refine g_callV (pc := 2) X k_ml_X12_286 (run_Mo_isClass  hc1) s_92 rfl (room_ok (Nat.le_of_ble_eq_true rfl) (Nat.le_of_ble_eq_true rfl)) ⟨Nat.le_refl _, Nat.le_refl _⟩ _ rfl (Nat.le_of_ble_eq_true rfl) dX12_switches_2 ?_
  show Go V Γ M_X12_switches (Zm V Γ 1 fin) 5 [(0, .ref (V.2.2.1 + 92)), (1, .int p1), (2, .int p2)] [.int r2] σ
  refine g_if_eq (pc := 5) (tgt := 23) X dX12_switches_5 rfl (fun c14 => ?_) (fun c14 => ?_)
  · replace h := if_t c14 h
    refine g_iconst (v := 0) (pc := 23) X rfl dX12_switches_23 ?_
    cases h
    exact g_iret (pc := 24) X rfl nz0.1 (hr _ _ hA) dX12_switches_24
  · replace h := if_f c14 h
    refine g_aload_n (pc := 8) X 0 rfl dX12_switches_8 ?_
    refine g_getR (r := 93) (pc := 9) X k_fl_X12_7 s_92 rfl dX12_switches_9 ?_
    refine g_iload_n (pc := 12) X 1 rfl dX12_switches_12 ?_
    obtain ⟨r4, hc3, h⟩ := bd_e h
    refine g_callS (pc := 13) X k_ml_X12_180 (run_Mo_rowOf  hc3) rfl (room_ok (Nat.le_of_ble_eq_true rfl) (Nat.le_of_ble_eq_true rfl)) ⟨Nat.le_refl _, Nat.le_refl _⟩ _ rfl (Nat.le_of_ble_eq_true rfl) dX12_switches_13 ?_
    show Go V Γ M_X12_switches (Zm V Γ 1 fin) 16 [(0, .ref (V.2.2.1 + 92)), (1, .int p1), (2, .int p2)] [.int r4, .ref (V.2.2.1 + 93)] σ
    refine g_iconst (v := 2) (pc := 16) X rfl dX12_switches_16 ?_
    refine g_iadd (pc := 17) X dX12_switches_17 ?_
    obtain ⟨c5, h⟩ := chk_e h
    refine g_iald (pc := 18) X s_93 c5 dX12_switches_18 ?_
    refine g_iload_n (pc := 19) X 2 rfl dX12_switches_19 ?_
    refine g_icmp_ne (pc := 20) (tgt := 25) X dX12_switches_20 rfl (fun c13 => ?_) (fun c13 => ?_)
    · replace h := if_f c13 h
      refine g_aload_n (pc := 25) X 0 rfl dX12_switches_25 ?_
      refine g_getR (r := 93) (pc := 26) X k_fl_X12_7 s_92 rfl dX12_switches_26 ?_
      refine g_iload_n (pc := 29) X 1 rfl dX12_switches_29 ?_
      obtain ⟨r7, hc6, h⟩ := bd_e h
      refine g_callS (pc := 30) X k_ml_X12_180 (run_Mo_rowOf  hc6) rfl (room_ok (Nat.le_of_ble_eq_true rfl) (Nat.le_of_ble_eq_true rfl)) ⟨Nat.le_refl _, Nat.le_refl _⟩ _ rfl (Nat.le_of_ble_eq_true rfl) dX12_switches_30 ?_
      show Go V Γ M_X12_switches (Zm V Γ 1 fin) 33 [(0, .ref (V.2.2.1 + 92)), (1, .int p1), (2, .int p2)] [.int r7, .ref (V.2.2.1 + 93)] σ
      refine g_iconst (v := 2) (pc := 33) X rfl dX12_switches_33 ?_
      refine g_iadd (pc := 34) X dX12_switches_34 ?_
      refine g_iload_n (pc := 35) X 2 rfl dX12_switches_35 ?_
      obtain ⟨c8, h⟩ := chk_e h
      refine g_iast (pc := 36) X s_93 c8 dX12_switches_36 ?_
      obtain ⟨σ9, e_σ9, h⟩ := bnd_e h
      refine g_nmS e_σ9 ?_
      refine g_aload_n (pc := 37) X 0 rfl dX12_switches_37 ?_
      refine g_getR (r := 109) (pc := 38) X k_fl_X12_72 s_92 rfl dX12_switches_38 ?_
      refine g_iconst (v := 2) (pc := 41) X rfl dX12_switches_41 ?_
      refine g_iload_n (pc := 42) X 2 rfl dX12_switches_42 ?_
      refine g_isub (pc := 43) X dX12_switches_43 ?_
      refine g_dup2 (pc := 44) X rfl rfl dX12_switches_44 ?_
      obtain ⟨c10, h⟩ := chk_e h
      refine g_iald (pc := 45) X s_109 c10 dX12_switches_45 ?_
      refine g_iconst (v := 1) (pc := 46) X rfl dX12_switches_46 ?_
      refine g_iadd (pc := 47) X dX12_switches_47 ?_
      obtain ⟨c11, h⟩ := chk_e h
      refine g_iast (pc := 48) X s_109 c11 dX12_switches_48 ?_
      obtain ⟨σ12, e_σ12, h⟩ := bnd_e h
      refine g_nmS e_σ12 ?_
      refine g_iconst (v := 1) (pc := 49) X rfl dX12_switches_49 ?_
      cases h
      exact g_iret (pc := 50) X rfl nz1.1 (hr _ _ hA) dX12_switches_50
    · replace h := if_t c13 h
      refine g_iconst (v := 0) (pc := 23) X rfl dX12_switches_23 ?_
      cases h
      exact g_iret (pc := 24) X rfl nz0.1 (hr _ _ hA) dX12_switches_24
set_option maxRecDepth 100000 in
theorem run_Mo_switches {V : Ev} {σ : St} {p1 : Int32} {p2 : Int32} {o : (Int32 × St)}   (h : Mo_switches σ p1 p2 = some o) : Rs V 1 M_X12_switches [.ref (V.2.2.1 + 92), .int p1, .int p2] σ (some (.int o.1), o.2) := by
  refine Rs.of (by decide +kernel) (Nat.le_of_ble_eq_true rfl) (fun Γ X => ?_)
  exact tm_Mo_switches X (A := fun o1 => o1 = o)  (fun _ _ e => by rw [← e]) h rfl
theorem dX12_shiftsOn_0 : decode cX12_shiftsOn 0 = .ok (.iload_n 1, 1) := by decide +kernel
theorem dX12_shiftsOn_1 : decode cX12_shiftsOn 1 = .ok (.ifCond .ne 5, 3) := by decide +kernel
theorem dX12_shiftsOn_4 : decode cX12_shiftsOn 4 = .ok (.iconst 0, 1) := by decide +kernel
theorem dX12_shiftsOn_5 : decode cX12_shiftsOn 5 = .ok (.ireturn, 1) := by decide +kernel
theorem dX12_shiftsOn_6 : decode cX12_shiftsOn 6 = .ok (.aload_n 0, 1) := by decide +kernel
theorem dX12_shiftsOn_7 : decode cX12_shiftsOn 7 = .ok (.iload_n 1, 1) := by decide +kernel
theorem dX12_shiftsOn_8 : decode cX12_shiftsOn 8 = .ok (.invokevirtual 308, 3) := by decide +kernel
theorem dX12_shiftsOn_11 : decode cX12_shiftsOn 11 = .ok (.aload_n 0, 1) := by decide +kernel
theorem dX12_shiftsOn_12 : decode cX12_shiftsOn 12 = .ok (.getfield 72, 3) := by decide +kernel
theorem dX12_shiftsOn_15 : decode cX12_shiftsOn 15 = .ok (.iconst 3, 1) := by decide +kernel
theorem dX12_shiftsOn_16 : decode cX12_shiftsOn 16 = .ok (.dup2, 1) := by decide +kernel
theorem dX12_shiftsOn_17 : decode cX12_shiftsOn 17 = .ok (.iaload, 1) := by decide +kernel
theorem dX12_shiftsOn_18 : decode cX12_shiftsOn 18 = .ok (.iconst 1, 1) := by decide +kernel
theorem dX12_shiftsOn_19 : decode cX12_shiftsOn 19 = .ok (.iadd, 1) := by decide +kernel
theorem dX12_shiftsOn_20 : decode cX12_shiftsOn 20 = .ok (.iastore, 1) := by decide +kernel
theorem dX12_shiftsOn_21 : decode cX12_shiftsOn 21 = .ok (.iconst 1, 1) := by decide +kernel
theorem dX12_shiftsOn_22 : decode cX12_shiftsOn 22 = .ok (.ireturn, 1) := by decide +kernel
noncomputable def Mo_shiftsOn (σ : St) (p1 : Int32) : Option (Int32 × St) :=
  if p1 = 0 then (some (0, σ)) else (bd (Mo_shifts σ p1) (fun σ2 => chk (ix 3 5) (chk (ix 3 5) (bnd (wI σ2 109 (tn 3) ((σ2.1 109 (tn 3)) + 1)) (fun σ5 => some (1, σ5))))))
set_option maxRecDepth 100000 in
set_option maxHeartbeats 4000000 in
theorem tm_Mo_shiftsOn {V : Ev} {Γ : Cn} {fin : Option Value × St} {σ : St} {p1 : Int32} {o : (Int32 × St)} (X : Cx V Γ M_X12_shiftsOn) {A : (Int32 × St) → Prop}  (hr : ∀ (r : Int32) (σ9 : St), A (r, σ9) → (some (.int r), σ9) = fin) (h : Mo_shiftsOn σ p1 = some o) (hA : A o) : Go V Γ M_X12_shiftsOn (Zm V Γ 3 fin) 0 [(0, .ref (V.2.2.1 + 92)), (1, .int p1)] [] σ := by
  unfold Mo_shiftsOn at h
  refine g_iload_n (pc := 0) X 1 rfl dX12_shiftsOn_0 ?_
  refine g_if_ne (pc := 1) (tgt := 6) X dX12_shiftsOn_1 rfl (fun c6 => ?_) (fun c6 => ?_)
  · replace h := if_f c6 h
    refine g_aload_n (pc := 6) X 0 rfl dX12_shiftsOn_6 ?_
    refine g_iload_n (pc := 7) X 1 rfl dX12_shiftsOn_7 ?_
    obtain ⟨σ2, hc1, h⟩ := bd_e h
    refine g_callV (pc := 8) X k_ml_X12_308 (run_Mo_shifts  hc1) s_92 rfl (room_ok (Nat.le_of_ble_eq_true rfl) (Nat.le_of_ble_eq_true rfl)) ⟨Nat.le_refl _, Nat.le_refl _⟩ _ rfl (Nat.le_of_ble_eq_true rfl) dX12_shiftsOn_8 ?_
    show Go V Γ M_X12_shiftsOn (Zm V Γ 3 fin) 11 [(0, .ref (V.2.2.1 + 92)), (1, .int p1)] [] σ2
    refine g_aload_n (pc := 11) X 0 rfl dX12_shiftsOn_11 ?_
    refine g_getR (r := 109) (pc := 12) X k_fl_X12_72 s_92 rfl dX12_shiftsOn_12 ?_
    refine g_iconst (v := 3) (pc := 15) X rfl dX12_shiftsOn_15 ?_
    refine g_dup2 (pc := 16) X rfl rfl dX12_shiftsOn_16 ?_
    obtain ⟨c3, h⟩ := chk_e h
    refine g_iald (pc := 17) X s_109 c3 dX12_shiftsOn_17 ?_
    refine g_iconst (v := 1) (pc := 18) X rfl dX12_shiftsOn_18 ?_
    refine g_iadd (pc := 19) X dX12_shiftsOn_19 ?_
    obtain ⟨c4, h⟩ := chk_e h
    refine g_iast (pc := 20) X s_109 c4 dX12_shiftsOn_20 ?_
    obtain ⟨σ5, e_σ5, h⟩ := bnd_e h
    refine g_nmS e_σ5 ?_
    refine g_iconst (v := 1) (pc := 21) X rfl dX12_shiftsOn_21 ?_
    cases h
    exact g_iret (pc := 22) X rfl nz1.1 (hr _ _ hA) dX12_shiftsOn_22
  · replace h := if_t c6 h
    refine g_iconst (v := 0) (pc := 4) X rfl dX12_shiftsOn_4 ?_
    cases h
    exact g_iret (pc := 5) X rfl nz0.1 (hr _ _ hA) dX12_shiftsOn_5
set_option maxRecDepth 100000 in
theorem run_Mo_shiftsOn {V : Ev} {σ : St} {p1 : Int32} {o : (Int32 × St)}   (h : Mo_shiftsOn σ p1 = some o) : Rs V 3 M_X12_shiftsOn [.ref (V.2.2.1 + 92), .int p1] σ (some (.int o.1), o.2) := by
  refine Rs.of (by decide +kernel) (Nat.le_of_ble_eq_true rfl) (fun Γ X => ?_)
  exact tm_Mo_shiftsOn X (A := fun o1 => o1 = o)  (fun _ _ e => by rw [← e]) h rfl
theorem dX12_splitsOn_0 : decode cX12_splitsOn 0 = .ok (.aload_n 0, 1) := by decide +kernel
theorem dX12_splitsOn_1 : decode cX12_splitsOn 1 = .ok (.iload_n 1, 1) := by decide +kernel
theorem dX12_splitsOn_2 : decode cX12_splitsOn 2 = .ok (.invokevirtual 286, 3) := by decide +kernel
theorem dX12_splitsOn_5 : decode cX12_splitsOn 5 = .ok (.ifCond .eq 12, 3) := by decide +kernel
theorem dX12_splitsOn_8 : decode cX12_splitsOn 8 = .ok (.aload_n 0, 1) := by decide +kernel
theorem dX12_splitsOn_9 : decode cX12_splitsOn 9 = .ok (.iload_n 1, 1) := by decide +kernel
theorem dX12_splitsOn_10 : decode cX12_splitsOn 10 = .ok (.iload_n 2, 1) := by decide +kernel
theorem dX12_splitsOn_11 : decode cX12_splitsOn 11 = .ok (.invokevirtual 316, 3) := by decide +kernel
theorem dX12_splitsOn_14 : decode cX12_splitsOn 14 = .ok (.ifCond .le 5, 3) := by decide +kernel
theorem dX12_splitsOn_17 : decode cX12_splitsOn 17 = .ok (.iconst 0, 1) := by decide +kernel
theorem dX12_splitsOn_18 : decode cX12_splitsOn 18 = .ok (.ireturn, 1) := by decide +kernel
theorem dX12_splitsOn_19 : decode cX12_splitsOn 19 = .ok (.aload_n 0, 1) := by decide +kernel
theorem dX12_splitsOn_20 : decode cX12_splitsOn 20 = .ok (.iload_n 1, 1) := by decide +kernel
theorem dX12_splitsOn_21 : decode cX12_splitsOn 21 = .ok (.iload_n 2, 1) := by decide +kernel
theorem dX12_splitsOn_22 : decode cX12_splitsOn 22 = .ok (.invokevirtual 319, 3) := by decide +kernel
theorem dX12_splitsOn_25 : decode cX12_splitsOn 25 = .ok (.iconst 1, 1) := by decide +kernel
theorem dX12_splitsOn_26 : decode cX12_splitsOn 26 = .ok (.ireturn, 1) := by decide +kernel
noncomputable def Mo_splitsOn (σ : St) (p1 : Int32) (p2 : Int32) : Option (Int32 × St) :=
  bd (Mo_isClass σ p1) (fun r2 => if r2 = 0 then (some (0, σ)) else (bd (Mo_whyNotSplit σ p1 p2) (fun r4 => if r4 ≤ 0 then (bd (Mo_splits σ p1 p2) (fun σ6 => some (1, σ6))) else (some (0, σ)))))
set_option maxRecDepth 100000 in
set_option maxHeartbeats 4000000 in
theorem tm_Mo_splitsOn {V : Ev} {Γ : Cn} {fin : Option Value × St} {σ : St} {p1 : Int32} {p2 : Int32} {o : (Int32 × St)} (X : Cx V Γ M_X12_splitsOn) {A : (Int32 × St) → Prop}  (hr : ∀ (r : Int32) (σ9 : St), A (r, σ9) → (some (.int r), σ9) = fin) (h : Mo_splitsOn σ p1 p2 = some o) (hA : A o) : Go V Γ M_X12_splitsOn (Zm V Γ 3 fin) 0 [(0, .ref (V.2.2.1 + 92)), (1, .int p1), (2, .int p2)] [] σ := by
  unfold Mo_splitsOn at h
  refine g_aload_n (pc := 0) X 0 rfl dX12_splitsOn_0 ?_
  refine g_iload_n (pc := 1) X 1 rfl dX12_splitsOn_1 ?_
  obtain ⟨r2, hc1, h⟩ := bd_e h
  refine g_callV (pc := 2) X k_ml_X12_286 (run_Mo_isClass  hc1) s_92 rfl (room_ok (Nat.le_of_ble_eq_true rfl) (Nat.le_of_ble_eq_true rfl)) ⟨Nat.le_refl _, Nat.le_refl _⟩ _ rfl (Nat.le_of_ble_eq_true rfl) dX12_splitsOn_2 ?_
  show Go V Γ M_X12_splitsOn (Zm V Γ 3 fin) 5 [(0, .ref (V.2.2.1 + 92)), (1, .int p1), (2, .int p2)] [.int r2] σ
  refine g_if_eq (pc := 5) (tgt := 17) X dX12_splitsOn_5 rfl (fun c8 => ?_) (fun c8 => ?_)
  · replace h := if_t c8 h
    refine g_iconst (v := 0) (pc := 17) X rfl dX12_splitsOn_17 ?_
    cases h
    exact g_iret (pc := 18) X rfl nz0.1 (hr _ _ hA) dX12_splitsOn_18
  · replace h := if_f c8 h
    refine g_aload_n (pc := 8) X 0 rfl dX12_splitsOn_8 ?_
    refine g_iload_n (pc := 9) X 1 rfl dX12_splitsOn_9 ?_
    refine g_iload_n (pc := 10) X 2 rfl dX12_splitsOn_10 ?_
    obtain ⟨r4, hc3, h⟩ := bd_e h
    refine g_callV (pc := 11) X k_ml_X12_316 (run_Mo_whyNotSplit  hc3) s_92 rfl (room_ok (Nat.le_of_ble_eq_true rfl) (Nat.le_of_ble_eq_true rfl)) ⟨Nat.le_refl _, Nat.le_refl _⟩ _ rfl (Nat.le_of_ble_eq_true rfl) dX12_splitsOn_11 ?_
    show Go V Γ M_X12_splitsOn (Zm V Γ 3 fin) 14 [(0, .ref (V.2.2.1 + 92)), (1, .int p1), (2, .int p2)] [.int r4] σ
    refine g_if_le (pc := 14) (tgt := 19) X dX12_splitsOn_14 rfl (fun c7 => ?_) (fun c7 => ?_)
    · replace h := if_t c7 h
      refine g_aload_n (pc := 19) X 0 rfl dX12_splitsOn_19 ?_
      refine g_iload_n (pc := 20) X 1 rfl dX12_splitsOn_20 ?_
      refine g_iload_n (pc := 21) X 2 rfl dX12_splitsOn_21 ?_
      obtain ⟨σ6, hc5, h⟩ := bd_e h
      refine g_callV (pc := 22) X k_ml_X12_319 (run_Mo_splits  hc5) s_92 rfl (room_ok (Nat.le_of_ble_eq_true rfl) (Nat.le_of_ble_eq_true rfl)) ⟨Nat.le_refl _, Nat.le_refl _⟩ _ rfl (Nat.le_of_ble_eq_true rfl) dX12_splitsOn_22 ?_
      show Go V Γ M_X12_splitsOn (Zm V Γ 3 fin) 25 [(0, .ref (V.2.2.1 + 92)), (1, .int p1), (2, .int p2)] [] σ6
      refine g_iconst (v := 1) (pc := 25) X rfl dX12_splitsOn_25 ?_
      cases h
      exact g_iret (pc := 26) X rfl nz1.1 (hr _ _ hA) dX12_splitsOn_26
    · replace h := if_f c7 h
      refine g_iconst (v := 0) (pc := 17) X rfl dX12_splitsOn_17 ?_
      cases h
      exact g_iret (pc := 18) X rfl nz0.1 (hr _ _ hA) dX12_splitsOn_18
set_option maxRecDepth 100000 in
theorem run_Mo_splitsOn {V : Ev} {σ : St} {p1 : Int32} {p2 : Int32} {o : (Int32 × St)}   (h : Mo_splitsOn σ p1 p2 = some o) : Rs V 3 M_X12_splitsOn [.ref (V.2.2.1 + 92), .int p1, .int p2] σ (some (.int o.1), o.2) := by
  refine Rs.of (by decide +kernel) (Nat.le_of_ble_eq_true rfl) (fun Γ X => ?_)
  exact tm_Mo_splitsOn X (A := fun o1 => o1 = o)  (fun _ _ e => by rw [← e]) h rfl
theorem dX12_doesAny_0 : decode cX12_doesAny 0 = .ok (.aload_n 0, 1) := by decide +kernel
theorem dX12_doesAny_1 : decode cX12_doesAny 1 = .ok (.getfield 7, 3) := by decide +kernel
theorem dX12_doesAny_4 : decode cX12_doesAny 4 = .ok (.iconst 0, 1) := by decide +kernel
theorem dX12_doesAny_5 : decode cX12_doesAny 5 = .ok (.iaload, 1) := by decide +kernel
theorem dX12_doesAny_6 : decode cX12_doesAny 6 = .ok (.ifCond .ne 5, 3) := by decide +kernel
theorem dX12_doesAny_9 : decode cX12_doesAny 9 = .ok (.iconst 0, 1) := by decide +kernel
theorem dX12_doesAny_10 : decode cX12_doesAny 10 = .ok (.ireturn, 1) := by decide +kernel
theorem dX12_doesAny_11 : decode cX12_doesAny 11 = .ok (.aload_n 0, 1) := by decide +kernel
theorem dX12_doesAny_12 : decode cX12_doesAny 12 = .ok (.aload_n 0, 1) := by decide +kernel
theorem dX12_doesAny_13 : decode cX12_doesAny 13 = .ok (.getfield 7, 3) := by decide +kernel
theorem dX12_doesAny_16 : decode cX12_doesAny 16 = .ok (.iconst 0, 1) := by decide +kernel
theorem dX12_doesAny_17 : decode cX12_doesAny 17 = .ok (.iaload, 1) := by decide +kernel
theorem dX12_doesAny_18 : decode cX12_doesAny 18 = .ok (.invokevirtual 406, 3) := by decide +kernel
theorem dX12_doesAny_21 : decode cX12_doesAny 21 = .ok (.istore_n 1, 1) := by decide +kernel
theorem dX12_doesAny_22 : decode cX12_doesAny 22 = .ok (.aload_n 0, 1) := by decide +kernel
theorem dX12_doesAny_23 : decode cX12_doesAny 23 = .ok (.bipush 16, 2) := by decide +kernel
theorem dX12_doesAny_25 : decode cX12_doesAny 25 = .ok (.invokevirtual 406, 3) := by decide +kernel
theorem dX12_doesAny_28 : decode cX12_doesAny 28 = .ok (.aload_n 0, 1) := by decide +kernel
theorem dX12_doesAny_29 : decode cX12_doesAny 29 = .ok (.getfield 7, 3) := by decide +kernel
theorem dX12_doesAny_32 : decode cX12_doesAny 32 = .ok (.iconst 1, 1) := by decide +kernel
theorem dX12_doesAny_33 : decode cX12_doesAny 33 = .ok (.iaload, 1) := by decide +kernel
theorem dX12_doesAny_34 : decode cX12_doesAny 34 = .ok (.if_icmp .ge 24, 3) := by decide +kernel
theorem dX12_doesAny_37 : decode cX12_doesAny 37 = .ok (.aload_n 0, 1) := by decide +kernel
theorem dX12_doesAny_38 : decode cX12_doesAny 38 = .ok (.iload_n 1, 1) := by decide +kernel
theorem dX12_doesAny_39 : decode cX12_doesAny 39 = .ok (.aload_n 0, 1) := by decide +kernel
theorem dX12_doesAny_40 : decode cX12_doesAny 40 = .ok (.iload_n 1, 1) := by decide +kernel
theorem dX12_doesAny_41 : decode cX12_doesAny 41 = .ok (.invokevirtual 238, 3) := by decide +kernel
theorem dX12_doesAny_44 : decode cX12_doesAny 44 = .ok (.ifCond .eq 7, 3) := by decide +kernel
theorem dX12_doesAny_47 : decode cX12_doesAny 47 = .ok (.iconst 0, 1) := by decide +kernel
theorem dX12_doesAny_48 : decode cX12_doesAny 48 = .ok (.goto 4, 3) := by decide +kernel
theorem dX12_doesAny_51 : decode cX12_doesAny 51 = .ok (.iconst 1, 1) := by decide +kernel
theorem dX12_doesAny_52 : decode cX12_doesAny 52 = .ok (.invokevirtual 409, 3) := by decide +kernel
theorem dX12_doesAny_55 : decode cX12_doesAny 55 = .ok (.goto 8, 3) := by decide +kernel
theorem dX12_doesAny_58 : decode cX12_doesAny 58 = .ok (.aload_n 0, 1) := by decide +kernel
theorem dX12_doesAny_59 : decode cX12_doesAny 59 = .ok (.iconst 1, 1) := by decide +kernel
theorem dX12_doesAny_60 : decode cX12_doesAny 60 = .ok (.invokevirtual 412, 3) := by decide +kernel
theorem dX12_doesAny_63 : decode cX12_doesAny 63 = .ok (.ireturn, 1) := by decide +kernel
noncomputable def Mo_doesAny (σ : St) : Option (Int32 × St) :=
  chk (ix 0 2060) (if (σ.1 93 (tn 0)) = 0 then (some (0, σ)) else (chk (ix 0 2060) (bd2 (Mo_draw σ (σ.1 93 (tn 0))) (fun r4 σ5 => bd2 (Mo_draw σ5 16) (fun r7 σ8 => chk (ix 1 2060) (if (σ8.1 93 (tn 1)) ≤ r7 then (bd2 (Mo_shiftsOn σ8 1) (fun r11 σ12 => chk (ckz r11) (some (r11, σ12)))) else (bd (Mo_isOn σ8 r4) (fun r15 => if r15 = 0 then (bd2 (Mo_switches σ8 r4 1) (fun r17 σ18 => chk (ckz r17) (some (r17, σ18)))) else (bd2 (Mo_switches σ8 r4 0) (fun r21 σ22 => chk (ckz r21) (some (r21, σ22))))))))))))
set_option maxRecDepth 100000 in
set_option maxHeartbeats 4000000 in
theorem tm_Mo_doesAny {V : Ev} {Γ : Cn} {fin : Option Value × St} {σ : St} {o : (Int32 × St)} (X : Cx V Γ M_X12_doesAny) {A : (Int32 × St) → Prop}  (hr : ∀ (r : Int32) (σ9 : St), A (r, σ9) → (some (.int r), σ9) = fin) (h : Mo_doesAny σ = some o) (hA : A o) : Go V Γ M_X12_doesAny (Zm V Γ 4 fin) 0 [(0, .ref (V.2.2.1 + 92))] [] σ := by
  unfold Mo_doesAny at h
  refine g_aload_n (pc := 0) X 0 rfl dX12_doesAny_0 ?_
  refine g_getR (r := 93) (pc := 1) X k_fl_X12_7 s_92 rfl dX12_doesAny_1 ?_
  refine g_iconst (v := 0) (pc := 4) X rfl dX12_doesAny_4 ?_
  obtain ⟨c1, h⟩ := chk_e h
  refine g_iald (pc := 5) X s_93 c1 dX12_doesAny_5 ?_
  refine g_if_ne (pc := 6) (tgt := 11) X dX12_doesAny_6 rfl (fun c26 => ?_) (fun c26 => ?_)
  · replace h := if_f c26 h
    refine g_aload_n (pc := 11) X 0 rfl dX12_doesAny_11 ?_
    refine g_aload_n (pc := 12) X 0 rfl dX12_doesAny_12 ?_
    refine g_getR (r := 93) (pc := 13) X k_fl_X12_7 s_92 rfl dX12_doesAny_13 ?_
    refine g_iconst (v := 0) (pc := 16) X rfl dX12_doesAny_16 ?_
    obtain ⟨c2, h⟩ := chk_e h
    refine g_iald (pc := 17) X s_93 c2 dX12_doesAny_17 ?_
    obtain ⟨r4, σ5, hc3, h⟩ := bd2_e h
    refine g_callV (pc := 18) X k_ml_X12_406 (run_Mo_draw  hc3) s_92 rfl (room_ok (Nat.le_of_ble_eq_true rfl) (Nat.le_of_ble_eq_true rfl)) ⟨Nat.le_refl _, Nat.le_refl _⟩ _ rfl (Nat.le_of_ble_eq_true rfl) dX12_doesAny_18 ?_
    show Go V Γ M_X12_doesAny (Zm V Γ 4 fin) 21 [(0, .ref (V.2.2.1 + 92))] [.int r4] σ5
    refine g_istore_n (pc := 21) X [(1, .int r4), (0, .ref (V.2.2.1 + 92))] rfl (Nat.le_of_ble_eq_true rfl) rfl dX12_doesAny_21 ?_
    refine g_aload_n (pc := 22) X 1 rfl dX12_doesAny_22 ?_
    refine g_bipush (v := 16) (pc := 23) X (by decide) dX12_doesAny_23 ?_
    obtain ⟨r7, σ8, hc6, h⟩ := bd2_e h
    refine g_callV (pc := 25) X k_ml_X12_406 (run_Mo_draw  hc6) s_92 rfl (room_ok (Nat.le_of_ble_eq_true rfl) (Nat.le_of_ble_eq_true rfl)) ⟨Nat.le_refl _, Nat.le_refl _⟩ _ rfl (Nat.le_of_ble_eq_true rfl) dX12_doesAny_25 ?_
    show Go V Γ M_X12_doesAny (Zm V Γ 4 fin) 28 [(1, .int r4), (0, .ref (V.2.2.1 + 92))] [.int r7] σ8
    refine g_aload_n (pc := 28) X 1 rfl dX12_doesAny_28 ?_
    refine g_getR (r := 93) (pc := 29) X k_fl_X12_7 s_92 rfl dX12_doesAny_29 ?_
    refine g_iconst (v := 1) (pc := 32) X rfl dX12_doesAny_32 ?_
    obtain ⟨c9, h⟩ := chk_e h
    refine g_iald (pc := 33) X s_93 c9 dX12_doesAny_33 ?_
    refine g_icmp_ge (pc := 34) (tgt := 58) X dX12_doesAny_34 rfl (fun c25 => ?_) (fun c25 => ?_)
    · replace h := if_t c25 h
      refine g_aload_n (pc := 58) X 1 rfl dX12_doesAny_58 ?_
      refine g_iconst (v := 1) (pc := 59) X rfl dX12_doesAny_59 ?_
      obtain ⟨r11, σ12, hc10, h⟩ := bd2_e h
      refine g_callV (pc := 60) X k_ml_X12_412 (run_Mo_shiftsOn  hc10) s_92 rfl (room_ok (Nat.le_of_ble_eq_true rfl) (Nat.le_of_ble_eq_true rfl)) ⟨Nat.le_refl _, Nat.le_refl _⟩ _ rfl (Nat.le_of_ble_eq_true rfl) dX12_doesAny_60 ?_
      show Go V Γ M_X12_doesAny (Zm V Γ 4 fin) 63 [(1, .int r4), (0, .ref (V.2.2.1 + 92))] [.int r11] σ12
      obtain ⟨c13, h⟩ := chk_e h
      cases h
      exact g_iret (pc := 63) X rfl (ckz_e c13).1 (hr _ _ hA) dX12_doesAny_63
    · replace h := if_f c25 h
      refine g_aload_n (pc := 37) X 1 rfl dX12_doesAny_37 ?_
      refine g_iload_n (pc := 38) X 0 rfl dX12_doesAny_38 ?_
      refine g_aload_n (pc := 39) X 1 rfl dX12_doesAny_39 ?_
      refine g_iload_n (pc := 40) X 0 rfl dX12_doesAny_40 ?_
      obtain ⟨r15, hc14, h⟩ := bd_e h
      refine g_callV (pc := 41) X k_ml_X12_238 (run_Mo_isOn  hc14) s_92 rfl (room_ok (Nat.le_of_ble_eq_true rfl) (Nat.le_of_ble_eq_true rfl)) ⟨Nat.le_refl _, Nat.le_refl _⟩ _ rfl (Nat.le_of_ble_eq_true rfl) dX12_doesAny_41 ?_
      show Go V Γ M_X12_doesAny (Zm V Γ 4 fin) 44 [(1, .int r4), (0, .ref (V.2.2.1 + 92))] [.int r15, .int r4, .ref (V.2.2.1 + 92)] σ8
      refine g_if_eq (pc := 44) (tgt := 51) X dX12_doesAny_44 rfl (fun c24 => ?_) (fun c24 => ?_)
      · replace h := if_t c24 h
        refine g_iconst (v := 1) (pc := 51) X rfl dX12_doesAny_51 ?_
        obtain ⟨r17, σ18, hc16, h⟩ := bd2_e h
        refine g_callV (pc := 52) X k_ml_X12_409 (run_Mo_switches  hc16) s_92 rfl (room_ok (Nat.le_of_ble_eq_true rfl) (Nat.le_of_ble_eq_true rfl)) ⟨Nat.le_refl _, Nat.le_refl _⟩ _ rfl (Nat.le_of_ble_eq_true rfl) dX12_doesAny_52 ?_
        show Go V Γ M_X12_doesAny (Zm V Γ 4 fin) 55 [(1, .int r4), (0, .ref (V.2.2.1 + 92))] [.int r17] σ18
        refine g_goto (pc := 55) (tgt := 63) X dX12_doesAny_55 rfl ?_
        obtain ⟨c19, h⟩ := chk_e h
        cases h
        exact g_iret (pc := 63) X rfl (ckz_e c19).1 (hr _ _ hA) dX12_doesAny_63
      · replace h := if_f c24 h
        refine g_iconst (v := 0) (pc := 47) X rfl dX12_doesAny_47 ?_
        refine g_goto (pc := 48) (tgt := 52) X dX12_doesAny_48 rfl ?_
        obtain ⟨r21, σ22, hc20, h⟩ := bd2_e h
        refine g_callV (pc := 52) X k_ml_X12_409 (run_Mo_switches  hc20) s_92 rfl (room_ok (Nat.le_of_ble_eq_true rfl) (Nat.le_of_ble_eq_true rfl)) ⟨Nat.le_refl _, Nat.le_refl _⟩ _ rfl (Nat.le_of_ble_eq_true rfl) dX12_doesAny_52 ?_
        show Go V Γ M_X12_doesAny (Zm V Γ 4 fin) 55 [(1, .int r4), (0, .ref (V.2.2.1 + 92))] [.int r21] σ22
        refine g_goto (pc := 55) (tgt := 63) X dX12_doesAny_55 rfl ?_
        obtain ⟨c23, h⟩ := chk_e h
        cases h
        exact g_iret (pc := 63) X rfl (ckz_e c23).1 (hr _ _ hA) dX12_doesAny_63
  · replace h := if_t c26 h
    refine g_iconst (v := 0) (pc := 9) X rfl dX12_doesAny_9 ?_
    cases h
    exact g_iret (pc := 10) X rfl nz0.1 (hr _ _ hA) dX12_doesAny_10
set_option maxRecDepth 100000 in
theorem run_Mo_doesAny {V : Ev} {σ : St} {o : (Int32 × St)}   (h : Mo_doesAny σ = some o) : Rs V 4 M_X12_doesAny [.ref (V.2.2.1 + 92)] σ (some (.int o.1), o.2) := by
  refine Rs.of (by decide +kernel) (Nat.le_of_ble_eq_true rfl) (fun Γ X => ?_)
  exact tm_Mo_doesAny X (A := fun o1 => o1 = o)  (fun _ _ e => by rw [← e]) h rfl
theorem dX12_does_0 : decode cX12_does 0 = .ok (.aload_n 0, 1) := by decide +kernel
theorem dX12_does_1 : decode cX12_does 1 = .ok (.getfield 7, 3) := by decide +kernel
theorem dX12_does_4 : decode cX12_does 4 = .ok (.iload_n 1, 1) := by decide +kernel
theorem dX12_does_5 : decode cX12_does 5 = .ok (.iconst 1, 1) := by decide +kernel
theorem dX12_does_6 : decode cX12_does 6 = .ok (.iadd, 1) := by decide +kernel
theorem dX12_does_7 : decode cX12_does 7 = .ok (.iaload, 1) := by decide +kernel
theorem dX12_does_8 : decode cX12_does 8 = .ok (.istore_n 2, 1) := by decide +kernel
theorem dX12_does_9 : decode cX12_does 9 = .ok (.aload_n 0, 1) := by decide +kernel
theorem dX12_does_10 : decode cX12_does 10 = .ok (.getfield 7, 3) := by decide +kernel
theorem dX12_does_13 : decode cX12_does 13 = .ok (.iload_n 1, 1) := by decide +kernel
theorem dX12_does_14 : decode cX12_does 14 = .ok (.iaload, 1) := by decide +kernel
theorem dX12_does_15 : decode cX12_does 15 = .ok (.tableswitch 79 4 8 #[40, 33, 47, 60, 74], 33) := by decide +kernel
theorem dX12_does_48 : decode cX12_does 48 = .ok (.aload_n 0, 1) := by decide +kernel
theorem dX12_does_49 : decode cX12_does 49 = .ok (.iload_n 2, 1) := by decide +kernel
theorem dX12_does_50 : decode cX12_does 50 = .ok (.iconst 1, 1) := by decide +kernel
theorem dX12_does_51 : decode cX12_does 51 = .ok (.invokevirtual 409, 3) := by decide +kernel
theorem dX12_does_54 : decode cX12_does 54 = .ok (.ireturn, 1) := by decide +kernel
theorem dX12_does_55 : decode cX12_does 55 = .ok (.aload_n 0, 1) := by decide +kernel
theorem dX12_does_56 : decode cX12_does 56 = .ok (.iload_n 2, 1) := by decide +kernel
theorem dX12_does_57 : decode cX12_does 57 = .ok (.iconst 0, 1) := by decide +kernel
theorem dX12_does_58 : decode cX12_does 58 = .ok (.invokevirtual 409, 3) := by decide +kernel
theorem dX12_does_61 : decode cX12_does 61 = .ok (.ireturn, 1) := by decide +kernel
theorem dX12_does_62 : decode cX12_does 62 = .ok (.aload_n 0, 1) := by decide +kernel
theorem dX12_does_63 : decode cX12_does 63 = .ok (.aload_n 0, 1) := by decide +kernel
theorem dX12_does_64 : decode cX12_does 64 = .ok (.getfield 7, 3) := by decide +kernel
theorem dX12_does_67 : decode cX12_does 67 = .ok (.iload_n 1, 1) := by decide +kernel
theorem dX12_does_68 : decode cX12_does 68 = .ok (.iconst 2, 1) := by decide +kernel
theorem dX12_does_69 : decode cX12_does 69 = .ok (.iadd, 1) := by decide +kernel
theorem dX12_does_70 : decode cX12_does 70 = .ok (.iaload, 1) := by decide +kernel
theorem dX12_does_71 : decode cX12_does 71 = .ok (.invokevirtual 412, 3) := by decide +kernel
theorem dX12_does_74 : decode cX12_does 74 = .ok (.ireturn, 1) := by decide +kernel
theorem dX12_does_75 : decode cX12_does 75 = .ok (.aload_n 0, 1) := by decide +kernel
theorem dX12_does_76 : decode cX12_does 76 = .ok (.iload_n 2, 1) := by decide +kernel
theorem dX12_does_77 : decode cX12_does 77 = .ok (.aload_n 0, 1) := by decide +kernel
theorem dX12_does_78 : decode cX12_does 78 = .ok (.getfield 7, 3) := by decide +kernel
theorem dX12_does_81 : decode cX12_does 81 = .ok (.iload_n 1, 1) := by decide +kernel
theorem dX12_does_82 : decode cX12_does 82 = .ok (.iconst 2, 1) := by decide +kernel
theorem dX12_does_83 : decode cX12_does 83 = .ok (.iadd, 1) := by decide +kernel
theorem dX12_does_84 : decode cX12_does 84 = .ok (.iaload, 1) := by decide +kernel
theorem dX12_does_85 : decode cX12_does 85 = .ok (.invokevirtual 415, 3) := by decide +kernel
theorem dX12_does_88 : decode cX12_does 88 = .ok (.ireturn, 1) := by decide +kernel
theorem dX12_does_89 : decode cX12_does 89 = .ok (.aload_n 0, 1) := by decide +kernel
theorem dX12_does_90 : decode cX12_does 90 = .ok (.invokevirtual 418, 3) := by decide +kernel
theorem dX12_does_93 : decode cX12_does 93 = .ok (.ireturn, 1) := by decide +kernel
theorem dX12_does_94 : decode cX12_does 94 = .ok (.iconst 1, 1) := by decide +kernel
theorem dX12_does_95 : decode cX12_does 95 = .ok (.ireturn, 1) := by decide +kernel
noncomputable def Mo_does (σ : St) (p1 : Int32) : Option (Int32 × St) :=
  chk (ix (p1 + 1) 2060) (bnd ((σ.1 93 (tn (p1 + 1)))) (fun v2 => chk (ix p1 2060) (if (σ.1 93 (tn p1)) = 4 then (bd2 (Mo_switches σ v2 0) (fun r5 σ6 => chk (ckz r5) (some (r5, σ6)))) else if (σ.1 93 (tn p1)) = 5 then (bd2 (Mo_switches σ v2 1) (fun r10 σ11 => chk (ckz r10) (some (r10, σ11)))) else if (σ.1 93 (tn p1)) = 6 then (chk (ix (p1 + 2) 2060) (bd2 (Mo_shiftsOn σ (σ.1 93 (tn (p1 + 2)))) (fun r16 σ17 => chk (ckz r16) (some (r16, σ17))))) else if (σ.1 93 (tn p1)) = 7 then (chk (ix (p1 + 2) 2060) (bd2 (Mo_splitsOn σ v2 (σ.1 93 (tn (p1 + 2)))) (fun r22 σ23 => chk (ckz r22) (some (r22, σ23))))) else if (σ.1 93 (tn p1)) = 8 then (bd2 (Mo_doesAny σ) (fun r27 σ28 => chk (ckz r27) (some (r27, σ28)))) else (some (1, σ)))))
set_option maxRecDepth 100000 in
set_option maxHeartbeats 4000000 in
theorem tm_Mo_does {V : Ev} {Γ : Cn} {fin : Option Value × St} {σ : St} {p1 : Int32} {o : (Int32 × St)} (X : Cx V Γ M_X12_does) {A : (Int32 × St) → Prop}  (hr : ∀ (r : Int32) (σ9 : St), A (r, σ9) → (some (.int r), σ9) = fin) (h : Mo_does σ p1 = some o) (hA : A o) : Go V Γ M_X12_does (Zm V Γ 5 fin) 0 [(0, .ref (V.2.2.1 + 92)), (1, .int p1)] [] σ := by
  unfold Mo_does at h
  refine g_aload_n (pc := 0) X 0 rfl dX12_does_0 ?_
  refine g_getR (r := 93) (pc := 1) X k_fl_X12_7 s_92 rfl dX12_does_1 ?_
  refine g_iload_n (pc := 4) X 1 rfl dX12_does_4 ?_
  refine g_iconst (v := 1) (pc := 5) X rfl dX12_does_5 ?_
  refine g_iadd (pc := 6) X dX12_does_6 ?_
  obtain ⟨c1, h⟩ := chk_e h
  refine g_iald (pc := 7) X s_93 c1 dX12_does_7 ?_
  obtain ⟨v2, e_v2, h⟩ := bnd_e h
  refine g_nmI e_v2 ?_
  refine g_istore_n (pc := 8) X [(2, .int v2), (0, .ref (V.2.2.1 + 92)), (1, .int p1)] rfl (Nat.le_of_ble_eq_true rfl) rfl dX12_does_8 ?_
  refine g_aload_n (pc := 9) X 1 rfl dX12_does_9 ?_
  refine g_getR (r := 93) (pc := 10) X k_fl_X12_7 s_92 rfl dX12_does_10 ?_
  refine g_iload_n (pc := 13) X 2 rfl dX12_does_13 ?_
  obtain ⟨c3, h⟩ := chk_e h
  refine g_iald (pc := 14) X s_93 c3 dX12_does_14 ?_
  by_cases c8 : (σ.1 93 (tn p1)) = 4
  · replace h := if_t c8 h
    refine g_tabIn (pc := 15) (tgt := 55) X c8 dX12_does_15 (by decide) (by decide) rfl rfl ?_
    refine g_aload_n (pc := 55) X 1 rfl dX12_does_55 ?_
    refine g_iload_n (pc := 56) X 0 rfl dX12_does_56 ?_
    refine g_iconst (v := 0) (pc := 57) X rfl dX12_does_57 ?_
    obtain ⟨r5, σ6, hc4, h⟩ := bd2_e h
    refine g_callV (pc := 58) X k_ml_X12_409 (run_Mo_switches  hc4) s_92 rfl (room_ok (Nat.le_of_ble_eq_true rfl) (Nat.le_of_ble_eq_true rfl)) ⟨Nat.le_refl _, Nat.le_refl _⟩ _ rfl (Nat.le_of_ble_eq_true rfl) dX12_does_58 ?_
    show Go V Γ M_X12_does (Zm V Γ 5 fin) 61 [(2, .int v2), (0, .ref (V.2.2.1 + 92)), (1, .int p1)] [.int r5] σ6
    obtain ⟨c7, h⟩ := chk_e h
    cases h
    exact g_iret (pc := 61) X rfl (ckz_e c7).1 (hr _ _ hA) dX12_does_61
  replace h := if_f c8 h
  by_cases c13 : (σ.1 93 (tn p1)) = 5
  · replace h := if_t c13 h
    refine g_tabIn (pc := 15) (tgt := 48) X c13 dX12_does_15 (by decide) (by decide) rfl rfl ?_
    refine g_aload_n (pc := 48) X 1 rfl dX12_does_48 ?_
    refine g_iload_n (pc := 49) X 0 rfl dX12_does_49 ?_
    refine g_iconst (v := 1) (pc := 50) X rfl dX12_does_50 ?_
    obtain ⟨r10, σ11, hc9, h⟩ := bd2_e h
    refine g_callV (pc := 51) X k_ml_X12_409 (run_Mo_switches  hc9) s_92 rfl (room_ok (Nat.le_of_ble_eq_true rfl) (Nat.le_of_ble_eq_true rfl)) ⟨Nat.le_refl _, Nat.le_refl _⟩ _ rfl (Nat.le_of_ble_eq_true rfl) dX12_does_51 ?_
    show Go V Γ M_X12_does (Zm V Γ 5 fin) 54 [(2, .int v2), (0, .ref (V.2.2.1 + 92)), (1, .int p1)] [.int r10] σ11
    obtain ⟨c12, h⟩ := chk_e h
    cases h
    exact g_iret (pc := 54) X rfl (ckz_e c12).1 (hr _ _ hA) dX12_does_54
  replace h := if_f c13 h
  by_cases c19 : (σ.1 93 (tn p1)) = 6
  · replace h := if_t c19 h
    refine g_tabIn (pc := 15) (tgt := 62) X c19 dX12_does_15 (by decide) (by decide) rfl rfl ?_
    refine g_aload_n (pc := 62) X 1 rfl dX12_does_62 ?_
    refine g_aload_n (pc := 63) X 1 rfl dX12_does_63 ?_
    refine g_getR (r := 93) (pc := 64) X k_fl_X12_7 s_92 rfl dX12_does_64 ?_
    refine g_iload_n (pc := 67) X 2 rfl dX12_does_67 ?_
    refine g_iconst (v := 2) (pc := 68) X rfl dX12_does_68 ?_
    refine g_iadd (pc := 69) X dX12_does_69 ?_
    obtain ⟨c14, h⟩ := chk_e h
    refine g_iald (pc := 70) X s_93 c14 dX12_does_70 ?_
    obtain ⟨r16, σ17, hc15, h⟩ := bd2_e h
    refine g_callV (pc := 71) X k_ml_X12_412 (run_Mo_shiftsOn  hc15) s_92 rfl (room_ok (Nat.le_of_ble_eq_true rfl) (Nat.le_of_ble_eq_true rfl)) ⟨Nat.le_refl _, Nat.le_refl _⟩ _ rfl (Nat.le_of_ble_eq_true rfl) dX12_does_71 ?_
    show Go V Γ M_X12_does (Zm V Γ 5 fin) 74 [(2, .int v2), (0, .ref (V.2.2.1 + 92)), (1, .int p1)] [.int r16] σ17
    obtain ⟨c18, h⟩ := chk_e h
    cases h
    exact g_iret (pc := 74) X rfl (ckz_e c18).1 (hr _ _ hA) dX12_does_74
  replace h := if_f c19 h
  by_cases c25 : (σ.1 93 (tn p1)) = 7
  · replace h := if_t c25 h
    refine g_tabIn (pc := 15) (tgt := 75) X c25 dX12_does_15 (by decide) (by decide) rfl rfl ?_
    refine g_aload_n (pc := 75) X 1 rfl dX12_does_75 ?_
    refine g_iload_n (pc := 76) X 0 rfl dX12_does_76 ?_
    refine g_aload_n (pc := 77) X 1 rfl dX12_does_77 ?_
    refine g_getR (r := 93) (pc := 78) X k_fl_X12_7 s_92 rfl dX12_does_78 ?_
    refine g_iload_n (pc := 81) X 2 rfl dX12_does_81 ?_
    refine g_iconst (v := 2) (pc := 82) X rfl dX12_does_82 ?_
    refine g_iadd (pc := 83) X dX12_does_83 ?_
    obtain ⟨c20, h⟩ := chk_e h
    refine g_iald (pc := 84) X s_93 c20 dX12_does_84 ?_
    obtain ⟨r22, σ23, hc21, h⟩ := bd2_e h
    refine g_callV (pc := 85) X k_ml_X12_415 (run_Mo_splitsOn  hc21) s_92 rfl (room_ok (Nat.le_of_ble_eq_true rfl) (Nat.le_of_ble_eq_true rfl)) ⟨Nat.le_refl _, Nat.le_refl _⟩ _ rfl (Nat.le_of_ble_eq_true rfl) dX12_does_85 ?_
    show Go V Γ M_X12_does (Zm V Γ 5 fin) 88 [(2, .int v2), (0, .ref (V.2.2.1 + 92)), (1, .int p1)] [.int r22] σ23
    obtain ⟨c24, h⟩ := chk_e h
    cases h
    exact g_iret (pc := 88) X rfl (ckz_e c24).1 (hr _ _ hA) dX12_does_88
  replace h := if_f c25 h
  by_cases c30 : (σ.1 93 (tn p1)) = 8
  · replace h := if_t c30 h
    refine g_tabIn (pc := 15) (tgt := 89) X c30 dX12_does_15 (by decide) (by decide) rfl rfl ?_
    refine g_aload_n (pc := 89) X 1 rfl dX12_does_89 ?_
    obtain ⟨r27, σ28, hc26, h⟩ := bd2_e h
    refine g_callV (pc := 90) X k_ml_X12_418 (run_Mo_doesAny  hc26) s_92 rfl (room_ok (Nat.le_of_ble_eq_true rfl) (Nat.le_of_ble_eq_true rfl)) ⟨Nat.le_refl _, Nat.le_refl _⟩ _ rfl (Nat.le_of_ble_eq_true rfl) dX12_does_90 ?_
    show Go V Γ M_X12_does (Zm V Γ 5 fin) 93 [(2, .int v2), (0, .ref (V.2.2.1 + 92)), (1, .int p1)] [.int r27] σ28
    obtain ⟨c29, h⟩ := chk_e h
    cases h
    exact g_iret (pc := 93) X rfl (ckz_e c29).1 (hr _ _ hA) dX12_does_93
  replace h := if_f c30 h
  refine g_tabOut (pc := 15) (tgt := 94) X dX12_does_15 (by have qc8 := lv_neT (k := 4) (a := 4) c8 rfl; have qc13 := lv_neT (k := 5) (a := 5) c13 rfl; have qc19 := lv_neT (k := 6) (a := 6) c19 rfl; have qc25 := lv_neT (k := 7) (a := 7) c25 rfl; have qc30 := lv_neT (k := 8) (a := 8) c30 rfl; omega) rfl ?_
  refine g_iconst (v := 1) (pc := 94) X rfl dX12_does_94 ?_
  cases h
  exact g_iret (pc := 95) X rfl nz1.1 (hr _ _ hA) dX12_does_95
set_option maxRecDepth 100000 in
theorem run_Mo_does {V : Ev} {σ : St} {p1 : Int32} {o : (Int32 × St)}   (h : Mo_does σ p1 = some o) : Rs V 5 M_X12_does [.ref (V.2.2.1 + 92), .int p1] σ (some (.int o.1), o.2) := by
  refine Rs.of (by decide +kernel) (Nat.le_of_ble_eq_true rfl) (fun Γ X => ?_)
  exact tm_Mo_does X (A := fun o1 => o1 = o)  (fun _ _ e => by rw [← e]) h rfl
theorem dX12_holds_0 : decode cX12_holds 0 = .ok (.aload_n 0, 1) := by decide +kernel
theorem dX12_holds_1 : decode cX12_holds 1 = .ok (.getfield 7, 3) := by decide +kernel
theorem dX12_holds_4 : decode cX12_holds 4 = .ok (.iload_n 1, 1) := by decide +kernel
theorem dX12_holds_5 : decode cX12_holds 5 = .ok (.iaload, 1) := by decide +kernel
theorem dX12_holds_6 : decode cX12_holds 6 = .ok (.sipush 900, 3) := by decide +kernel
theorem dX12_holds_9 : decode cX12_holds 9 = .ok (.isub, 1) := by decide +kernel
theorem dX12_holds_10 : decode cX12_holds 10 = .ok (.istore_n 2, 1) := by decide +kernel
theorem dX12_holds_11 : decode cX12_holds 11 = .ok (.aload_n 0, 1) := by decide +kernel
theorem dX12_holds_12 : decode cX12_holds 12 = .ok (.getfield 7, 3) := by decide +kernel
theorem dX12_holds_15 : decode cX12_holds 15 = .ok (.iload_n 1, 1) := by decide +kernel
theorem dX12_holds_16 : decode cX12_holds 16 = .ok (.iconst 1, 1) := by decide +kernel
theorem dX12_holds_17 : decode cX12_holds 17 = .ok (.iadd, 1) := by decide +kernel
theorem dX12_holds_18 : decode cX12_holds 18 = .ok (.iaload, 1) := by decide +kernel
theorem dX12_holds_19 : decode cX12_holds 19 = .ok (.istore_n 3, 1) := by decide +kernel
theorem dX12_holds_20 : decode cX12_holds 20 = .ok (.iload_n 2, 1) := by decide +kernel
theorem dX12_holds_21 : decode cX12_holds 21 = .ok (.iconst 5, 1) := by decide +kernel
theorem dX12_holds_22 : decode cX12_holds 22 = .ok (.if_icmp .ne 25, 3) := by decide +kernel
theorem dX12_holds_25 : decode cX12_holds 25 = .ok (.aload_n 0, 1) := by decide +kernel
theorem dX12_holds_26 : decode cX12_holds 26 = .ok (.iload_n 3, 1) := by decide +kernel
theorem dX12_holds_27 : decode cX12_holds 27 = .ok (.invokevirtual 286, 3) := by decide +kernel
theorem dX12_holds_30 : decode cX12_holds 30 = .ok (.ifCond .eq 15, 3) := by decide +kernel
theorem dX12_holds_33 : decode cX12_holds 33 = .ok (.aload_n 0, 1) := by decide +kernel
theorem dX12_holds_34 : decode cX12_holds 34 = .ok (.iload_n 3, 1) := by decide +kernel
theorem dX12_holds_35 : decode cX12_holds 35 = .ok (.invokevirtual 238, 3) := by decide +kernel
theorem dX12_holds_38 : decode cX12_holds 38 = .ok (.ifCond .eq 7, 3) := by decide +kernel
theorem dX12_holds_41 : decode cX12_holds 41 = .ok (.iconst 1, 1) := by decide +kernel
theorem dX12_holds_42 : decode cX12_holds 42 = .ok (.goto 4, 3) := by decide +kernel
theorem dX12_holds_45 : decode cX12_holds 45 = .ok (.iconst 0, 1) := by decide +kernel
theorem dX12_holds_46 : decode cX12_holds 46 = .ok (.ireturn, 1) := by decide +kernel
theorem dX12_holds_47 : decode cX12_holds 47 = .ok (.iload_n 2, 1) := by decide +kernel
theorem dX12_holds_48 : decode cX12_holds 48 = .ok (.bipush 11, 2) := by decide +kernel
theorem dX12_holds_50 : decode cX12_holds 50 = .ok (.if_icmp .ne 24, 3) := by decide +kernel
theorem dX12_holds_53 : decode cX12_holds 53 = .ok (.aload_n 0, 1) := by decide +kernel
theorem dX12_holds_54 : decode cX12_holds 54 = .ok (.aload_n 0, 1) := by decide +kernel
theorem dX12_holds_55 : decode cX12_holds 55 = .ok (.getfield 7, 3) := by decide +kernel
theorem dX12_holds_58 : decode cX12_holds 58 = .ok (.iload_n 1, 1) := by decide +kernel
theorem dX12_holds_59 : decode cX12_holds 59 = .ok (.iconst 2, 1) := by decide +kernel
theorem dX12_holds_60 : decode cX12_holds 60 = .ok (.iadd, 1) := by decide +kernel
theorem dX12_holds_61 : decode cX12_holds 61 = .ok (.iaload, 1) := by decide +kernel
theorem dX12_holds_62 : decode cX12_holds 62 = .ok (.invokevirtual 291, 3) := by decide +kernel
theorem dX12_holds_65 : decode cX12_holds 65 = .ok (.ifCond .eq 7, 3) := by decide +kernel
theorem dX12_holds_68 : decode cX12_holds 68 = .ok (.iconst 1, 1) := by decide +kernel
theorem dX12_holds_69 : decode cX12_holds 69 = .ok (.goto 4, 3) := by decide +kernel
theorem dX12_holds_72 : decode cX12_holds 72 = .ok (.iconst 0, 1) := by decide +kernel
theorem dX12_holds_73 : decode cX12_holds 73 = .ok (.ireturn, 1) := by decide +kernel
theorem dX12_holds_74 : decode cX12_holds 74 = .ok (.aload_n 0, 1) := by decide +kernel
theorem dX12_holds_75 : decode cX12_holds 75 = .ok (.invokevirtual 274, 3) := by decide +kernel
theorem dX12_holds_78 : decode cX12_holds 78 = .ok (.ifCond .ne 5, 3) := by decide +kernel
theorem dX12_holds_81 : decode cX12_holds 81 = .ok (.iconst 0, 1) := by decide +kernel
theorem dX12_holds_82 : decode cX12_holds 82 = .ok (.ireturn, 1) := by decide +kernel
theorem dX12_holds_83 : decode cX12_holds 83 = .ok (.aload_n 0, 1) := by decide +kernel
theorem dX12_holds_84 : decode cX12_holds 84 = .ok (.iconst 0, 1) := by decide +kernel
theorem dX12_holds_85 : decode cX12_holds 85 = .ok (.invokevirtual 277, 3) := by decide +kernel
theorem dX12_holds_88 : decode cX12_holds 88 = .ok (.istore 4, 2) := by decide +kernel
theorem dX12_holds_90 : decode cX12_holds 90 = .ok (.iload_n 2, 1) := by decide +kernel
theorem dX12_holds_91 : decode cX12_holds 91 = .ok (.bipush 10, 2) := by decide +kernel
theorem dX12_holds_93 : decode cX12_holds 93 = .ok (.if_icmp .ne 14, 3) := by decide +kernel
theorem dX12_holds_96 : decode cX12_holds 96 = .ok (.iload 4, 2) := by decide +kernel
theorem dX12_holds_98 : decode cX12_holds 98 = .ok (.ifCond .ne 7, 3) := by decide +kernel
theorem dX12_holds_101 : decode cX12_holds 101 = .ok (.iconst 1, 1) := by decide +kernel
theorem dX12_holds_102 : decode cX12_holds 102 = .ok (.goto 4, 3) := by decide +kernel
theorem dX12_holds_105 : decode cX12_holds 105 = .ok (.iconst 0, 1) := by decide +kernel
theorem dX12_holds_106 : decode cX12_holds 106 = .ok (.ireturn, 1) := by decide +kernel
theorem dX12_holds_107 : decode cX12_holds 107 = .ok (.aload_n 0, 1) := by decide +kernel
theorem dX12_holds_108 : decode cX12_holds 108 = .ok (.getfield 7, 3) := by decide +kernel
theorem dX12_holds_111 : decode cX12_holds 111 = .ok (.iload_n 1, 1) := by decide +kernel
theorem dX12_holds_112 : decode cX12_holds 112 = .ok (.iconst 5, 1) := by decide +kernel
theorem dX12_holds_113 : decode cX12_holds 113 = .ok (.iadd, 1) := by decide +kernel
theorem dX12_holds_114 : decode cX12_holds 114 = .ok (.iaload, 1) := by decide +kernel
theorem dX12_holds_115 : decode cX12_holds 115 = .ok (.bipush 60, 2) := by decide +kernel
theorem dX12_holds_117 : decode cX12_holds 117 = .ok (.if_icmp .ne 24, 3) := by decide +kernel
theorem dX12_holds_120 : decode cX12_holds 120 = .ok (.iload 4, 2) := by decide +kernel
theorem dX12_holds_122 : decode cX12_holds 122 = .ok (.aload_n 0, 1) := by decide +kernel
theorem dX12_holds_123 : decode cX12_holds 123 = .ok (.getfield 7, 3) := by decide +kernel
theorem dX12_holds_126 : decode cX12_holds 126 = .ok (.iload_n 1, 1) := by decide +kernel
theorem dX12_holds_127 : decode cX12_holds 127 = .ok (.iconst 2, 1) := by decide +kernel
theorem dX12_holds_128 : decode cX12_holds 128 = .ok (.iadd, 1) := by decide +kernel
theorem dX12_holds_129 : decode cX12_holds 129 = .ok (.iaload, 1) := by decide +kernel
theorem dX12_holds_130 : decode cX12_holds 130 = .ok (.if_icmp .ge 7, 3) := by decide +kernel
theorem dX12_holds_133 : decode cX12_holds 133 = .ok (.iconst 1, 1) := by decide +kernel
theorem dX12_holds_134 : decode cX12_holds 134 = .ok (.goto 59, 3) := by decide +kernel
theorem dX12_holds_137 : decode cX12_holds 137 = .ok (.iconst 0, 1) := by decide +kernel
theorem dX12_holds_138 : decode cX12_holds 138 = .ok (.goto 55, 3) := by decide +kernel
theorem dX12_holds_141 : decode cX12_holds 141 = .ok (.aload_n 0, 1) := by decide +kernel
theorem dX12_holds_142 : decode cX12_holds 142 = .ok (.getfield 7, 3) := by decide +kernel
theorem dX12_holds_145 : decode cX12_holds 145 = .ok (.iload_n 1, 1) := by decide +kernel
theorem dX12_holds_146 : decode cX12_holds 146 = .ok (.iconst 5, 1) := by decide +kernel
theorem dX12_holds_147 : decode cX12_holds 147 = .ok (.iadd, 1) := by decide +kernel
theorem dX12_holds_148 : decode cX12_holds 148 = .ok (.iaload, 1) := by decide +kernel
theorem dX12_holds_149 : decode cX12_holds 149 = .ok (.bipush 62, 2) := by decide +kernel
theorem dX12_holds_151 : decode cX12_holds 151 = .ok (.if_icmp .ne 24, 3) := by decide +kernel
theorem dX12_holds_154 : decode cX12_holds 154 = .ok (.iload 4, 2) := by decide +kernel
theorem dX12_holds_156 : decode cX12_holds 156 = .ok (.aload_n 0, 1) := by decide +kernel
theorem dX12_holds_157 : decode cX12_holds 157 = .ok (.getfield 7, 3) := by decide +kernel
theorem dX12_holds_160 : decode cX12_holds 160 = .ok (.iload_n 1, 1) := by decide +kernel
theorem dX12_holds_161 : decode cX12_holds 161 = .ok (.iconst 2, 1) := by decide +kernel
theorem dX12_holds_162 : decode cX12_holds 162 = .ok (.iadd, 1) := by decide +kernel
theorem dX12_holds_163 : decode cX12_holds 163 = .ok (.iaload, 1) := by decide +kernel
theorem dX12_holds_164 : decode cX12_holds 164 = .ok (.if_icmp .le 7, 3) := by decide +kernel
theorem dX12_holds_167 : decode cX12_holds 167 = .ok (.iconst 1, 1) := by decide +kernel
theorem dX12_holds_168 : decode cX12_holds 168 = .ok (.goto 25, 3) := by decide +kernel
theorem dX12_holds_171 : decode cX12_holds 171 = .ok (.iconst 0, 1) := by decide +kernel
theorem dX12_holds_172 : decode cX12_holds 172 = .ok (.goto 21, 3) := by decide +kernel
theorem dX12_holds_175 : decode cX12_holds 175 = .ok (.iload 4, 2) := by decide +kernel
theorem dX12_holds_177 : decode cX12_holds 177 = .ok (.aload_n 0, 1) := by decide +kernel
theorem dX12_holds_178 : decode cX12_holds 178 = .ok (.getfield 7, 3) := by decide +kernel
theorem dX12_holds_181 : decode cX12_holds 181 = .ok (.iload_n 1, 1) := by decide +kernel
theorem dX12_holds_182 : decode cX12_holds 182 = .ok (.iconst 2, 1) := by decide +kernel
theorem dX12_holds_183 : decode cX12_holds 183 = .ok (.iadd, 1) := by decide +kernel
theorem dX12_holds_184 : decode cX12_holds 184 = .ok (.iaload, 1) := by decide +kernel
theorem dX12_holds_185 : decode cX12_holds 185 = .ok (.if_icmp .ne 7, 3) := by decide +kernel
theorem dX12_holds_188 : decode cX12_holds 188 = .ok (.iconst 1, 1) := by decide +kernel
theorem dX12_holds_189 : decode cX12_holds 189 = .ok (.goto 4, 3) := by decide +kernel
theorem dX12_holds_192 : decode cX12_holds 192 = .ok (.iconst 0, 1) := by decide +kernel
theorem dX12_holds_193 : decode cX12_holds 193 = .ok (.ireturn, 1) := by decide +kernel
noncomputable def Mo_holds (σ : St) (p1 : Int32) : Option (Int32 × St) :=
  chk (ix p1 2060) (bnd (((σ.1 93 (tn p1)) - 900)) (fun v2 => chk (ix (p1 + 1) 2060) (bnd ((σ.1 93 (tn (p1 + 1)))) (fun v4 => if v2 = 5 then (bd (Mo_isClass σ v4) (fun r29 => if r29 = 0 then (some (0, σ)) else (bd (Mo_isOn σ v4) (fun r31 => if r31 = 0 then (some (0, σ)) else (some (1, σ)))))) else (if v2 = 11 then (chk (ix (p1 + 2) 2060) (bd (Mo_catchers σ (σ.1 93 (tn (p1 + 2)))) (fun r25 => if r25 = 0 then (some (0, σ)) else (some (1, σ))))) else (bd2 (Mo_laysNow σ) (fun r6 σ7 => if r6 = 0 then (some (0, σ7)) else (bd (Mo_justBy σ7 0) (fun r9 => if v2 = 10 then (if r9 = 0 then (some (1, σ7)) else (some (0, σ7))) else (chk (ix (p1 + 5) 2060) (if (σ7.1 93 (tn (p1 + 5))) = 60 then (chk (ix (p1 + 2) 2060) (if (σ7.1 93 (tn (p1 + 2))) ≤ r9 then (some (0, σ7)) else (some (1, σ7)))) else (chk (ix (p1 + 5) 2060) (if (σ7.1 93 (tn (p1 + 5))) = 62 then (chk (ix (p1 + 2) 2060) (if r9 ≤ (σ7.1 93 (tn (p1 + 2))) then (some (0, σ7)) else (some (1, σ7)))) else (chk (ix (p1 + 2) 2060) (if r9 = (σ7.1 93 (tn (p1 + 2))) then (some (1, σ7)) else (some (0, σ7)))))))))))))))))
set_option maxRecDepth 100000 in
set_option maxHeartbeats 4000000 in
theorem tm_Mo_holds {V : Ev} {Γ : Cn} {fin : Option Value × St} {σ : St} {p1 : Int32} {o : (Int32 × St)} (X : Cx V Γ M_X12_holds) {A : (Int32 × St) → Prop}  (hr : ∀ (r : Int32) (σ9 : St), A (r, σ9) → (some (.int r), σ9) = fin) (h : Mo_holds σ p1 = some o) (hA : A o) : Go V Γ M_X12_holds (Zm V Γ 5 fin) 0 [(0, .ref (V.2.2.1 + 92)), (1, .int p1)] [] σ := by
  unfold Mo_holds at h
  refine g_aload_n (pc := 0) X 0 rfl dX12_holds_0 ?_
  refine g_getR (r := 93) (pc := 1) X k_fl_X12_7 s_92 rfl dX12_holds_1 ?_
  refine g_iload_n (pc := 4) X 1 rfl dX12_holds_4 ?_
  obtain ⟨c1, h⟩ := chk_e h
  refine g_iald (pc := 5) X s_93 c1 dX12_holds_5 ?_
  refine g_sipush (v := 900) (pc := 6) X (by decide) dX12_holds_6 ?_
  refine g_isub (pc := 9) X dX12_holds_9 ?_
  obtain ⟨v2, e_v2, h⟩ := bnd_e h
  refine g_nmI e_v2 ?_
  refine g_istore_n (pc := 10) X [(2, .int v2), (0, .ref (V.2.2.1 + 92)), (1, .int p1)] rfl (Nat.le_of_ble_eq_true rfl) rfl dX12_holds_10 ?_
  refine g_aload_n (pc := 11) X 1 rfl dX12_holds_11 ?_
  refine g_getR (r := 93) (pc := 12) X k_fl_X12_7 s_92 rfl dX12_holds_12 ?_
  refine g_iload_n (pc := 15) X 2 rfl dX12_holds_15 ?_
  refine g_iconst (v := 1) (pc := 16) X rfl dX12_holds_16 ?_
  refine g_iadd (pc := 17) X dX12_holds_17 ?_
  obtain ⟨c3, h⟩ := chk_e h
  refine g_iald (pc := 18) X s_93 c3 dX12_holds_18 ?_
  obtain ⟨v4, e_v4, h⟩ := bnd_e h
  refine g_nmI e_v4 ?_
  refine g_istore_n (pc := 19) X [(3, .int v4), (2, .int v2), (0, .ref (V.2.2.1 + 92)), (1, .int p1)] rfl (Nat.le_of_ble_eq_true rfl) rfl dX12_holds_19 ?_
  refine g_iload_n (pc := 20) X 1 rfl dX12_holds_20 ?_
  refine g_iconst (v := 5) (pc := 21) X rfl dX12_holds_21 ?_
  refine g_icmp_ne (pc := 22) (tgt := 47) X dX12_holds_22 rfl (fun c34 => ?_) (fun c34 => ?_)
  · replace h := if_f c34 h
    refine g_iload_n (pc := 47) X 1 rfl dX12_holds_47 ?_
    refine g_bipush (v := 11) (pc := 48) X (by decide) dX12_holds_48 ?_
    refine g_icmp_ne (pc := 50) (tgt := 74) X dX12_holds_50 rfl (fun c27 => ?_) (fun c27 => ?_)
    · replace h := if_f c27 h
      refine g_aload_n (pc := 74) X 2 rfl dX12_holds_74 ?_
      obtain ⟨r6, σ7, hc5, h⟩ := bd2_e h
      refine g_callV (pc := 75) X k_ml_X12_274 (run_Mo_laysNow  hc5) s_92 rfl (room_ok (Nat.le_of_ble_eq_true rfl) (Nat.le_of_ble_eq_true rfl)) ⟨Nat.le_refl _, Nat.le_refl _⟩ _ rfl (Nat.le_of_ble_eq_true rfl) dX12_holds_75 ?_
      show Go V Γ M_X12_holds (Zm V Γ 5 fin) 78 [(3, .int v4), (2, .int v2), (0, .ref (V.2.2.1 + 92)), (1, .int p1)] [.int r6] σ7
      refine g_if_ne (pc := 78) (tgt := 83) X dX12_holds_78 rfl (fun c22 => ?_) (fun c22 => ?_)
      · replace h := if_f c22 h
        refine g_aload_n (pc := 83) X 2 rfl dX12_holds_83 ?_
        refine g_iconst (v := 0) (pc := 84) X rfl dX12_holds_84 ?_
        obtain ⟨r9, hc8, h⟩ := bd_e h
        refine g_callV (pc := 85) X k_ml_X12_277 (run_Mo_justBy  hc8) s_92 rfl (room_ok (Nat.le_of_ble_eq_true rfl) (Nat.le_of_ble_eq_true rfl)) ⟨Nat.le_refl _, Nat.le_refl _⟩ _ rfl (Nat.le_of_ble_eq_true rfl) dX12_holds_85 ?_
        show Go V Γ M_X12_holds (Zm V Γ 5 fin) 88 [(3, .int v4), (2, .int v2), (0, .ref (V.2.2.1 + 92)), (1, .int p1)] [.int r9] σ7
        refine g_istore (pc := 88) X [(4, .int r9), (3, .int v4), (2, .int v2), (0, .ref (V.2.2.1 + 92)), (1, .int p1)] (Nat.le_of_ble_eq_true rfl) rfl dX12_holds_88 ?_
        refine g_iload_n (pc := 90) X 2 rfl dX12_holds_90 ?_
        refine g_bipush (v := 10) (pc := 91) X (by decide) dX12_holds_91 ?_
        refine g_icmp_ne (pc := 93) (tgt := 107) X dX12_holds_93 rfl (fun c21 => ?_) (fun c21 => ?_)
        · replace h := if_f c21 h
          refine g_aload_n (pc := 107) X 3 rfl dX12_holds_107 ?_
          refine g_getR (r := 93) (pc := 108) X k_fl_X12_7 s_92 rfl dX12_holds_108 ?_
          refine g_iload_n (pc := 111) X 4 rfl dX12_holds_111 ?_
          refine g_iconst (v := 5) (pc := 112) X rfl dX12_holds_112 ?_
          refine g_iadd (pc := 113) X dX12_holds_113 ?_
          obtain ⟨c10, h⟩ := chk_e h
          refine g_iald (pc := 114) X s_93 c10 dX12_holds_114 ?_
          refine g_bipush (v := 60) (pc := 115) X (by decide) dX12_holds_115 ?_
          refine g_icmp_ne (pc := 117) (tgt := 141) X dX12_holds_117 rfl (fun c19 => ?_) (fun c19 => ?_)
          · replace h := if_f c19 h
            refine g_aload_n (pc := 141) X 3 rfl dX12_holds_141 ?_
            refine g_getR (r := 93) (pc := 142) X k_fl_X12_7 s_92 rfl dX12_holds_142 ?_
            refine g_iload_n (pc := 145) X 4 rfl dX12_holds_145 ?_
            refine g_iconst (v := 5) (pc := 146) X rfl dX12_holds_146 ?_
            refine g_iadd (pc := 147) X dX12_holds_147 ?_
            obtain ⟨c11, h⟩ := chk_e h
            refine g_iald (pc := 148) X s_93 c11 dX12_holds_148 ?_
            refine g_bipush (v := 62) (pc := 149) X (by decide) dX12_holds_149 ?_
            refine g_icmp_ne (pc := 151) (tgt := 175) X dX12_holds_151 rfl (fun c16 => ?_) (fun c16 => ?_)
            · replace h := if_f c16 h
              refine g_iload (pc := 175) X 0 rfl dX12_holds_175 ?_
              refine g_aload_n (pc := 177) X 3 rfl dX12_holds_177 ?_
              refine g_getR (r := 93) (pc := 178) X k_fl_X12_7 s_92 rfl dX12_holds_178 ?_
              refine g_iload_n (pc := 181) X 4 rfl dX12_holds_181 ?_
              refine g_iconst (v := 2) (pc := 182) X rfl dX12_holds_182 ?_
              refine g_iadd (pc := 183) X dX12_holds_183 ?_
              obtain ⟨c12, h⟩ := chk_e h
              refine g_iald (pc := 184) X s_93 c12 dX12_holds_184 ?_
              refine g_icmp_ne (pc := 185) (tgt := 192) X dX12_holds_185 rfl (fun c13 => ?_) (fun c13 => ?_)
              · replace h := if_f c13 h
                refine g_iconst (v := 0) (pc := 192) X rfl dX12_holds_192 ?_
                cases h
                exact g_iret (pc := 193) X rfl nz0.1 (hr _ _ hA) dX12_holds_193
              · replace h := if_t c13 h
                refine g_iconst (v := 1) (pc := 188) X rfl dX12_holds_188 ?_
                refine g_goto (pc := 189) (tgt := 193) X dX12_holds_189 rfl ?_
                cases h
                exact g_iret (pc := 193) X rfl nz1.1 (hr _ _ hA) dX12_holds_193
            · replace h := if_t c16 h
              refine g_iload (pc := 154) X 0 rfl dX12_holds_154 ?_
              refine g_aload_n (pc := 156) X 3 rfl dX12_holds_156 ?_
              refine g_getR (r := 93) (pc := 157) X k_fl_X12_7 s_92 rfl dX12_holds_157 ?_
              refine g_iload_n (pc := 160) X 4 rfl dX12_holds_160 ?_
              refine g_iconst (v := 2) (pc := 161) X rfl dX12_holds_161 ?_
              refine g_iadd (pc := 162) X dX12_holds_162 ?_
              obtain ⟨c14, h⟩ := chk_e h
              refine g_iald (pc := 163) X s_93 c14 dX12_holds_163 ?_
              refine g_icmp_le (pc := 164) (tgt := 171) X dX12_holds_164 rfl (fun c15 => ?_) (fun c15 => ?_)
              · replace h := if_t c15 h
                refine g_iconst (v := 0) (pc := 171) X rfl dX12_holds_171 ?_
                refine g_goto (pc := 172) (tgt := 193) X dX12_holds_172 rfl ?_
                cases h
                exact g_iret (pc := 193) X rfl nz0.1 (hr _ _ hA) dX12_holds_193
              · replace h := if_f c15 h
                refine g_iconst (v := 1) (pc := 167) X rfl dX12_holds_167 ?_
                refine g_goto (pc := 168) (tgt := 193) X dX12_holds_168 rfl ?_
                cases h
                exact g_iret (pc := 193) X rfl nz1.1 (hr _ _ hA) dX12_holds_193
          · replace h := if_t c19 h
            refine g_iload (pc := 120) X 0 rfl dX12_holds_120 ?_
            refine g_aload_n (pc := 122) X 3 rfl dX12_holds_122 ?_
            refine g_getR (r := 93) (pc := 123) X k_fl_X12_7 s_92 rfl dX12_holds_123 ?_
            refine g_iload_n (pc := 126) X 4 rfl dX12_holds_126 ?_
            refine g_iconst (v := 2) (pc := 127) X rfl dX12_holds_127 ?_
            refine g_iadd (pc := 128) X dX12_holds_128 ?_
            obtain ⟨c17, h⟩ := chk_e h
            refine g_iald (pc := 129) X s_93 c17 dX12_holds_129 ?_
            refine g_icmp_ge (pc := 130) (tgt := 137) X dX12_holds_130 rfl (fun c18 => ?_) (fun c18 => ?_)
            · replace h := if_t c18 h
              refine g_iconst (v := 0) (pc := 137) X rfl dX12_holds_137 ?_
              refine g_goto (pc := 138) (tgt := 193) X dX12_holds_138 rfl ?_
              cases h
              exact g_iret (pc := 193) X rfl nz0.1 (hr _ _ hA) dX12_holds_193
            · replace h := if_f c18 h
              refine g_iconst (v := 1) (pc := 133) X rfl dX12_holds_133 ?_
              refine g_goto (pc := 134) (tgt := 193) X dX12_holds_134 rfl ?_
              cases h
              exact g_iret (pc := 193) X rfl nz1.1 (hr _ _ hA) dX12_holds_193
        · replace h := if_t c21 h
          refine g_iload (pc := 96) X 0 rfl dX12_holds_96 ?_
          refine g_if_ne (pc := 98) (tgt := 105) X dX12_holds_98 rfl (fun c20 => ?_) (fun c20 => ?_)
          · replace h := if_f c20 h
            refine g_iconst (v := 0) (pc := 105) X rfl dX12_holds_105 ?_
            cases h
            exact g_iret (pc := 106) X rfl nz0.1 (hr _ _ hA) dX12_holds_106
          · replace h := if_t c20 h
            refine g_iconst (v := 1) (pc := 101) X rfl dX12_holds_101 ?_
            refine g_goto (pc := 102) (tgt := 106) X dX12_holds_102 rfl ?_
            cases h
            exact g_iret (pc := 106) X rfl nz1.1 (hr _ _ hA) dX12_holds_106
      · replace h := if_t c22 h
        refine g_iconst (v := 0) (pc := 81) X rfl dX12_holds_81 ?_
        cases h
        exact g_iret (pc := 82) X rfl nz0.1 (hr _ _ hA) dX12_holds_82
    · replace h := if_t c27 h
      refine g_aload_n (pc := 53) X 2 rfl dX12_holds_53 ?_
      refine g_aload_n (pc := 54) X 2 rfl dX12_holds_54 ?_
      refine g_getR (r := 93) (pc := 55) X k_fl_X12_7 s_92 rfl dX12_holds_55 ?_
      refine g_iload_n (pc := 58) X 3 rfl dX12_holds_58 ?_
      refine g_iconst (v := 2) (pc := 59) X rfl dX12_holds_59 ?_
      refine g_iadd (pc := 60) X dX12_holds_60 ?_
      obtain ⟨c23, h⟩ := chk_e h
      refine g_iald (pc := 61) X s_93 c23 dX12_holds_61 ?_
      obtain ⟨r25, hc24, h⟩ := bd_e h
      refine g_callV (pc := 62) X k_ml_X12_291 (run_Mo_catchers  hc24) s_92 rfl (room_ok (Nat.le_of_ble_eq_true rfl) (Nat.le_of_ble_eq_true rfl)) ⟨Nat.le_refl _, Nat.le_refl _⟩ _ rfl (Nat.le_of_ble_eq_true rfl) dX12_holds_62 ?_
      show Go V Γ M_X12_holds (Zm V Γ 5 fin) 65 [(3, .int v4), (2, .int v2), (0, .ref (V.2.2.1 + 92)), (1, .int p1)] [.int r25] σ
      refine g_if_eq (pc := 65) (tgt := 72) X dX12_holds_65 rfl (fun c26 => ?_) (fun c26 => ?_)
      · replace h := if_t c26 h
        refine g_iconst (v := 0) (pc := 72) X rfl dX12_holds_72 ?_
        cases h
        exact g_iret (pc := 73) X rfl nz0.1 (hr _ _ hA) dX12_holds_73
      · replace h := if_f c26 h
        refine g_iconst (v := 1) (pc := 68) X rfl dX12_holds_68 ?_
        refine g_goto (pc := 69) (tgt := 73) X dX12_holds_69 rfl ?_
        cases h
        exact g_iret (pc := 73) X rfl nz1.1 (hr _ _ hA) dX12_holds_73
  · replace h := if_t c34 h
    refine g_aload_n (pc := 25) X 2 rfl dX12_holds_25 ?_
    refine g_iload_n (pc := 26) X 0 rfl dX12_holds_26 ?_
    obtain ⟨r29, hc28, h⟩ := bd_e h
    refine g_callV (pc := 27) X k_ml_X12_286 (run_Mo_isClass  hc28) s_92 rfl (room_ok (Nat.le_of_ble_eq_true rfl) (Nat.le_of_ble_eq_true rfl)) ⟨Nat.le_refl _, Nat.le_refl _⟩ _ rfl (Nat.le_of_ble_eq_true rfl) dX12_holds_27 ?_
    show Go V Γ M_X12_holds (Zm V Γ 5 fin) 30 [(3, .int v4), (2, .int v2), (0, .ref (V.2.2.1 + 92)), (1, .int p1)] [.int r29] σ
    refine g_if_eq (pc := 30) (tgt := 45) X dX12_holds_30 rfl (fun c33 => ?_) (fun c33 => ?_)
    · replace h := if_t c33 h
      refine g_iconst (v := 0) (pc := 45) X rfl dX12_holds_45 ?_
      cases h
      exact g_iret (pc := 46) X rfl nz0.1 (hr _ _ hA) dX12_holds_46
    · replace h := if_f c33 h
      refine g_aload_n (pc := 33) X 2 rfl dX12_holds_33 ?_
      refine g_iload_n (pc := 34) X 0 rfl dX12_holds_34 ?_
      obtain ⟨r31, hc30, h⟩ := bd_e h
      refine g_callV (pc := 35) X k_ml_X12_238 (run_Mo_isOn  hc30) s_92 rfl (room_ok (Nat.le_of_ble_eq_true rfl) (Nat.le_of_ble_eq_true rfl)) ⟨Nat.le_refl _, Nat.le_refl _⟩ _ rfl (Nat.le_of_ble_eq_true rfl) dX12_holds_35 ?_
      show Go V Γ M_X12_holds (Zm V Γ 5 fin) 38 [(3, .int v4), (2, .int v2), (0, .ref (V.2.2.1 + 92)), (1, .int p1)] [.int r31] σ
      refine g_if_eq (pc := 38) (tgt := 45) X dX12_holds_38 rfl (fun c32 => ?_) (fun c32 => ?_)
      · replace h := if_t c32 h
        refine g_iconst (v := 0) (pc := 45) X rfl dX12_holds_45 ?_
        cases h
        exact g_iret (pc := 46) X rfl nz0.1 (hr _ _ hA) dX12_holds_46
      · replace h := if_f c32 h
        refine g_iconst (v := 1) (pc := 41) X rfl dX12_holds_41 ?_
        refine g_goto (pc := 42) (tgt := 46) X dX12_holds_42 rfl ?_
        cases h
        exact g_iret (pc := 46) X rfl nz1.1 (hr _ _ hA) dX12_holds_46
set_option maxRecDepth 100000 in
theorem run_Mo_holds {V : Ev} {σ : St} {p1 : Int32} {o : (Int32 × St)}   (h : Mo_holds σ p1 = some o) : Rs V 5 M_X12_holds [.ref (V.2.2.1 + 92), .int p1] σ (some (.int o.1), o.2) := by
  refine Rs.of (by decide +kernel) (Nat.le_of_ble_eq_true rfl) (fun Γ X => ?_)
  exact tm_Mo_holds X (A := fun o1 => o1 = o)  (fun _ _ e => by rw [← e]) h rfl
theorem dX12_behindEnds_0 : decode cX12_behindEnds 0 = .ok (.iload_n 1, 1) := by decide +kernel
theorem dX12_behindEnds_1 : decode cX12_behindEnds 1 = .ok (.istore_n 2, 1) := by decide +kernel
theorem dX12_behindEnds_2 : decode cX12_behindEnds 2 = .ok (.iload_n 2, 1) := by decide +kernel
theorem dX12_behindEnds_3 : decode cX12_behindEnds 3 = .ok (.aload_n 0, 1) := by decide +kernel
theorem dX12_behindEnds_4 : decode cX12_behindEnds 4 = .ok (.getfield 7, 3) := by decide +kernel
theorem dX12_behindEnds_7 : decode cX12_behindEnds 7 = .ok (.iconst 2, 1) := by decide +kernel
theorem dX12_behindEnds_8 : decode cX12_behindEnds 8 = .ok (.iaload, 1) := by decide +kernel
theorem dX12_behindEnds_9 : decode cX12_behindEnds 9 = .ok (.if_icmp .ge 105, 3) := by decide +kernel
theorem dX12_behindEnds_12 : decode cX12_behindEnds 12 = .ok (.aload_n 0, 1) := by decide +kernel
theorem dX12_behindEnds_13 : decode cX12_behindEnds 13 = .ok (.getfield 7, 3) := by decide +kernel
theorem dX12_behindEnds_16 : decode cX12_behindEnds 16 = .ok (.bipush 40, 2) := by decide +kernel
theorem dX12_behindEnds_18 : decode cX12_behindEnds 18 = .ok (.bipush 6, 2) := by decide +kernel
theorem dX12_behindEnds_20 : decode cX12_behindEnds 20 = .ok (.iload_n 2, 1) := by decide +kernel
theorem dX12_behindEnds_21 : decode cX12_behindEnds 21 = .ok (.imul, 1) := by decide +kernel
theorem dX12_behindEnds_22 : decode cX12_behindEnds 22 = .ok (.iadd, 1) := by decide +kernel
theorem dX12_behindEnds_23 : decode cX12_behindEnds 23 = .ok (.iaload, 1) := by decide +kernel
theorem dX12_behindEnds_24 : decode cX12_behindEnds 24 = .ok (.bipush 14, 2) := by decide +kernel
theorem dX12_behindEnds_26 : decode cX12_behindEnds 26 = .ok (.if_icmp .ne 88, 3) := by decide +kernel
theorem dX12_behindEnds_29 : decode cX12_behindEnds 29 = .ok (.aload_n 0, 1) := by decide +kernel
theorem dX12_behindEnds_30 : decode cX12_behindEnds 30 = .ok (.getfield 7, 3) := by decide +kernel
theorem dX12_behindEnds_33 : decode cX12_behindEnds 33 = .ok (.bipush 40, 2) := by decide +kernel
theorem dX12_behindEnds_35 : decode cX12_behindEnds 35 = .ok (.bipush 6, 2) := by decide +kernel
theorem dX12_behindEnds_37 : decode cX12_behindEnds 37 = .ok (.iload_n 2, 1) := by decide +kernel
theorem dX12_behindEnds_38 : decode cX12_behindEnds 38 = .ok (.imul, 1) := by decide +kernel
theorem dX12_behindEnds_39 : decode cX12_behindEnds 39 = .ok (.iadd, 1) := by decide +kernel
theorem dX12_behindEnds_40 : decode cX12_behindEnds 40 = .ok (.iconst 4, 1) := by decide +kernel
theorem dX12_behindEnds_41 : decode cX12_behindEnds 41 = .ok (.iadd, 1) := by decide +kernel
theorem dX12_behindEnds_42 : decode cX12_behindEnds 42 = .ok (.iaload, 1) := by decide +kernel
theorem dX12_behindEnds_43 : decode cX12_behindEnds 43 = .ok (.istore_n 3, 1) := by decide +kernel
theorem dX12_behindEnds_44 : decode cX12_behindEnds 44 = .ok (.aload_n 0, 1) := by decide +kernel
theorem dX12_behindEnds_45 : decode cX12_behindEnds 45 = .ok (.getfield 7, 3) := by decide +kernel
theorem dX12_behindEnds_48 : decode cX12_behindEnds 48 = .ok (.bipush 40, 2) := by decide +kernel
theorem dX12_behindEnds_50 : decode cX12_behindEnds 50 = .ok (.bipush 6, 2) := by decide +kernel
theorem dX12_behindEnds_52 : decode cX12_behindEnds 52 = .ok (.iload_n 3, 1) := by decide +kernel
theorem dX12_behindEnds_53 : decode cX12_behindEnds 53 = .ok (.imul, 1) := by decide +kernel
theorem dX12_behindEnds_54 : decode cX12_behindEnds 54 = .ok (.iadd, 1) := by decide +kernel
theorem dX12_behindEnds_55 : decode cX12_behindEnds 55 = .ok (.iaload, 1) := by decide +kernel
theorem dX12_behindEnds_56 : decode cX12_behindEnds 56 = .ok (.bipush 13, 2) := by decide +kernel
theorem dX12_behindEnds_58 : decode cX12_behindEnds 58 = .ok (.if_icmp .ne 16, 3) := by decide +kernel
theorem dX12_behindEnds_61 : decode cX12_behindEnds 61 = .ok (.aload_n 0, 1) := by decide +kernel
theorem dX12_behindEnds_62 : decode cX12_behindEnds 62 = .ok (.getfield 69, 3) := by decide +kernel
theorem dX12_behindEnds_65 : decode cX12_behindEnds 65 = .ok (.iload_n 3, 1) := by decide +kernel
theorem dX12_behindEnds_66 : decode cX12_behindEnds 66 = .ok (.iaload, 1) := by decide +kernel
theorem dX12_behindEnds_67 : decode cX12_behindEnds 67 = .ok (.ifCond .le 7, 3) := by decide +kernel
theorem dX12_behindEnds_70 : decode cX12_behindEnds 70 = .ok (.iconst 1, 1) := by decide +kernel
theorem dX12_behindEnds_71 : decode cX12_behindEnds 71 = .ok (.goto 4, 3) := by decide +kernel
theorem dX12_behindEnds_74 : decode cX12_behindEnds 74 = .ok (.iconst 0, 1) := by decide +kernel
theorem dX12_behindEnds_75 : decode cX12_behindEnds 75 = .ok (.istore 4, 2) := by decide +kernel
theorem dX12_behindEnds_77 : decode cX12_behindEnds 77 = .ok (.aload_n 0, 1) := by decide +kernel
theorem dX12_behindEnds_78 : decode cX12_behindEnds 78 = .ok (.getfield 69, 3) := by decide +kernel
theorem dX12_behindEnds_81 : decode cX12_behindEnds 81 = .ok (.iload_n 3, 1) := by decide +kernel
theorem dX12_behindEnds_82 : decode cX12_behindEnds 82 = .ok (.dup2, 1) := by decide +kernel
theorem dX12_behindEnds_83 : decode cX12_behindEnds 83 = .ok (.iaload, 1) := by decide +kernel
theorem dX12_behindEnds_84 : decode cX12_behindEnds 84 = .ok (.iload 4, 2) := by decide +kernel
theorem dX12_behindEnds_86 : decode cX12_behindEnds 86 = .ok (.ifCond .eq 7, 3) := by decide +kernel
theorem dX12_behindEnds_89 : decode cX12_behindEnds 89 = .ok (.iconst 1, 1) := by decide +kernel
theorem dX12_behindEnds_90 : decode cX12_behindEnds 90 = .ok (.goto 4, 3) := by decide +kernel
theorem dX12_behindEnds_93 : decode cX12_behindEnds 93 = .ok (.iconst 0, 1) := by decide +kernel
theorem dX12_behindEnds_94 : decode cX12_behindEnds 94 = .ok (.isub, 1) := by decide +kernel
theorem dX12_behindEnds_95 : decode cX12_behindEnds 95 = .ok (.iastore, 1) := by decide +kernel
theorem dX12_behindEnds_96 : decode cX12_behindEnds 96 = .ok (.iload 4, 2) := by decide +kernel
theorem dX12_behindEnds_98 : decode cX12_behindEnds 98 = .ok (.ifCond .eq 9, 3) := by decide +kernel
theorem dX12_behindEnds_101 : decode cX12_behindEnds 101 = .ok (.iload_n 3, 1) := by decide +kernel
theorem dX12_behindEnds_102 : decode cX12_behindEnds 102 = .ok (.iconst 1, 1) := by decide +kernel
theorem dX12_behindEnds_103 : decode cX12_behindEnds 103 = .ok (.iadd, 1) := by decide +kernel
theorem dX12_behindEnds_104 : decode cX12_behindEnds 104 = .ok (.goto 6, 3) := by decide +kernel
theorem dX12_behindEnds_107 : decode cX12_behindEnds 107 = .ok (.iload_n 2, 1) := by decide +kernel
theorem dX12_behindEnds_108 : decode cX12_behindEnds 108 = .ok (.iconst 1, 1) := by decide +kernel
theorem dX12_behindEnds_109 : decode cX12_behindEnds 109 = .ok (.iadd, 1) := by decide +kernel
theorem dX12_behindEnds_110 : decode cX12_behindEnds 110 = .ok (.istore_n 2, 1) := by decide +kernel
theorem dX12_behindEnds_111 : decode cX12_behindEnds 111 = .ok (.goto (-109), 3) := by decide +kernel
theorem dX12_behindEnds_114 : decode cX12_behindEnds 114 = .ok (.iload_n 2, 1) := by decide +kernel
theorem dX12_behindEnds_115 : decode cX12_behindEnds 115 = .ok (.ireturn, 1) := by decide +kernel
noncomputable def Mo_behindEnds_J94_2 (σ : St) (l2 : Int32) (l3 : Int32) (l4 : Int32) (s0 : Int32) (s1 : Int32) (s2 : Int32) : Option (((Int32 × St) ⊕ (Int32 × St))) :=
  chk (ix s2 60) (bnd (wI σ 108 (tn s2) (s1 - s0)) (fun σ8 => if l4 = 0 then (bnd ((l2 + 1)) (fun v9 => some (.inl (v9, σ8)))) else (bnd ((l3 + 1)) (fun v10 => some (.inl (v10, σ8))))))
set_option maxRecDepth 100000 in
set_option maxHeartbeats 4000000 in
theorem tj_Mo_behindEnds_J94_2 {V : Ev} {Γ : Cn} {fin : Option Value × St} {σ : St} {l2 : Int32} {l3 : Int32} {l4 : Int32} {s0 : Int32} {s1 : Int32} {s2 : Int32} {o : ((Int32 × St) ⊕ (Int32 × St))} (X : Cx V Γ M_X12_behindEnds) {A : ((Int32 × St) ⊕ (Int32 × St)) → Prop}  (hb2 : ∀ (x2 : Int32) (σ9 : St), A (.inl (x2, σ9)) → Go V Γ M_X12_behindEnds (Zm V Γ 0 fin) 2 [(0, .ref (V.2.2.1 + 92)), (2, .int x2)] [] σ9) (hx2 : ∀ (x2 : Int32) (σ9 : St), A (.inr (x2, σ9)) → Go V Γ M_X12_behindEnds (Zm V Γ 0 fin) 114 [(2, .int x2)] [] σ9) (h : Mo_behindEnds_J94_2 σ l2 l3 l4 s0 s1 s2 = some o) (hA : A o) : Go V Γ M_X12_behindEnds (Zm V Γ 0 fin) 94 [(0, .ref (V.2.2.1 + 92)), (2, .int l2), (3, .int l3), (4, .int l4)] [.int s0, .int s1, .int s2, .ref (V.2.2.1 + 108)] σ := by
  unfold Mo_behindEnds_J94_2 at h
  refine g_isub (pc := 94) X dX12_behindEnds_94 ?_
  obtain ⟨c7, h⟩ := chk_e h
  refine g_iast (pc := 95) X s_108 c7 dX12_behindEnds_95 ?_
  obtain ⟨σ8, e_σ8, h⟩ := bnd_e h
  refine g_nmS e_σ8 ?_
  refine g_iload (pc := 96) X 3 rfl dX12_behindEnds_96 ?_
  refine g_if_eq (pc := 98) (tgt := 107) X dX12_behindEnds_98 rfl (fun c11 => ?_) (fun c11 => ?_)
  · replace h := if_t c11 h
    refine g_iload_n (pc := 107) X 1 rfl dX12_behindEnds_107 ?_
    refine g_iconst (v := 1) (pc := 108) X rfl dX12_behindEnds_108 ?_
    refine g_iadd (pc := 109) X dX12_behindEnds_109 ?_
    obtain ⟨v9, e_v9, h⟩ := bnd_e h
    refine g_nmI e_v9 ?_
    refine g_istore_n (pc := 110) X [(2, .int v9), (0, .ref (V.2.2.1 + 92)), (3, .int l3), (4, .int l4)] rfl (Nat.le_of_ble_eq_true rfl) rfl dX12_behindEnds_110 ?_
    refine g_goto (pc := 111) (tgt := 2) X dX12_behindEnds_111 rfl ?_
    refine g_sub [1, 0] rfl ?_
    cases h
    exact hb2 _ _ hA
  · replace h := if_f c11 h
    refine g_iload_n (pc := 101) X 2 rfl dX12_behindEnds_101 ?_
    refine g_iconst (v := 1) (pc := 102) X rfl dX12_behindEnds_102 ?_
    refine g_iadd (pc := 103) X dX12_behindEnds_103 ?_
    refine g_goto (pc := 104) (tgt := 110) X dX12_behindEnds_104 rfl ?_
    obtain ⟨v10, e_v10, h⟩ := bnd_e h
    refine g_nmI e_v10 ?_
    refine g_istore_n (pc := 110) X [(2, .int v10), (0, .ref (V.2.2.1 + 92)), (3, .int l3), (4, .int l4)] rfl (Nat.le_of_ble_eq_true rfl) rfl dX12_behindEnds_110 ?_
    refine g_goto (pc := 111) (tgt := 2) X dX12_behindEnds_111 rfl ?_
    refine g_sub [1, 0] rfl ?_
    cases h
    exact hb2 _ _ hA
noncomputable def Mo_behindEnds_J75_2 (σ : St) (l2 : Int32) (l3 : Int32) (s0 : Int32) : Option (((Int32 × St) ⊕ (Int32 × St))) :=
  chk (ix l3 60) (if s0 = 0 then (Mo_behindEnds_J94_2 σ l2 l3 s0 0 (σ.1 108 (tn l3)) l3) else (Mo_behindEnds_J94_2 σ l2 l3 s0 1 (σ.1 108 (tn l3)) l3))
set_option maxRecDepth 100000 in
set_option maxHeartbeats 4000000 in
theorem tj_Mo_behindEnds_J75_2 {V : Ev} {Γ : Cn} {fin : Option Value × St} {σ : St} {l2 : Int32} {l3 : Int32} {s0 : Int32} {o : ((Int32 × St) ⊕ (Int32 × St))} (X : Cx V Γ M_X12_behindEnds) {A : ((Int32 × St) ⊕ (Int32 × St)) → Prop}  (hb2 : ∀ (x2 : Int32) (σ9 : St), A (.inl (x2, σ9)) → Go V Γ M_X12_behindEnds (Zm V Γ 0 fin) 2 [(0, .ref (V.2.2.1 + 92)), (2, .int x2)] [] σ9) (hx2 : ∀ (x2 : Int32) (σ9 : St), A (.inr (x2, σ9)) → Go V Γ M_X12_behindEnds (Zm V Γ 0 fin) 114 [(2, .int x2)] [] σ9) (h : Mo_behindEnds_J75_2 σ l2 l3 s0 = some o) (hA : A o) : Go V Γ M_X12_behindEnds (Zm V Γ 0 fin) 75 [(0, .ref (V.2.2.1 + 92)), (2, .int l2), (3, .int l3)] [.int s0] σ := by
  unfold Mo_behindEnds_J75_2 at h
  refine g_istore (pc := 75) X [(4, .int s0), (0, .ref (V.2.2.1 + 92)), (2, .int l2), (3, .int l3)] (Nat.le_of_ble_eq_true rfl) rfl dX12_behindEnds_75 ?_
  refine g_aload_n (pc := 77) X 1 rfl dX12_behindEnds_77 ?_
  refine g_getR (r := 108) (pc := 78) X k_fl_X12_69 s_92 rfl dX12_behindEnds_78 ?_
  refine g_iload_n (pc := 81) X 3 rfl dX12_behindEnds_81 ?_
  refine g_dup2 (pc := 82) X rfl rfl dX12_behindEnds_82 ?_
  obtain ⟨c6, h⟩ := chk_e h
  refine g_iald (pc := 83) X s_108 c6 dX12_behindEnds_83 ?_
  refine g_iload (pc := 84) X 0 rfl dX12_behindEnds_84 ?_
  refine g_if_eq (pc := 86) (tgt := 93) X dX12_behindEnds_86 rfl (fun c12 => ?_) (fun c12 => ?_)
  · replace h := if_t c12 h
    refine g_iconst (v := 0) (pc := 93) X rfl dX12_behindEnds_93 ?_
    refine g_sub [1, 2, 3, 0] rfl ?_
    exact tj_Mo_behindEnds_J94_2 X  hb2 hx2 h hA
  · replace h := if_f c12 h
    refine g_iconst (v := 1) (pc := 89) X rfl dX12_behindEnds_89 ?_
    refine g_goto (pc := 90) (tgt := 94) X dX12_behindEnds_90 rfl ?_
    refine g_sub [1, 2, 3, 0] rfl ?_
    exact tj_Mo_behindEnds_J94_2 X  hb2 hx2 h hA
noncomputable def Mo_behindEnds_L2 (σ : St) (x2 : Int32) : Option ((Int32 × St) ⊕ (Int32 × St)) :=
  chk (ix 2 2060) (if (σ.1 93 (tn 2)) ≤ x2 then (some (.inr (x2, σ))) else (chk (ix (40 + (6 * x2)) 2060) (if (σ.1 93 (tn (40 + (6 * x2)))) = 14 then (chk (ix ((40 + (6 * x2)) + 4) 2060) (bnd ((σ.1 93 (tn ((40 + (6 * x2)) + 4)))) (fun v4 => chk (ix (40 + (6 * v4)) 2060) (if (σ.1 93 (tn (40 + (6 * v4)))) = 13 then (chk (ix v4 60) (if (σ.1 108 (tn v4)) ≤ 0 then (Mo_behindEnds_J75_2 σ x2 v4 0) else (Mo_behindEnds_J75_2 σ x2 v4 1))) else (Mo_behindEnds_J75_2 σ x2 v4 0))))) else (some (.inr (x2, σ))))))
set_option maxRecDepth 100000 in
set_option maxHeartbeats 4000000 in
theorem tb_Mo_behindEnds_L2 {V : Ev} {Γ : Cn} {fin : Option Value × St} {σ : St} {x2 : Int32} {o : ((Int32 × St) ⊕ (Int32 × St))} (X : Cx V Γ M_X12_behindEnds) {A : ((Int32 × St) ⊕ (Int32 × St)) → Prop}  (hb2 : ∀ (x2 : Int32) (σ9 : St), A (.inl (x2, σ9)) → Go V Γ M_X12_behindEnds (Zm V Γ 0 fin) 2 [(0, .ref (V.2.2.1 + 92)), (2, .int x2)] [] σ9) (hx2 : ∀ (x2 : Int32) (σ9 : St), A (.inr (x2, σ9)) → Go V Γ M_X12_behindEnds (Zm V Γ 0 fin) 114 [(2, .int x2)] [] σ9) (h : Mo_behindEnds_L2 σ x2 = some o) (hA : A o) : Go V Γ M_X12_behindEnds (Zm V Γ 0 fin) 2 [(0, .ref (V.2.2.1 + 92)), (2, .int x2)] [] σ := by
  unfold Mo_behindEnds_L2 at h
  refine g_iload_n (pc := 2) X 1 rfl dX12_behindEnds_2 ?_
  refine g_aload_n (pc := 3) X 0 rfl dX12_behindEnds_3 ?_
  refine g_getR (r := 93) (pc := 4) X k_fl_X12_7 s_92 rfl dX12_behindEnds_4 ?_
  refine g_iconst (v := 2) (pc := 7) X rfl dX12_behindEnds_7 ?_
  obtain ⟨c1, h⟩ := chk_e h
  refine g_iald (pc := 8) X s_93 c1 dX12_behindEnds_8 ?_
  refine g_icmp_ge (pc := 9) (tgt := 114) X dX12_behindEnds_9 rfl (fun c17 => ?_) (fun c17 => ?_)
  · replace h := if_t c17 h
    refine g_sub [1] rfl ?_
    cases h
    exact hx2 _ _ hA
  · replace h := if_f c17 h
    refine g_aload_n (pc := 12) X 0 rfl dX12_behindEnds_12 ?_
    refine g_getR (r := 93) (pc := 13) X k_fl_X12_7 s_92 rfl dX12_behindEnds_13 ?_
    refine g_bipush (v := 40) (pc := 16) X (by decide) dX12_behindEnds_16 ?_
    refine g_bipush (v := 6) (pc := 18) X (by decide) dX12_behindEnds_18 ?_
    refine g_iload_n (pc := 20) X 1 rfl dX12_behindEnds_20 ?_
    refine g_imul (pc := 21) X dX12_behindEnds_21 ?_
    refine g_iadd (pc := 22) X dX12_behindEnds_22 ?_
    obtain ⟨c2, h⟩ := chk_e h
    refine g_iald (pc := 23) X s_93 c2 dX12_behindEnds_23 ?_
    refine g_bipush (v := 14) (pc := 24) X (by decide) dX12_behindEnds_24 ?_
    refine g_icmp_ne (pc := 26) (tgt := 114) X dX12_behindEnds_26 rfl (fun c16 => ?_) (fun c16 => ?_)
    · replace h := if_f c16 h
      refine g_sub [1] rfl ?_
      cases h
      exact hx2 _ _ hA
    · replace h := if_t c16 h
      refine g_aload_n (pc := 29) X 0 rfl dX12_behindEnds_29 ?_
      refine g_getR (r := 93) (pc := 30) X k_fl_X12_7 s_92 rfl dX12_behindEnds_30 ?_
      refine g_bipush (v := 40) (pc := 33) X (by decide) dX12_behindEnds_33 ?_
      refine g_bipush (v := 6) (pc := 35) X (by decide) dX12_behindEnds_35 ?_
      refine g_iload_n (pc := 37) X 1 rfl dX12_behindEnds_37 ?_
      refine g_imul (pc := 38) X dX12_behindEnds_38 ?_
      refine g_iadd (pc := 39) X dX12_behindEnds_39 ?_
      refine g_iconst (v := 4) (pc := 40) X rfl dX12_behindEnds_40 ?_
      refine g_iadd (pc := 41) X dX12_behindEnds_41 ?_
      obtain ⟨c3, h⟩ := chk_e h
      refine g_iald (pc := 42) X s_93 c3 dX12_behindEnds_42 ?_
      obtain ⟨v4, e_v4, h⟩ := bnd_e h
      refine g_nmI e_v4 ?_
      refine g_istore_n (pc := 43) X [(3, .int v4), (0, .ref (V.2.2.1 + 92)), (2, .int x2)] rfl (Nat.le_of_ble_eq_true rfl) rfl dX12_behindEnds_43 ?_
      refine g_aload_n (pc := 44) X 1 rfl dX12_behindEnds_44 ?_
      refine g_getR (r := 93) (pc := 45) X k_fl_X12_7 s_92 rfl dX12_behindEnds_45 ?_
      refine g_bipush (v := 40) (pc := 48) X (by decide) dX12_behindEnds_48 ?_
      refine g_bipush (v := 6) (pc := 50) X (by decide) dX12_behindEnds_50 ?_
      refine g_iload_n (pc := 52) X 0 rfl dX12_behindEnds_52 ?_
      refine g_imul (pc := 53) X dX12_behindEnds_53 ?_
      refine g_iadd (pc := 54) X dX12_behindEnds_54 ?_
      obtain ⟨c5, h⟩ := chk_e h
      refine g_iald (pc := 55) X s_93 c5 dX12_behindEnds_55 ?_
      refine g_bipush (v := 13) (pc := 56) X (by decide) dX12_behindEnds_56 ?_
      refine g_icmp_ne (pc := 58) (tgt := 74) X dX12_behindEnds_58 rfl (fun c15 => ?_) (fun c15 => ?_)
      · replace h := if_f c15 h
        refine g_iconst (v := 0) (pc := 74) X rfl dX12_behindEnds_74 ?_
        refine g_sub [1, 2, 0] rfl ?_
        exact tj_Mo_behindEnds_J75_2 X  hb2 hx2 h hA
      · replace h := if_t c15 h
        refine g_aload_n (pc := 61) X 1 rfl dX12_behindEnds_61 ?_
        refine g_getR (r := 108) (pc := 62) X k_fl_X12_69 s_92 rfl dX12_behindEnds_62 ?_
        refine g_iload_n (pc := 65) X 0 rfl dX12_behindEnds_65 ?_
        obtain ⟨c13, h⟩ := chk_e h
        refine g_iald (pc := 66) X s_108 c13 dX12_behindEnds_66 ?_
        refine g_if_le (pc := 67) (tgt := 74) X dX12_behindEnds_67 rfl (fun c14 => ?_) (fun c14 => ?_)
        · replace h := if_t c14 h
          refine g_iconst (v := 0) (pc := 74) X rfl dX12_behindEnds_74 ?_
          refine g_sub [1, 2, 0] rfl ?_
          exact tj_Mo_behindEnds_J75_2 X  hb2 hx2 h hA
        · replace h := if_f c14 h
          refine g_iconst (v := 1) (pc := 70) X rfl dX12_behindEnds_70 ?_
          refine g_goto (pc := 71) (tgt := 75) X dX12_behindEnds_71 rfl ?_
          refine g_sub [1, 2, 0] rfl ?_
          exact tj_Mo_behindEnds_J75_2 X  hb2 hx2 h hA
set_option maxRecDepth 100000 in
theorem tl_Mo_behindEnds_L2 {V : Ev} {Γ : Cn} {fin : Option Value × St} {x2 : Int32} {σ9 : St} (X : Cx V Γ M_X12_behindEnds)  {y2 : Int32} {σ8 : St} {n : Nat} (h : iter (fun s : (Int32 × St) => Mo_behindEnds_L2 s.2 s.1) n (x2, σ9) = some (y2, σ8)) (hK : Go V Γ M_X12_behindEnds (Zm V Γ 0 fin) 114 [(2, .int y2)] [] σ8) : Go V Γ M_X12_behindEnds (Zm V Γ 0 fin) 2 [(0, .ref (V.2.2.1 + 92)), (2, .int x2)] [] σ9 := by
  refine iter_go (G := (fun s : (Int32 × St) => Go V Γ M_X12_behindEnds (Zm V Γ 0 fin) 2 [(0, .ref (V.2.2.1 + 92)), (2, .int s.1)] [] s.2)) (fun s o ho hS => ?_) n (x2, σ9) h
  exact tb_Mo_behindEnds_L2 X  (fun _ _ h9 => h9) (fun _ _ he => by cases he; exact hK) ho hS
noncomputable def Mo_behindEnds (σ : St) (p1 : Int32) : Option (Int32 × St) :=
  bd2 (iter (fun s : (Int32 × St) => Mo_behindEnds_L2 s.2 s.1) FUEL (p1, σ)) (fun v18 σ19 => some (v18, σ19))
set_option maxRecDepth 100000 in
set_option maxHeartbeats 4000000 in
theorem tm_Mo_behindEnds {V : Ev} {Γ : Cn} {fin : Option Value × St} {σ : St} {p1 : Int32} {o : (Int32 × St)} (X : Cx V Γ M_X12_behindEnds) {A : (Int32 × St) → Prop}  (hr : ∀ (r : Int32) (σ9 : St), A (r, σ9) → (some (.int r), σ9) = fin) (h : Mo_behindEnds σ p1 = some o) (hA : A o) : Go V Γ M_X12_behindEnds (Zm V Γ 0 fin) 0 [(0, .ref (V.2.2.1 + 92)), (1, .int p1)] [] σ := by
  unfold Mo_behindEnds at h
  refine g_iload_n (pc := 0) X 1 rfl dX12_behindEnds_0 ?_
  refine g_istore_n (pc := 1) X [(2, .int p1), (0, .ref (V.2.2.1 + 92)), (1, .int p1)] rfl (Nat.le_of_ble_eq_true rfl) rfl dX12_behindEnds_1 ?_
  refine g_sub [1, 0] rfl ?_
  obtain ⟨v18, σ19, hi20, h⟩ := bd2_e h
  refine tl_Mo_behindEnds_L2 X  hi20 ?_
  refine g_iload_n (pc := 114) X 0 rfl dX12_behindEnds_114 ?_
  cases h
  exact g_iret (pc := 115) X rfl rfl (hr _ _ hA) dX12_behindEnds_115
set_option maxRecDepth 100000 in
theorem run_Mo_behindEnds {V : Ev} {σ : St} {p1 : Int32} {o : (Int32 × St)}   (h : Mo_behindEnds σ p1 = some o) : Rs V 0 M_X12_behindEnds [.ref (V.2.2.1 + 92), .int p1] σ (some (.int o.1), o.2) := by
  refine Rs.of (by decide +kernel) (Nat.le_of_ble_eq_true rfl) (fun Γ X => ?_)
  exact tm_Mo_behindEnds X (A := fun o1 => o1 = o)  (fun _ _ e => by rw [← e]) h rfl
theorem dX12_lives_0 : decode cX12_lives 0 = .ok (.aload_n 0, 1) := by decide +kernel
theorem dX12_lives_1 : decode cX12_lives 1 = .ok (.iload_n 1, 1) := by decide +kernel
theorem dX12_lives_2 : decode cX12_lives 2 = .ok (.putfield 402, 3) := by decide +kernel
theorem dX12_lives_5 : decode cX12_lives 5 = .ok (.aload_n 0, 1) := by decide +kernel
theorem dX12_lives_6 : decode cX12_lives 6 = .ok (.iconst 0, 1) := by decide +kernel
theorem dX12_lives_7 : decode cX12_lives 7 = .ok (.putfield 421, 3) := by decide +kernel
theorem dX12_lives_10 : decode cX12_lives 10 = .ok (.iconst 0, 1) := by decide +kernel
theorem dX12_lives_11 : decode cX12_lives 11 = .ok (.istore_n 2, 1) := by decide +kernel
theorem dX12_lives_12 : decode cX12_lives 12 = .ok (.iload_n 2, 1) := by decide +kernel
theorem dX12_lives_13 : decode cX12_lives 13 = .ok (.iconst 5, 1) := by decide +kernel
theorem dX12_lives_14 : decode cX12_lives 14 = .ok (.if_icmp .ge 16, 3) := by decide +kernel
theorem dX12_lives_17 : decode cX12_lives 17 = .ok (.aload_n 0, 1) := by decide +kernel
theorem dX12_lives_18 : decode cX12_lives 18 = .ok (.getfield 72, 3) := by decide +kernel
theorem dX12_lives_21 : decode cX12_lives 21 = .ok (.iload_n 2, 1) := by decide +kernel
theorem dX12_lives_22 : decode cX12_lives 22 = .ok (.iconst 0, 1) := by decide +kernel
theorem dX12_lives_23 : decode cX12_lives 23 = .ok (.iastore, 1) := by decide +kernel
theorem dX12_lives_24 : decode cX12_lives 24 = .ok (.iinc 2 1, 3) := by decide +kernel
theorem dX12_lives_27 : decode cX12_lives 27 = .ok (.goto (-15), 3) := by decide +kernel
theorem dX12_lives_30 : decode cX12_lives 30 = .ok (.iconst 0, 1) := by decide +kernel
theorem dX12_lives_31 : decode cX12_lives 31 = .ok (.istore_n 2, 1) := by decide +kernel
theorem dX12_lives_32 : decode cX12_lives 32 = .ok (.iload_n 2, 1) := by decide +kernel
theorem dX12_lives_33 : decode cX12_lives 33 = .ok (.aload_n 0, 1) := by decide +kernel
theorem dX12_lives_34 : decode cX12_lives 34 = .ok (.getfield 7, 3) := by decide +kernel
theorem dX12_lives_37 : decode cX12_lives 37 = .ok (.iconst 2, 1) := by decide +kernel
theorem dX12_lives_38 : decode cX12_lives 38 = .ok (.iaload, 1) := by decide +kernel
theorem dX12_lives_39 : decode cX12_lives 39 = .ok (.if_icmp .ge 169, 3) := by decide +kernel
theorem dX12_lives_42 : decode cX12_lives 42 = .ok (.aload_n 0, 1) := by decide +kernel
theorem dX12_lives_43 : decode cX12_lives 43 = .ok (.getfield 72, 3) := by decide +kernel
theorem dX12_lives_46 : decode cX12_lives 46 = .ok (.iconst 4, 1) := by decide +kernel
theorem dX12_lives_47 : decode cX12_lives 47 = .ok (.iaload, 1) := by decide +kernel
theorem dX12_lives_48 : decode cX12_lives 48 = .ok (.ifCond .ne 160, 3) := by decide +kernel
theorem dX12_lives_51 : decode cX12_lives 51 = .ok (.aload_n 0, 1) := by decide +kernel
theorem dX12_lives_52 : decode cX12_lives 52 = .ok (.getfield 421, 3) := by decide +kernel
theorem dX12_lives_55 : decode cX12_lives 55 = .ok (.sipush 300, 3) := by decide +kernel
theorem dX12_lives_58 : decode cX12_lives 58 = .ok (.if_icmp .ne 13, 3) := by decide +kernel
theorem dX12_lives_61 : decode cX12_lives 61 = .ok (.aload_n 0, 1) := by decide +kernel
theorem dX12_lives_62 : decode cX12_lives 62 = .ok (.getfield 72, 3) := by decide +kernel
theorem dX12_lives_65 : decode cX12_lives 65 = .ok (.iconst 4, 1) := by decide +kernel
theorem dX12_lives_66 : decode cX12_lives 66 = .ok (.iconst 1, 1) := by decide +kernel
theorem dX12_lives_67 : decode cX12_lives 67 = .ok (.iastore, 1) := by decide +kernel
theorem dX12_lives_68 : decode cX12_lives 68 = .ok (.goto (-36), 3) := by decide +kernel
theorem dX12_lives_71 : decode cX12_lives 71 = .ok (.bipush 40, 2) := by decide +kernel
theorem dX12_lives_73 : decode cX12_lives 73 = .ok (.bipush 6, 2) := by decide +kernel
theorem dX12_lives_75 : decode cX12_lives 75 = .ok (.iload_n 2, 1) := by decide +kernel
theorem dX12_lives_76 : decode cX12_lives 76 = .ok (.imul, 1) := by decide +kernel
theorem dX12_lives_77 : decode cX12_lives 77 = .ok (.iadd, 1) := by decide +kernel
theorem dX12_lives_78 : decode cX12_lives 78 = .ok (.istore_n 3, 1) := by decide +kernel
theorem dX12_lives_79 : decode cX12_lives 79 = .ok (.aload_n 0, 1) := by decide +kernel
theorem dX12_lives_80 : decode cX12_lives 80 = .ok (.dup, 1) := by decide +kernel
theorem dX12_lives_81 : decode cX12_lives 81 = .ok (.getfield 421, 3) := by decide +kernel
theorem dX12_lives_84 : decode cX12_lives 84 = .ok (.iconst 1, 1) := by decide +kernel
theorem dX12_lives_85 : decode cX12_lives 85 = .ok (.iadd, 1) := by decide +kernel
theorem dX12_lives_86 : decode cX12_lives 86 = .ok (.putfield 421, 3) := by decide +kernel
theorem dX12_lives_89 : decode cX12_lives 89 = .ok (.aload_n 0, 1) := by decide +kernel
theorem dX12_lives_90 : decode cX12_lives 90 = .ok (.getfield 7, 3) := by decide +kernel
theorem dX12_lives_93 : decode cX12_lives 93 = .ok (.iload_n 3, 1) := by decide +kernel
theorem dX12_lives_94 : decode cX12_lives 94 = .ok (.iaload, 1) := by decide +kernel
theorem dX12_lives_95 : decode cX12_lives 95 = .ok (.bipush 15, 2) := by decide +kernel
theorem dX12_lives_97 : decode cX12_lives 97 = .ok (.if_icmp .ne 6, 3) := by decide +kernel
theorem dX12_lives_100 : decode cX12_lives 100 = .ok (.goto 108, 3) := by decide +kernel
theorem dX12_lives_103 : decode cX12_lives 103 = .ok (.aload_n 0, 1) := by decide +kernel
theorem dX12_lives_104 : decode cX12_lives 104 = .ok (.iload_n 3, 1) := by decide +kernel
theorem dX12_lives_105 : decode cX12_lives 105 = .ok (.invokevirtual 424, 3) := by decide +kernel
theorem dX12_lives_108 : decode cX12_lives 108 = .ok (.istore 4, 2) := by decide +kernel
theorem dX12_lives_110 : decode cX12_lives 110 = .ok (.iload 4, 2) := by decide +kernel
theorem dX12_lives_112 : decode cX12_lives 112 = .ok (.ifCond .ne 13, 3) := by decide +kernel
theorem dX12_lives_115 : decode cX12_lives 115 = .ok (.aload_n 0, 1) := by decide +kernel
theorem dX12_lives_116 : decode cX12_lives 116 = .ok (.getfield 72, 3) := by decide +kernel
theorem dX12_lives_119 : decode cX12_lives 119 = .ok (.iconst 0, 1) := by decide +kernel
theorem dX12_lives_120 : decode cX12_lives 120 = .ok (.dup2, 1) := by decide +kernel
theorem dX12_lives_121 : decode cX12_lives 121 = .ok (.iaload, 1) := by decide +kernel
theorem dX12_lives_122 : decode cX12_lives 122 = .ok (.iconst 1, 1) := by decide +kernel
theorem dX12_lives_123 : decode cX12_lives 123 = .ok (.iadd, 1) := by decide +kernel
theorem dX12_lives_124 : decode cX12_lives 124 = .ok (.iastore, 1) := by decide +kernel
theorem dX12_lives_125 : decode cX12_lives 125 = .ok (.aload_n 0, 1) := by decide +kernel
theorem dX12_lives_126 : decode cX12_lives 126 = .ok (.getfield 7, 3) := by decide +kernel
theorem dX12_lives_129 : decode cX12_lives 129 = .ok (.iload_n 3, 1) := by decide +kernel
theorem dX12_lives_130 : decode cX12_lives 130 = .ok (.iaload, 1) := by decide +kernel
theorem dX12_lives_131 : decode cX12_lives 131 = .ok (.bipush 13, 2) := by decide +kernel
theorem dX12_lives_133 : decode cX12_lives 133 = .ok (.if_icmp .ne 19, 3) := by decide +kernel
theorem dX12_lives_136 : decode cX12_lives 136 = .ok (.aload_n 0, 1) := by decide +kernel
theorem dX12_lives_137 : decode cX12_lives 137 = .ok (.getfield 69, 3) := by decide +kernel
theorem dX12_lives_140 : decode cX12_lives 140 = .ok (.iload_n 2, 1) := by decide +kernel
theorem dX12_lives_141 : decode cX12_lives 141 = .ok (.aload_n 0, 1) := by decide +kernel
theorem dX12_lives_142 : decode cX12_lives 142 = .ok (.getfield 7, 3) := by decide +kernel
theorem dX12_lives_145 : decode cX12_lives 145 = .ok (.iload_n 3, 1) := by decide +kernel
theorem dX12_lives_146 : decode cX12_lives 146 = .ok (.iconst 2, 1) := by decide +kernel
theorem dX12_lives_147 : decode cX12_lives 147 = .ok (.iadd, 1) := by decide +kernel
theorem dX12_lives_148 : decode cX12_lives 148 = .ok (.iaload, 1) := by decide +kernel
theorem dX12_lives_149 : decode cX12_lives 149 = .ok (.iconst 1, 1) := by decide +kernel
theorem dX12_lives_150 : decode cX12_lives 150 = .ok (.isub, 1) := by decide +kernel
theorem dX12_lives_151 : decode cX12_lives 151 = .ok (.iastore, 1) := by decide +kernel
theorem dX12_lives_152 : decode cX12_lives 152 = .ok (.aload_n 0, 1) := by decide +kernel
theorem dX12_lives_153 : decode cX12_lives 153 = .ok (.getfield 7, 3) := by decide +kernel
theorem dX12_lives_156 : decode cX12_lives 156 = .ok (.iload_n 3, 1) := by decide +kernel
theorem dX12_lives_157 : decode cX12_lives 157 = .ok (.iaload, 1) := by decide +kernel
theorem dX12_lives_158 : decode cX12_lives 158 = .ok (.sipush 900, 3) := by decide +kernel
theorem dX12_lives_161 : decode cX12_lives 161 = .ok (.if_icmp .lt 15, 3) := by decide +kernel
theorem dX12_lives_164 : decode cX12_lives 164 = .ok (.aload_n 0, 1) := by decide +kernel
theorem dX12_lives_165 : decode cX12_lives 165 = .ok (.iload_n 3, 1) := by decide +kernel
theorem dX12_lives_166 : decode cX12_lives 166 = .ok (.invokevirtual 427, 3) := by decide +kernel
theorem dX12_lives_169 : decode cX12_lives 169 = .ok (.ifCond .ne 7, 3) := by decide +kernel
theorem dX12_lives_172 : decode cX12_lives 172 = .ok (.iconst 1, 1) := by decide +kernel
theorem dX12_lives_173 : decode cX12_lives 173 = .ok (.goto 4, 3) := by decide +kernel
theorem dX12_lives_176 : decode cX12_lives 176 = .ok (.iconst 0, 1) := by decide +kernel
theorem dX12_lives_177 : decode cX12_lives 177 = .ok (.istore 5, 2) := by decide +kernel
theorem dX12_lives_179 : decode cX12_lives 179 = .ok (.aload_n 0, 1) := by decide +kernel
theorem dX12_lives_180 : decode cX12_lives 180 = .ok (.iload 5, 2) := by decide +kernel
theorem dX12_lives_182 : decode cX12_lives 182 = .ok (.ifCond .eq 16, 3) := by decide +kernel
theorem dX12_lives_185 : decode cX12_lives 185 = .ok (.aload_n 0, 1) := by decide +kernel
theorem dX12_lives_186 : decode cX12_lives 186 = .ok (.getfield 7, 3) := by decide +kernel
theorem dX12_lives_189 : decode cX12_lives 189 = .ok (.iload_n 3, 1) := by decide +kernel
theorem dX12_lives_190 : decode cX12_lives 190 = .ok (.iconst 4, 1) := by decide +kernel
theorem dX12_lives_191 : decode cX12_lives 191 = .ok (.iadd, 1) := by decide +kernel
theorem dX12_lives_192 : decode cX12_lives 192 = .ok (.iaload, 1) := by decide +kernel
theorem dX12_lives_193 : decode cX12_lives 193 = .ok (.iconst 1, 1) := by decide +kernel
theorem dX12_lives_194 : decode cX12_lives 194 = .ok (.iadd, 1) := by decide +kernel
theorem dX12_lives_195 : decode cX12_lives 195 = .ok (.goto 6, 3) := by decide +kernel
theorem dX12_lives_198 : decode cX12_lives 198 = .ok (.iload_n 2, 1) := by decide +kernel
theorem dX12_lives_199 : decode cX12_lives 199 = .ok (.iconst 1, 1) := by decide +kernel
theorem dX12_lives_200 : decode cX12_lives 200 = .ok (.iadd, 1) := by decide +kernel
theorem dX12_lives_201 : decode cX12_lives 201 = .ok (.invokevirtual 430, 3) := by decide +kernel
theorem dX12_lives_204 : decode cX12_lives 204 = .ok (.istore_n 2, 1) := by decide +kernel
theorem dX12_lives_205 : decode cX12_lives 205 = .ok (.goto (-173), 3) := by decide +kernel
theorem dX12_lives_208 : decode cX12_lives 208 = .ok (.return_, 1) := by decide +kernel
noncomputable def Mo_lives_L12 (σ : St) (x2 : Int32) : Option ((Int32 × St) ⊕ St) :=
  if 5 ≤ x2 then (some (.inr σ)) else (chk (ix x2 5) (bnd (wI σ 109 (tn x2) 0) (fun σ4 => bnd (x2 + 1) (fun v5 => some (.inl (v5, σ4))))))
set_option maxRecDepth 100000 in
set_option maxHeartbeats 4000000 in
theorem tb_Mo_lives_L12 {V : Ev} {Γ : Cn} {fin : Option Value × St} {σ : St} {x2 : Int32} {o : ((Int32 × St) ⊕ St)} (X : Cx V Γ M_X12_lives) {A : ((Int32 × St) ⊕ St) → Prop}  (hb12 : ∀ (x2 : Int32) (σ9 : St), A (.inl (x2, σ9)) → Go V Γ M_X12_lives (Zm V Γ 6 fin) 12 [(0, .ref (V.2.2.1 + 92)), (2, .int x2)] [] σ9) (hx12 : ∀ (σ9 : St), A (.inr σ9) → Go V Γ M_X12_lives (Zm V Γ 6 fin) 30 [(0, .ref (V.2.2.1 + 92))] [] σ9) (h : Mo_lives_L12 σ x2 = some o) (hA : A o) : Go V Γ M_X12_lives (Zm V Γ 6 fin) 12 [(0, .ref (V.2.2.1 + 92)), (2, .int x2)] [] σ := by
  unfold Mo_lives_L12 at h
  refine g_iload_n (pc := 12) X 1 rfl dX12_lives_12 ?_
  refine g_iconst (v := 5) (pc := 13) X rfl dX12_lives_13 ?_
  refine g_icmp_ge (pc := 14) (tgt := 30) X dX12_lives_14 rfl (fun c6 => ?_) (fun c6 => ?_)
  · replace h := if_t c6 h
    refine g_sub [0] rfl ?_
    cases h
    exact hx12 _ hA
  · replace h := if_f c6 h
    refine g_aload_n (pc := 17) X 0 rfl dX12_lives_17 ?_
    refine g_getR (r := 109) (pc := 18) X k_fl_X12_72 s_92 rfl dX12_lives_18 ?_
    refine g_iload_n (pc := 21) X 1 rfl dX12_lives_21 ?_
    refine g_iconst (v := 0) (pc := 22) X rfl dX12_lives_22 ?_
    obtain ⟨c3, h⟩ := chk_e h
    refine g_iast (pc := 23) X s_109 c3 dX12_lives_23 ?_
    obtain ⟨σ4, e_σ4, h⟩ := bnd_e h
    refine g_nmS e_σ4 ?_
    obtain ⟨v5, e_v5, h⟩ := bnd_e h
    refine g_iinc (pc := 24) (v := v5) X [(2, .int v5), (0, .ref (V.2.2.1 + 92))] 1 rfl (by rw [e_v5]; rfl) (Nat.le_of_ble_eq_true rfl) rfl dX12_lives_24 ?_
    refine g_goto (pc := 27) (tgt := 12) X dX12_lives_27 rfl ?_
    refine g_sub [1, 0] rfl ?_
    cases h
    exact hb12 _ _ hA
set_option maxRecDepth 100000 in
theorem tl_Mo_lives_L12 {V : Ev} {Γ : Cn} {fin : Option Value × St} {x2 : Int32} {σ9 : St} (X : Cx V Γ M_X12_lives)  {σ8 : St} {n : Nat} (h : iter (fun s : (Int32 × St) => Mo_lives_L12 s.2 s.1) n (x2, σ9) = some σ8) (hK : Go V Γ M_X12_lives (Zm V Γ 6 fin) 30 [(0, .ref (V.2.2.1 + 92))] [] σ8) : Go V Γ M_X12_lives (Zm V Γ 6 fin) 12 [(0, .ref (V.2.2.1 + 92)), (2, .int x2)] [] σ9 := by
  refine iter_go (G := (fun s : (Int32 × St) => Go V Γ M_X12_lives (Zm V Γ 6 fin) 12 [(0, .ref (V.2.2.1 + 92)), (2, .int s.1)] [] s.2)) (fun s o ho hS => ?_) n (x2, σ9) h
  exact tb_Mo_lives_L12 X  (fun _ _ h9 => h9) (fun _ he => by cases he; exact hK) ho hS
noncomputable def Mo_lives_J177_32 (σ : St) (l2 : Int32) (l3 : Int32) (s0 : Int32) : Option (((Int32 × St) ⊕ St)) :=
  if s0 = 0 then (bd2 (Mo_behindEnds σ (l2 + 1)) (fun r20 σ21 => some (.inl (r20, σ21)))) else (chk (ix (l3 + 4) 2060) (bd2 (Mo_behindEnds σ ((σ.1 93 (tn (l3 + 4))) + 1)) (fun r24 σ25 => some (.inl (r24, σ25)))))
set_option maxRecDepth 100000 in
set_option maxHeartbeats 4000000 in
theorem tj_Mo_lives_J177_32 {V : Ev} {Γ : Cn} {fin : Option Value × St} {σ : St} {l2 : Int32} {l3 : Int32} {s0 : Int32} {o : ((Int32 × St) ⊕ St)} (X : Cx V Γ M_X12_lives) {A : ((Int32 × St) ⊕ St) → Prop}  (hr : ∀ (σ9 : St), A (.inr σ9) → (none, σ9) = fin) (hb32 : ∀ (x2 : Int32) (σ9 : St), A (.inl (x2, σ9)) → Go V Γ M_X12_lives (Zm V Γ 6 fin) 32 [(0, .ref (V.2.2.1 + 92)), (2, .int x2)] [] σ9) (h : Mo_lives_J177_32 σ l2 l3 s0 = some o) (hA : A o) : Go V Γ M_X12_lives (Zm V Γ 6 fin) 177 [(0, .ref (V.2.2.1 + 92)), (2, .int l2), (3, .int l3)] [.int s0] σ := by
  unfold Mo_lives_J177_32 at h
  refine g_istore (pc := 177) X [(5, .int s0), (0, .ref (V.2.2.1 + 92)), (2, .int l2), (3, .int l3)] (Nat.le_of_ble_eq_true rfl) rfl dX12_lives_177 ?_
  refine g_aload_n (pc := 179) X 1 rfl dX12_lives_179 ?_
  refine g_iload (pc := 180) X 0 rfl dX12_lives_180 ?_
  refine g_if_eq (pc := 182) (tgt := 198) X dX12_lives_182 rfl (fun c26 => ?_) (fun c26 => ?_)
  · replace h := if_t c26 h
    refine g_iload_n (pc := 198) X 2 rfl dX12_lives_198 ?_
    refine g_iconst (v := 1) (pc := 199) X rfl dX12_lives_199 ?_
    refine g_iadd (pc := 200) X dX12_lives_200 ?_
    obtain ⟨r20, σ21, hc19, h⟩ := bd2_e h
    refine g_callV (pc := 201) X k_ml_X12_430 (run_Mo_behindEnds  hc19) s_92 rfl (room_ok (Nat.le_of_ble_eq_true rfl) (Nat.le_of_ble_eq_true rfl)) ⟨Nat.le_refl _, Nat.le_refl _⟩ _ rfl (Nat.le_of_ble_eq_true rfl) dX12_lives_201 ?_
    show Go V Γ M_X12_lives (Zm V Γ 6 fin) 204 [(5, .int s0), (0, .ref (V.2.2.1 + 92)), (2, .int l2), (3, .int l3)] [.int r20] σ21
    refine g_istore_n (pc := 204) X [(2, .int r20), (5, .int s0), (0, .ref (V.2.2.1 + 92)), (3, .int l3)] rfl (Nat.le_of_ble_eq_true rfl) rfl dX12_lives_204 ?_
    refine g_goto (pc := 205) (tgt := 32) X dX12_lives_205 rfl ?_
    refine g_sub [2, 0] rfl ?_
    cases h
    exact hb32 _ _ hA
  · replace h := if_f c26 h
    refine g_aload_n (pc := 185) X 1 rfl dX12_lives_185 ?_
    refine g_getR (r := 93) (pc := 186) X k_fl_X12_7 s_92 rfl dX12_lives_186 ?_
    refine g_iload_n (pc := 189) X 3 rfl dX12_lives_189 ?_
    refine g_iconst (v := 4) (pc := 190) X rfl dX12_lives_190 ?_
    refine g_iadd (pc := 191) X dX12_lives_191 ?_
    obtain ⟨c22, h⟩ := chk_e h
    refine g_iald (pc := 192) X s_93 c22 dX12_lives_192 ?_
    refine g_iconst (v := 1) (pc := 193) X rfl dX12_lives_193 ?_
    refine g_iadd (pc := 194) X dX12_lives_194 ?_
    refine g_goto (pc := 195) (tgt := 201) X dX12_lives_195 rfl ?_
    obtain ⟨r24, σ25, hc23, h⟩ := bd2_e h
    refine g_callV (pc := 201) X k_ml_X12_430 (run_Mo_behindEnds  hc23) s_92 rfl (room_ok (Nat.le_of_ble_eq_true rfl) (Nat.le_of_ble_eq_true rfl)) ⟨Nat.le_refl _, Nat.le_refl _⟩ _ rfl (Nat.le_of_ble_eq_true rfl) dX12_lives_201 ?_
    show Go V Γ M_X12_lives (Zm V Γ 6 fin) 204 [(5, .int s0), (0, .ref (V.2.2.1 + 92)), (2, .int l2), (3, .int l3)] [.int r24] σ25
    refine g_istore_n (pc := 204) X [(2, .int r24), (5, .int s0), (0, .ref (V.2.2.1 + 92)), (3, .int l3)] rfl (Nat.le_of_ble_eq_true rfl) rfl dX12_lives_204 ?_
    refine g_goto (pc := 205) (tgt := 32) X dX12_lives_205 rfl ?_
    refine g_sub [2, 0] rfl ?_
    cases h
    exact hb32 _ _ hA
noncomputable def Mo_lives_J152_32 (σ : St) (l2 : Int32) (l3 : Int32) : Option (((Int32 × St) ⊕ St)) :=
  chk (ix l3 2060) (if (σ.1 93 (tn l3)) < 900 then (Mo_lives_J177_32 σ l2 l3 0) else (bd2 (Mo_holds σ l3) (fun r28 σ29 => if r28 = 0 then (Mo_lives_J177_32 σ29 l2 l3 1) else (Mo_lives_J177_32 σ29 l2 l3 0))))
set_option maxRecDepth 100000 in
set_option maxHeartbeats 4000000 in
theorem tj_Mo_lives_J152_32 {V : Ev} {Γ : Cn} {fin : Option Value × St} {σ : St} {l2 : Int32} {l3 : Int32} {o : ((Int32 × St) ⊕ St)} (X : Cx V Γ M_X12_lives) {A : ((Int32 × St) ⊕ St) → Prop}  (hr : ∀ (σ9 : St), A (.inr σ9) → (none, σ9) = fin) (hb32 : ∀ (x2 : Int32) (σ9 : St), A (.inl (x2, σ9)) → Go V Γ M_X12_lives (Zm V Γ 6 fin) 32 [(0, .ref (V.2.2.1 + 92)), (2, .int x2)] [] σ9) (h : Mo_lives_J152_32 σ l2 l3 = some o) (hA : A o) : Go V Γ M_X12_lives (Zm V Γ 6 fin) 152 [(0, .ref (V.2.2.1 + 92)), (2, .int l2), (3, .int l3)] [] σ := by
  unfold Mo_lives_J152_32 at h
  refine g_aload_n (pc := 152) X 0 rfl dX12_lives_152 ?_
  refine g_getR (r := 93) (pc := 153) X k_fl_X12_7 s_92 rfl dX12_lives_153 ?_
  refine g_iload_n (pc := 156) X 2 rfl dX12_lives_156 ?_
  obtain ⟨c18, h⟩ := chk_e h
  refine g_iald (pc := 157) X s_93 c18 dX12_lives_157 ?_
  refine g_sipush (v := 900) (pc := 158) X (by decide) dX12_lives_158 ?_
  refine g_icmp_lt (pc := 161) (tgt := 176) X dX12_lives_161 rfl (fun c31 => ?_) (fun c31 => ?_)
  · replace h := if_t c31 h
    refine g_iconst (v := 0) (pc := 176) X rfl dX12_lives_176 ?_
    refine g_sub [0, 1, 2] rfl ?_
    exact tj_Mo_lives_J177_32 X  hr hb32 h hA
  · replace h := if_f c31 h
    refine g_aload_n (pc := 164) X 0 rfl dX12_lives_164 ?_
    refine g_iload_n (pc := 165) X 2 rfl dX12_lives_165 ?_
    obtain ⟨r28, σ29, hc27, h⟩ := bd2_e h
    refine g_callV (pc := 166) X k_ml_X12_427 (run_Mo_holds  hc27) s_92 rfl (room_ok (Nat.le_of_ble_eq_true rfl) (Nat.le_of_ble_eq_true rfl)) ⟨Nat.le_refl _, Nat.le_refl _⟩ _ rfl (Nat.le_of_ble_eq_true rfl) dX12_lives_166 ?_
    show Go V Γ M_X12_lives (Zm V Γ 6 fin) 169 [(0, .ref (V.2.2.1 + 92)), (2, .int l2), (3, .int l3)] [.int r28] σ29
    refine g_if_ne (pc := 169) (tgt := 176) X dX12_lives_169 rfl (fun c30 => ?_) (fun c30 => ?_)
    · replace h := if_f c30 h
      refine g_iconst (v := 0) (pc := 176) X rfl dX12_lives_176 ?_
      refine g_sub [0, 1, 2] rfl ?_
      exact tj_Mo_lives_J177_32 X  hr hb32 h hA
    · replace h := if_t c30 h
      refine g_iconst (v := 1) (pc := 172) X rfl dX12_lives_172 ?_
      refine g_goto (pc := 173) (tgt := 177) X dX12_lives_173 rfl ?_
      refine g_sub [0, 1, 2] rfl ?_
      exact tj_Mo_lives_J177_32 X  hr hb32 h hA
noncomputable def Mo_lives_J125_32 (σ : St) (l2 : Int32) (l3 : Int32) : Option (((Int32 × St) ⊕ St)) :=
  chk (ix l3 2060) (if (σ.1 93 (tn l3)) = 13 then (chk (ix (l3 + 2) 2060) (chk (ix l2 60) (bnd (wI σ 108 (tn l2) ((σ.1 93 (tn (l3 + 2))) - 1)) (fun σ34 => Mo_lives_J152_32 σ34 l2 l3)))) else (Mo_lives_J152_32 σ l2 l3))
set_option maxRecDepth 100000 in
set_option maxHeartbeats 4000000 in
theorem tj_Mo_lives_J125_32 {V : Ev} {Γ : Cn} {fin : Option Value × St} {σ : St} {l2 : Int32} {l3 : Int32} {o : ((Int32 × St) ⊕ St)} (X : Cx V Γ M_X12_lives) {A : ((Int32 × St) ⊕ St) → Prop}  (hr : ∀ (σ9 : St), A (.inr σ9) → (none, σ9) = fin) (hb32 : ∀ (x2 : Int32) (σ9 : St), A (.inl (x2, σ9)) → Go V Γ M_X12_lives (Zm V Γ 6 fin) 32 [(0, .ref (V.2.2.1 + 92)), (2, .int x2)] [] σ9) (h : Mo_lives_J125_32 σ l2 l3 = some o) (hA : A o) : Go V Γ M_X12_lives (Zm V Γ 6 fin) 125 [(0, .ref (V.2.2.1 + 92)), (2, .int l2), (3, .int l3)] [] σ := by
  unfold Mo_lives_J125_32 at h
  refine g_aload_n (pc := 125) X 0 rfl dX12_lives_125 ?_
  refine g_getR (r := 93) (pc := 126) X k_fl_X12_7 s_92 rfl dX12_lives_126 ?_
  refine g_iload_n (pc := 129) X 2 rfl dX12_lives_129 ?_
  obtain ⟨c17, h⟩ := chk_e h
  refine g_iald (pc := 130) X s_93 c17 dX12_lives_130 ?_
  refine g_bipush (v := 13) (pc := 131) X (by decide) dX12_lives_131 ?_
  refine g_icmp_ne (pc := 133) (tgt := 152) X dX12_lives_133 rfl (fun c35 => ?_) (fun c35 => ?_)
  · replace h := if_f c35 h
    refine g_sub [0, 1, 2] rfl ?_
    exact tj_Mo_lives_J152_32 X  hr hb32 h hA
  · replace h := if_t c35 h
    refine g_aload_n (pc := 136) X 0 rfl dX12_lives_136 ?_
    refine g_getR (r := 108) (pc := 137) X k_fl_X12_69 s_92 rfl dX12_lives_137 ?_
    refine g_iload_n (pc := 140) X 1 rfl dX12_lives_140 ?_
    refine g_aload_n (pc := 141) X 0 rfl dX12_lives_141 ?_
    refine g_getR (r := 93) (pc := 142) X k_fl_X12_7 s_92 rfl dX12_lives_142 ?_
    refine g_iload_n (pc := 145) X 2 rfl dX12_lives_145 ?_
    refine g_iconst (v := 2) (pc := 146) X rfl dX12_lives_146 ?_
    refine g_iadd (pc := 147) X dX12_lives_147 ?_
    obtain ⟨c32, h⟩ := chk_e h
    refine g_iald (pc := 148) X s_93 c32 dX12_lives_148 ?_
    refine g_iconst (v := 1) (pc := 149) X rfl dX12_lives_149 ?_
    refine g_isub (pc := 150) X dX12_lives_150 ?_
    obtain ⟨c33, h⟩ := chk_e h
    refine g_iast (pc := 151) X s_108 c33 dX12_lives_151 ?_
    obtain ⟨σ34, e_σ34, h⟩ := bnd_e h
    refine g_nmS e_σ34 ?_
    refine g_sub [0, 1, 2] rfl ?_
    exact tj_Mo_lives_J152_32 X  hr hb32 h hA
noncomputable def Mo_lives_L32 (σ : St) (x2 : Int32) : Option ((Int32 × St) ⊕ St) :=
  chk (ix 2 2060) (if (σ.1 93 (tn 2)) ≤ x2 then (some (.inr σ)) else (chk (ix 4 5) (if (σ.1 109 (tn 4)) = 0 then (if (σ.1 92 33) = 300 then (chk (ix 4 5) (bnd (wI σ 109 (tn 4) 1) (fun σ42 => some (.inl (x2, σ42))))) else (bnd ((40 + (6 * x2))) (fun v11 => bnd (wI σ 92 33 ((σ.1 92 33) + 1)) (fun σ12 => chk (ix v11 2060) (if (σ12.1 93 (tn v11)) = 15 then (some (.inr σ12)) else (bd2 (Mo_does σ12 v11) (fun r15 σ16 => if r15 = 0 then (chk (ix 0 5) (chk (ix 0 5) (bnd (wI σ16 109 (tn 0) ((σ16.1 109 (tn 0)) + 1)) (fun σ38 => Mo_lives_J125_32 σ38 x2 v11)))) else (Mo_lives_J125_32 σ16 x2 v11)))))))) else (some (.inr σ)))))
set_option maxRecDepth 100000 in
set_option maxHeartbeats 4000000 in
theorem tb_Mo_lives_L32 {V : Ev} {Γ : Cn} {fin : Option Value × St} {σ : St} {x2 : Int32} {o : ((Int32 × St) ⊕ St)} (X : Cx V Γ M_X12_lives) {A : ((Int32 × St) ⊕ St) → Prop}  (hr : ∀ (σ9 : St), A (.inr σ9) → (none, σ9) = fin) (hb32 : ∀ (x2 : Int32) (σ9 : St), A (.inl (x2, σ9)) → Go V Γ M_X12_lives (Zm V Γ 6 fin) 32 [(0, .ref (V.2.2.1 + 92)), (2, .int x2)] [] σ9) (h : Mo_lives_L32 σ x2 = some o) (hA : A o) : Go V Γ M_X12_lives (Zm V Γ 6 fin) 32 [(0, .ref (V.2.2.1 + 92)), (2, .int x2)] [] σ := by
  unfold Mo_lives_L32 at h
  refine g_iload_n (pc := 32) X 1 rfl dX12_lives_32 ?_
  refine g_aload_n (pc := 33) X 0 rfl dX12_lives_33 ?_
  refine g_getR (r := 93) (pc := 34) X k_fl_X12_7 s_92 rfl dX12_lives_34 ?_
  refine g_iconst (v := 2) (pc := 37) X rfl dX12_lives_37 ?_
  obtain ⟨c9, h⟩ := chk_e h
  refine g_iald (pc := 38) X s_93 c9 dX12_lives_38 ?_
  refine g_icmp_ge (pc := 39) (tgt := 208) X dX12_lives_39 rfl (fun c45 => ?_) (fun c45 => ?_)
  · replace h := if_t c45 h
    cases h
    exact g_vret (pc := 208) X rfl (hr _ hA) dX12_lives_208
  · replace h := if_f c45 h
    refine g_aload_n (pc := 42) X 0 rfl dX12_lives_42 ?_
    refine g_getR (r := 109) (pc := 43) X k_fl_X12_72 s_92 rfl dX12_lives_43 ?_
    refine g_iconst (v := 4) (pc := 46) X rfl dX12_lives_46 ?_
    obtain ⟨c10, h⟩ := chk_e h
    refine g_iald (pc := 47) X s_109 c10 dX12_lives_47 ?_
    refine g_if_ne (pc := 48) (tgt := 208) X dX12_lives_48 rfl (fun c44 => ?_) (fun c44 => ?_)
    · replace h := if_f c44 h
      cases h
      exact g_vret (pc := 208) X rfl (hr _ hA) dX12_lives_208
    · replace h := if_t c44 h
      refine g_aload_n (pc := 51) X 0 rfl dX12_lives_51 ?_
      refine g_getI (pc := 52) X k_fl_X12_421 s_92 rfl dX12_lives_52 ?_
      refine g_sipush (v := 300) (pc := 55) X (by decide) dX12_lives_55 ?_
      refine g_icmp_ne (pc := 58) (tgt := 71) X dX12_lives_58 rfl (fun c43 => ?_) (fun c43 => ?_)
      · replace h := if_f c43 h
        refine g_bipush (v := 40) (pc := 71) X (by decide) dX12_lives_71 ?_
        refine g_bipush (v := 6) (pc := 73) X (by decide) dX12_lives_73 ?_
        refine g_iload_n (pc := 75) X 1 rfl dX12_lives_75 ?_
        refine g_imul (pc := 76) X dX12_lives_76 ?_
        refine g_iadd (pc := 77) X dX12_lives_77 ?_
        obtain ⟨v11, e_v11, h⟩ := bnd_e h
        refine g_nmI e_v11 ?_
        refine g_istore_n (pc := 78) X [(3, .int v11), (0, .ref (V.2.2.1 + 92)), (2, .int x2)] rfl (Nat.le_of_ble_eq_true rfl) rfl dX12_lives_78 ?_
        refine g_aload_n (pc := 79) X 1 rfl dX12_lives_79 ?_
        refine g_dup (pc := 80) X rfl dX12_lives_80 ?_
        refine g_getI (pc := 81) X k_fl_X12_421 s_92 rfl dX12_lives_81 ?_
        refine g_iconst (v := 1) (pc := 84) X rfl dX12_lives_84 ?_
        refine g_iadd (pc := 85) X dX12_lives_85 ?_
        refine g_putI (pc := 86) X k_fl_X12_421 s_92 rfl rfl rfl dX12_lives_86 ?_
        obtain ⟨σ12, e_σ12, h⟩ := bnd_e h
        refine g_nmS e_σ12 ?_
        refine g_aload_n (pc := 89) X 1 rfl dX12_lives_89 ?_
        refine g_getR (r := 93) (pc := 90) X k_fl_X12_7 s_92 rfl dX12_lives_90 ?_
        refine g_iload_n (pc := 93) X 0 rfl dX12_lives_93 ?_
        obtain ⟨c13, h⟩ := chk_e h
        refine g_iald (pc := 94) X s_93 c13 dX12_lives_94 ?_
        refine g_bipush (v := 15) (pc := 95) X (by decide) dX12_lives_95 ?_
        refine g_icmp_ne (pc := 97) (tgt := 103) X dX12_lives_97 rfl (fun c40 => ?_) (fun c40 => ?_)
        · replace h := if_f c40 h
          refine g_aload_n (pc := 103) X 1 rfl dX12_lives_103 ?_
          refine g_iload_n (pc := 104) X 0 rfl dX12_lives_104 ?_
          obtain ⟨r15, σ16, hc14, h⟩ := bd2_e h
          refine g_callV (pc := 105) X k_ml_X12_424 (run_Mo_does  hc14) s_92 rfl (room_ok (Nat.le_of_ble_eq_true rfl) (Nat.le_of_ble_eq_true rfl)) ⟨Nat.le_refl _, Nat.le_refl _⟩ _ rfl (Nat.le_of_ble_eq_true rfl) dX12_lives_105 ?_
          show Go V Γ M_X12_lives (Zm V Γ 6 fin) 108 [(3, .int v11), (0, .ref (V.2.2.1 + 92)), (2, .int x2)] [.int r15] σ16
          refine g_istore (pc := 108) X [(4, .int r15), (3, .int v11), (0, .ref (V.2.2.1 + 92)), (2, .int x2)] (Nat.le_of_ble_eq_true rfl) rfl dX12_lives_108 ?_
          refine g_iload (pc := 110) X 0 rfl dX12_lives_110 ?_
          refine g_if_ne (pc := 112) (tgt := 125) X dX12_lives_112 rfl (fun c39 => ?_) (fun c39 => ?_)
          · replace h := if_f c39 h
            refine g_sub [2, 3, 1] rfl ?_
            exact tj_Mo_lives_J125_32 X  hr hb32 h hA
          · replace h := if_t c39 h
            refine g_aload_n (pc := 115) X 2 rfl dX12_lives_115 ?_
            refine g_getR (r := 109) (pc := 116) X k_fl_X12_72 s_92 rfl dX12_lives_116 ?_
            refine g_iconst (v := 0) (pc := 119) X rfl dX12_lives_119 ?_
            refine g_dup2 (pc := 120) X rfl rfl dX12_lives_120 ?_
            obtain ⟨c36, h⟩ := chk_e h
            refine g_iald (pc := 121) X s_109 c36 dX12_lives_121 ?_
            refine g_iconst (v := 1) (pc := 122) X rfl dX12_lives_122 ?_
            refine g_iadd (pc := 123) X dX12_lives_123 ?_
            obtain ⟨c37, h⟩ := chk_e h
            refine g_iast (pc := 124) X s_109 c37 dX12_lives_124 ?_
            obtain ⟨σ38, e_σ38, h⟩ := bnd_e h
            refine g_nmS e_σ38 ?_
            refine g_sub [2, 3, 1] rfl ?_
            exact tj_Mo_lives_J125_32 X  hr hb32 h hA
        · replace h := if_t c40 h
          refine g_goto (pc := 100) (tgt := 208) X dX12_lives_100 rfl ?_
          cases h
          exact g_vret (pc := 208) X rfl (hr _ hA) dX12_lives_208
      · replace h := if_t c43 h
        refine g_aload_n (pc := 61) X 0 rfl dX12_lives_61 ?_
        refine g_getR (r := 109) (pc := 62) X k_fl_X12_72 s_92 rfl dX12_lives_62 ?_
        refine g_iconst (v := 4) (pc := 65) X rfl dX12_lives_65 ?_
        refine g_iconst (v := 1) (pc := 66) X rfl dX12_lives_66 ?_
        obtain ⟨c41, h⟩ := chk_e h
        refine g_iast (pc := 67) X s_109 c41 dX12_lives_67 ?_
        obtain ⟨σ42, e_σ42, h⟩ := bnd_e h
        refine g_nmS e_σ42 ?_
        refine g_goto (pc := 68) (tgt := 32) X dX12_lives_68 rfl ?_
        refine g_sub [0, 1] rfl ?_
        cases h
        exact hb32 _ _ hA
set_option maxRecDepth 100000 in
theorem tl_Mo_lives_L32 {V : Ev} {Γ : Cn} {fin : Option Value × St} {x2 : Int32} {σ9 : St} (X : Cx V Γ M_X12_lives)  {e : St} {A : St → Prop} (hr : ∀ (σ9 : St), A σ9 → (none, σ9) = fin) {n : Nat} (h : iter (fun s : (Int32 × St) => Mo_lives_L32 s.2 s.1) n (x2, σ9) = some e) (hA : A e) : Go V Γ M_X12_lives (Zm V Γ 6 fin) 32 [(0, .ref (V.2.2.1 + 92)), (2, .int x2)] [] σ9 := by
  refine iter_go (G := (fun s : (Int32 × St) => Go V Γ M_X12_lives (Zm V Γ 6 fin) 32 [(0, .ref (V.2.2.1 + 92)), (2, .int s.1)] [] s.2)) (fun s o ho hS => ?_) n (x2, σ9) h
  exact tb_Mo_lives_L32 X  (fun z0 he => hr z0 (by rw [he]; exact hA)) (fun _ _ h9 => h9) ho hS
noncomputable def Mo_lives (σ : St) (p1 : Int32) : Option St :=
  bnd (wI σ 92 32 p1) (fun σ1 => bnd (wI σ1 92 33 0) (fun σ2 => bd (iter (fun s : (Int32 × St) => Mo_lives_L12 s.2 s.1) FUEL (0, σ2)) (fun σ7 => iter (fun s : (Int32 × St) => Mo_lives_L32 s.2 s.1) FUEL (0, σ7))))
set_option maxRecDepth 100000 in
set_option maxHeartbeats 4000000 in
theorem tm_Mo_lives {V : Ev} {Γ : Cn} {fin : Option Value × St} {σ : St} {p1 : Int32} {o : St} (X : Cx V Γ M_X12_lives) {A : St → Prop}  (hr : ∀ (σ9 : St), A σ9 → (none, σ9) = fin) (h : Mo_lives σ p1 = some o) (hA : A o) : Go V Γ M_X12_lives (Zm V Γ 6 fin) 0 [(0, .ref (V.2.2.1 + 92)), (1, .int p1)] [] σ := by
  unfold Mo_lives at h
  refine g_aload_n (pc := 0) X 0 rfl dX12_lives_0 ?_
  refine g_iload_n (pc := 1) X 1 rfl dX12_lives_1 ?_
  refine g_putI (pc := 2) X k_fl_X12_402 s_92 rfl rfl rfl dX12_lives_2 ?_
  obtain ⟨σ1, e_σ1, h⟩ := bnd_e h
  refine g_nmS e_σ1 ?_
  refine g_aload_n (pc := 5) X 0 rfl dX12_lives_5 ?_
  refine g_iconst (v := 0) (pc := 6) X rfl dX12_lives_6 ?_
  refine g_putI (pc := 7) X k_fl_X12_421 s_92 rfl rfl rfl dX12_lives_7 ?_
  obtain ⟨σ2, e_σ2, h⟩ := bnd_e h
  refine g_nmS e_σ2 ?_
  refine g_iconst (v := 0) (pc := 10) X rfl dX12_lives_10 ?_
  refine g_istore_n (pc := 11) X [(2, .int 0), (0, .ref (V.2.2.1 + 92)), (1, .int p1)] rfl (Nat.le_of_ble_eq_true rfl) rfl dX12_lives_11 ?_
  refine g_sub [1, 0] rfl ?_
  obtain ⟨σ7, hi8, h⟩ := bd_e h
  refine tl_Mo_lives_L12 X  hi8 ?_
  refine g_iconst (v := 0) (pc := 30) X rfl dX12_lives_30 ?_
  refine g_istore_n (pc := 31) X [(2, .int 0), (0, .ref (V.2.2.1 + 92))] rfl (Nat.le_of_ble_eq_true rfl) rfl dX12_lives_31 ?_
  refine g_sub [1, 0] rfl ?_
  exact tl_Mo_lives_L32 X  hr h hA
set_option maxRecDepth 100000 in
theorem run_Mo_lives {V : Ev} {σ : St} {p1 : Int32} {o : St}   (h : Mo_lives σ p1 = some o) : Rs V 6 M_X12_lives [.ref (V.2.2.1 + 92), .int p1] σ (none, o) := by
  refine Rs.of (by decide +kernel) (Nat.le_of_ble_eq_true rfl) (fun Γ X => ?_)
  exact tm_Mo_lives X (A := fun o1 => o1 = o)  (fun _ e => by rw [e]) h rfl
theorem dX12_live_0 : decode cX12_live 0 = .ok (.iload_n 1, 1) := by decide +kernel
theorem dX12_live_1 : decode cX12_live 1 = .ok (.i2l, 1) := by decide +kernel
theorem dX12_live_2 : decode cX12_live 2 = .ok (.lconst 0, 1) := by decide +kernel
theorem dX12_live_3 : decode cX12_live 3 = .ok (.ldc2_w 289, 3) := by decide +kernel
theorem dX12_live_6 : decode cX12_live 6 = .ok (.invokestatic 270, 3) := by decide +kernel
theorem dX12_live_9 : decode cX12_live 9 = .ok (.ifCond .ne 9, 3) := by decide +kernel
theorem dX12_live_12 : decode cX12_live 12 = .ok (.aload_n 0, 1) := by decide +kernel
theorem dX12_live_13 : decode cX12_live 13 = .ok (.iconst 1, 1) := by decide +kernel
theorem dX12_live_14 : decode cX12_live 14 = .ok (.invokevirtual 88, 3) := by decide +kernel
theorem dX12_live_17 : decode cX12_live 17 = .ok (.ireturn, 1) := by decide +kernel
theorem dX12_live_18 : decode cX12_live 18 = .ok (.aload_n 0, 1) := by decide +kernel
theorem dX12_live_19 : decode cX12_live 19 = .ok (.getfield 7, 3) := by decide +kernel
theorem dX12_live_22 : decode cX12_live 22 = .ok (.iconst 2, 1) := by decide +kernel
theorem dX12_live_23 : decode cX12_live 23 = .ok (.iaload, 1) := by decide +kernel
theorem dX12_live_24 : decode cX12_live 24 = .ok (.iconst (-1), 1) := by decide +kernel
theorem dX12_live_25 : decode cX12_live 25 = .ok (.if_icmp .ne 10, 3) := by decide +kernel
theorem dX12_live_28 : decode cX12_live 28 = .ok (.aload_n 0, 1) := by decide +kernel
theorem dX12_live_29 : decode cX12_live 29 = .ok (.bipush 6, 2) := by decide +kernel
theorem dX12_live_31 : decode cX12_live 31 = .ok (.invokevirtual 88, 3) := by decide +kernel
theorem dX12_live_34 : decode cX12_live 34 = .ok (.ireturn, 1) := by decide +kernel
theorem dX12_live_35 : decode cX12_live 35 = .ok (.aload_n 0, 1) := by decide +kernel
theorem dX12_live_36 : decode cX12_live 36 = .ok (.iload_n 1, 1) := by decide +kernel
theorem dX12_live_37 : decode cX12_live 37 = .ok (.invokevirtual 433, 3) := by decide +kernel
theorem dX12_live_40 : decode cX12_live 40 = .ok (.iconst 0, 1) := by decide +kernel
theorem dX12_live_41 : decode cX12_live 41 = .ok (.istore_n 2, 1) := by decide +kernel
theorem dX12_live_42 : decode cX12_live 42 = .ok (.iload_n 2, 1) := by decide +kernel
theorem dX12_live_43 : decode cX12_live 43 = .ok (.iconst 5, 1) := by decide +kernel
theorem dX12_live_44 : decode cX12_live 44 = .ok (.if_icmp .ge 21, 3) := by decide +kernel
theorem dX12_live_47 : decode cX12_live 47 = .ok (.aload_n 0, 1) := by decide +kernel
theorem dX12_live_48 : decode cX12_live 48 = .ok (.getfield 75, 3) := by decide +kernel
theorem dX12_live_51 : decode cX12_live 51 = .ok (.iload_n 2, 1) := by decide +kernel
theorem dX12_live_52 : decode cX12_live 52 = .ok (.aload_n 0, 1) := by decide +kernel
theorem dX12_live_53 : decode cX12_live 53 = .ok (.getfield 72, 3) := by decide +kernel
theorem dX12_live_56 : decode cX12_live 56 = .ok (.iload_n 2, 1) := by decide +kernel
theorem dX12_live_57 : decode cX12_live 57 = .ok (.iaload, 1) := by decide +kernel
theorem dX12_live_58 : decode cX12_live 58 = .ok (.iastore, 1) := by decide +kernel
theorem dX12_live_59 : decode cX12_live 59 = .ok (.iinc 2 1, 3) := by decide +kernel
theorem dX12_live_62 : decode cX12_live 62 = .ok (.goto (-20), 3) := by decide +kernel
theorem dX12_live_65 : decode cX12_live 65 = .ok (.aload_n 0, 1) := by decide +kernel
theorem dX12_live_66 : decode cX12_live 66 = .ok (.iconst 1, 1) := by decide +kernel
theorem dX12_live_67 : decode cX12_live 67 = .ok (.putfield 436, 3) := by decide +kernel
theorem dX12_live_70 : decode cX12_live 70 = .ok (.aload_n 0, 1) := by decide +kernel
theorem dX12_live_71 : decode cX12_live 71 = .ok (.aload_n 0, 1) := by decide +kernel
theorem dX12_live_72 : decode cX12_live 72 = .ok (.getfield 421, 3) := by decide +kernel
theorem dX12_live_75 : decode cX12_live 75 = .ok (.invokevirtual 92, 3) := by decide +kernel
theorem dX12_live_78 : decode cX12_live 78 = .ok (.ireturn, 1) := by decide +kernel
noncomputable def Mo_live_L42 (σ : St) (x2 : Int32) : Option ((Int32 × St) ⊕ St) :=
  if 5 ≤ x2 then (some (.inr σ)) else (chk (ix x2 5) (chk (ix x2 5) (bnd (wI σ 110 (tn x2) (σ.1 109 (tn x2))) (fun σ8 => bnd (x2 + 1) (fun v9 => some (.inl (v9, σ8)))))))
set_option maxRecDepth 100000 in
set_option maxHeartbeats 4000000 in
theorem tb_Mo_live_L42 {V : Ev} {Γ : Cn} {fin : Option Value × St} {σ : St} {x2 : Int32} {o : ((Int32 × St) ⊕ St)} (X : Cx V Γ M_X12_live) {A : ((Int32 × St) ⊕ St) → Prop}  (hb42 : ∀ (x2 : Int32) (σ9 : St), A (.inl (x2, σ9)) → Go V Γ M_X12_live (Zm V Γ 7 fin) 42 [(0, .ref (V.2.2.1 + 92)), (2, .int x2)] [] σ9) (hx42 : ∀ (σ9 : St), A (.inr σ9) → Go V Γ M_X12_live (Zm V Γ 7 fin) 65 [(0, .ref (V.2.2.1 + 92))] [] σ9) (h : Mo_live_L42 σ x2 = some o) (hA : A o) : Go V Γ M_X12_live (Zm V Γ 7 fin) 42 [(0, .ref (V.2.2.1 + 92)), (2, .int x2)] [] σ := by
  unfold Mo_live_L42 at h
  refine g_iload_n (pc := 42) X 1 rfl dX12_live_42 ?_
  refine g_iconst (v := 5) (pc := 43) X rfl dX12_live_43 ?_
  refine g_icmp_ge (pc := 44) (tgt := 65) X dX12_live_44 rfl (fun c10 => ?_) (fun c10 => ?_)
  · replace h := if_t c10 h
    refine g_sub [0] rfl ?_
    cases h
    exact hx42 _ hA
  · replace h := if_f c10 h
    refine g_aload_n (pc := 47) X 0 rfl dX12_live_47 ?_
    refine g_getR (r := 110) (pc := 48) X k_fl_X12_75 s_92 rfl dX12_live_48 ?_
    refine g_iload_n (pc := 51) X 1 rfl dX12_live_51 ?_
    refine g_aload_n (pc := 52) X 0 rfl dX12_live_52 ?_
    refine g_getR (r := 109) (pc := 53) X k_fl_X12_72 s_92 rfl dX12_live_53 ?_
    refine g_iload_n (pc := 56) X 1 rfl dX12_live_56 ?_
    obtain ⟨c6, h⟩ := chk_e h
    refine g_iald (pc := 57) X s_109 c6 dX12_live_57 ?_
    obtain ⟨c7, h⟩ := chk_e h
    refine g_iast (pc := 58) X s_110 c7 dX12_live_58 ?_
    obtain ⟨σ8, e_σ8, h⟩ := bnd_e h
    refine g_nmS e_σ8 ?_
    obtain ⟨v9, e_v9, h⟩ := bnd_e h
    refine g_iinc (pc := 59) (v := v9) X [(2, .int v9), (0, .ref (V.2.2.1 + 92))] 1 rfl (by rw [e_v9]; rfl) (Nat.le_of_ble_eq_true rfl) rfl dX12_live_59 ?_
    refine g_goto (pc := 62) (tgt := 42) X dX12_live_62 rfl ?_
    refine g_sub [1, 0] rfl ?_
    cases h
    exact hb42 _ _ hA
set_option maxRecDepth 100000 in
theorem tl_Mo_live_L42 {V : Ev} {Γ : Cn} {fin : Option Value × St} {x2 : Int32} {σ9 : St} (X : Cx V Γ M_X12_live)  {σ8 : St} {n : Nat} (h : iter (fun s : (Int32 × St) => Mo_live_L42 s.2 s.1) n (x2, σ9) = some σ8) (hK : Go V Γ M_X12_live (Zm V Γ 7 fin) 65 [(0, .ref (V.2.2.1 + 92))] [] σ8) : Go V Γ M_X12_live (Zm V Γ 7 fin) 42 [(0, .ref (V.2.2.1 + 92)), (2, .int x2)] [] σ9 := by
  refine iter_go (G := (fun s : (Int32 × St) => Go V Γ M_X12_live (Zm V Γ 7 fin) 42 [(0, .ref (V.2.2.1 + 92)), (2, .int s.1)] [] s.2)) (fun s o ho hS => ?_) n (x2, σ9) h
  exact tb_Mo_live_L42 X  (fun _ _ h9 => h9) (fun _ he => by cases he; exact hK) ho hS
noncomputable def Mo_live (σ : St) (p1 : Int32) : Option (Int32 × St) :=
  bd (Mo_isFrom p1.toInt64 0 9999) (fun r2 => if r2 = 0 then (bd2 (Mo_refuse σ 1) (fun r22 σ23 => some (r22, σ23))) else (chk (ix 2 2060) (if (σ.1 93 (tn 2)) = (-1) then (bd2 (Mo_refuse σ 6) (fun r18 σ19 => some (r18, σ19))) else (bd (Mo_lives σ p1) (fun σ5 => bd (iter (fun s : (Int32 × St) => Mo_live_L42 s.2 s.1) FUEL (0, σ5)) (fun σ11 => bnd (wI σ11 92 37 1) (fun σ13 => bd2 (Mo_gives σ13 (σ13.1 92 33)) (fun r15 σ16 => some (r15, σ16)))))))))
set_option maxRecDepth 100000 in
set_option maxHeartbeats 4000000 in
theorem tm_Mo_live {V : Ev} {Γ : Cn} {fin : Option Value × St} {σ : St} {p1 : Int32} {o : (Int32 × St)} (X : Cx V Γ M_X12_live) {A : (Int32 × St) → Prop}  (hr : ∀ (r : Int32) (σ9 : St), A (r, σ9) → (some (.int r), σ9) = fin) (h : Mo_live σ p1 = some o) (hA : A o) : Go V Γ M_X12_live (Zm V Γ 7 fin) 0 [(0, .ref (V.2.2.1 + 92)), (1, .int p1)] [] σ := by
  unfold Mo_live at h
  refine g_iload_n (pc := 0) X 1 rfl dX12_live_0 ?_
  refine g_i2l (pc := 1) X dX12_live_1 ?_
  refine g_lconst (v := 0) (pc := 2) X rfl dX12_live_2 ?_
  refine g_ldc2 (v := 9999) (pc := 3) X k_constl_X12_289 dX12_live_3 ?_
  obtain ⟨r2, hc1, h⟩ := bd_e h
  refine g_callS (pc := 6) X k_ml_X12_270 (run_Mo_isFrom  hc1) rfl (room_ok (Nat.le_of_ble_eq_true rfl) (Nat.le_of_ble_eq_true rfl)) ⟨Nat.le_refl _, Nat.le_refl _⟩ _ rfl (Nat.le_of_ble_eq_true rfl) dX12_live_6 ?_
  show Go V Γ M_X12_live (Zm V Γ 7 fin) 9 [(0, .ref (V.2.2.1 + 92)), (1, .int p1)] [.int r2] σ
  refine g_if_ne (pc := 9) (tgt := 18) X dX12_live_9 rfl (fun c24 => ?_) (fun c24 => ?_)
  · replace h := if_f c24 h
    refine g_aload_n (pc := 18) X 0 rfl dX12_live_18 ?_
    refine g_getR (r := 93) (pc := 19) X k_fl_X12_7 s_92 rfl dX12_live_19 ?_
    refine g_iconst (v := 2) (pc := 22) X rfl dX12_live_22 ?_
    obtain ⟨c3, h⟩ := chk_e h
    refine g_iald (pc := 23) X s_93 c3 dX12_live_23 ?_
    refine g_iconst (v := (-1)) (pc := 24) X rfl dX12_live_24 ?_
    refine g_icmp_ne (pc := 25) (tgt := 35) X dX12_live_25 rfl (fun c20 => ?_) (fun c20 => ?_)
    · replace h := if_f c20 h
      refine g_aload_n (pc := 35) X 0 rfl dX12_live_35 ?_
      refine g_iload_n (pc := 36) X 1 rfl dX12_live_36 ?_
      obtain ⟨σ5, hc4, h⟩ := bd_e h
      refine g_callV (pc := 37) X k_ml_X12_433 (run_Mo_lives  hc4) s_92 rfl (room_ok (Nat.le_of_ble_eq_true rfl) (Nat.le_of_ble_eq_true rfl)) ⟨Nat.le_refl _, Nat.le_refl _⟩ _ rfl (Nat.le_of_ble_eq_true rfl) dX12_live_37 ?_
      show Go V Γ M_X12_live (Zm V Γ 7 fin) 40 [(0, .ref (V.2.2.1 + 92)), (1, .int p1)] [] σ5
      refine g_iconst (v := 0) (pc := 40) X rfl dX12_live_40 ?_
      refine g_istore_n (pc := 41) X [(2, .int 0), (0, .ref (V.2.2.1 + 92)), (1, .int p1)] rfl (Nat.le_of_ble_eq_true rfl) rfl dX12_live_41 ?_
      refine g_sub [1, 0] rfl ?_
      obtain ⟨σ11, hi12, h⟩ := bd_e h
      refine tl_Mo_live_L42 X  hi12 ?_
      refine g_aload_n (pc := 65) X 0 rfl dX12_live_65 ?_
      refine g_iconst (v := 1) (pc := 66) X rfl dX12_live_66 ?_
      refine g_putI (pc := 67) X k_fl_X12_436 s_92 rfl nz1.1 nz1.2 dX12_live_67 ?_
      obtain ⟨σ13, e_σ13, h⟩ := bnd_e h
      refine g_nmS e_σ13 ?_
      refine g_aload_n (pc := 70) X 0 rfl dX12_live_70 ?_
      refine g_aload_n (pc := 71) X 0 rfl dX12_live_71 ?_
      refine g_getI (pc := 72) X k_fl_X12_421 s_92 rfl dX12_live_72 ?_
      obtain ⟨r15, σ16, hc14, h⟩ := bd2_e h
      refine g_callV (pc := 75) X k_ml_X12_92 (run_Mo_gives  hc14) s_92 rfl (room_ok (Nat.le_of_ble_eq_true rfl) (Nat.le_of_ble_eq_true rfl)) ⟨Nat.le_refl _, Nat.le_refl _⟩ _ rfl (Nat.le_of_ble_eq_true rfl) dX12_live_75 ?_
      show Go V Γ M_X12_live (Zm V Γ 7 fin) 78 [(0, .ref (V.2.2.1 + 92))] [.int r15] σ16
      cases h
      exact g_iret (pc := 78) X rfl rfl (hr _ _ hA) dX12_live_78
    · replace h := if_t c20 h
      refine g_aload_n (pc := 28) X 0 rfl dX12_live_28 ?_
      refine g_bipush (v := 6) (pc := 29) X (by decide) dX12_live_29 ?_
      obtain ⟨r18, σ19, hc17, h⟩ := bd2_e h
      refine g_callV (pc := 31) X k_ml_X12_88 (run_Mo_refuse  hc17) s_92 rfl (room_ok (Nat.le_of_ble_eq_true rfl) (Nat.le_of_ble_eq_true rfl)) ⟨Nat.le_refl _, Nat.le_refl _⟩ _ rfl (Nat.le_of_ble_eq_true rfl) dX12_live_31 ?_
      show Go V Γ M_X12_live (Zm V Γ 7 fin) 34 [(0, .ref (V.2.2.1 + 92)), (1, .int p1)] [.int r18] σ19
      cases h
      exact g_iret (pc := 34) X rfl rfl (hr _ _ hA) dX12_live_34
  · replace h := if_t c24 h
    refine g_aload_n (pc := 12) X 0 rfl dX12_live_12 ?_
    refine g_iconst (v := 1) (pc := 13) X rfl dX12_live_13 ?_
    obtain ⟨r22, σ23, hc21, h⟩ := bd2_e h
    refine g_callV (pc := 14) X k_ml_X12_88 (run_Mo_refuse  hc21) s_92 rfl (room_ok (Nat.le_of_ble_eq_true rfl) (Nat.le_of_ble_eq_true rfl)) ⟨Nat.le_refl _, Nat.le_refl _⟩ _ rfl (Nat.le_of_ble_eq_true rfl) dX12_live_14 ?_
    show Go V Γ M_X12_live (Zm V Γ 7 fin) 17 [(0, .ref (V.2.2.1 + 92)), (1, .int p1)] [.int r22] σ23
    cases h
    exact g_iret (pc := 17) X rfl rfl (hr _ _ hA) dX12_live_17
set_option maxRecDepth 100000 in
theorem run_Mo_live {V : Ev} {σ : St} {p1 : Int32} {o : (Int32 × St)}   (h : Mo_live σ p1 = some o) : Rs V 7 M_X12_live [.ref (V.2.2.1 + 92), .int p1] σ (some (.int o.1), o.2) := by
  refine Rs.of (by decide +kernel) (Nat.le_of_ble_eq_true rfl) (fun Γ X => ?_)
  exact tm_Mo_live X (A := fun o1 => o1 = o)  (fun _ _ e => by rw [← e]) h rfl
