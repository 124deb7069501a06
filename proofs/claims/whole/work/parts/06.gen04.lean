theorem dX12_isDigit_0 : decode cX12_isDigit 0 = .ok (.iload_n 0, 1) := by decide +kernel
theorem dX12_isDigit_1 : decode cX12_isDigit 1 = .ok (.bipush 48, 2) := by decide +kernel
theorem dX12_isDigit_3 : decode cX12_isDigit 3 = .ok (.if_icmp .lt 13, 3) := by decide +kernel
theorem dX12_isDigit_6 : decode cX12_isDigit 6 = .ok (.iload_n 0, 1) := by decide +kernel
theorem dX12_isDigit_7 : decode cX12_isDigit 7 = .ok (.bipush 57, 2) := by decide +kernel
theorem dX12_isDigit_9 : decode cX12_isDigit 9 = .ok (.if_icmp .gt 7, 3) := by decide +kernel
theorem dX12_isDigit_12 : decode cX12_isDigit 12 = .ok (.iconst 1, 1) := by decide +kernel
theorem dX12_isDigit_13 : decode cX12_isDigit 13 = .ok (.goto 4, 3) := by decide +kernel
theorem dX12_isDigit_16 : decode cX12_isDigit 16 = .ok (.iconst 0, 1) := by decide +kernel
theorem dX12_isDigit_17 : decode cX12_isDigit 17 = .ok (.ireturn, 1) := by decide +kernel
noncomputable def Mo_isDigit (p0 : Int32) : Option Int32 :=
  if p0 < 48 then (some 0) else (if 57 < p0 then (some 0) else (some 1))
set_option maxRecDepth 100000 in
set_option maxHeartbeats 4000000 in
theorem tm_Mo_isDigit {V : Ev} {Γ : Cn} {fin : Option Value × St} {σ : St} {p0 : Int32} {o : Int32} (X : Cx V Γ M_X12_isDigit) {A : Int32 → Prop}  (hr : ∀ (r : Int32), A r → (some (.int r), σ) = fin) (h : Mo_isDigit p0 = some o) (hA : A o) : Go V Γ M_X12_isDigit (Zm V Γ 0 fin) 0 [(0, .int p0)] [] σ := by
  unfold Mo_isDigit at h
  refine g_iload_n (pc := 0) X 0 rfl dX12_isDigit_0 ?_
  refine g_bipush (v := 48) (pc := 1) X (by decide) dX12_isDigit_1 ?_
  refine g_icmp_lt (pc := 3) (tgt := 16) X dX12_isDigit_3 rfl (fun c2 => ?_) (fun c2 => ?_)
  · replace h := if_t c2 h
    refine g_iconst (v := 0) (pc := 16) X rfl dX12_isDigit_16 ?_
    cases h
    exact g_iret (pc := 17) X rfl nz0.1 (hr _ hA) dX12_isDigit_17
  · replace h := if_f c2 h
    refine g_iload_n (pc := 6) X 0 rfl dX12_isDigit_6 ?_
    refine g_bipush (v := 57) (pc := 7) X (by decide) dX12_isDigit_7 ?_
    refine g_icmp_gt (pc := 9) (tgt := 16) X dX12_isDigit_9 rfl (fun c1 => ?_) (fun c1 => ?_)
    · replace h := if_t c1 h
      refine g_iconst (v := 0) (pc := 16) X rfl dX12_isDigit_16 ?_
      cases h
      exact g_iret (pc := 17) X rfl nz0.1 (hr _ hA) dX12_isDigit_17
    · replace h := if_f c1 h
      refine g_iconst (v := 1) (pc := 12) X rfl dX12_isDigit_12 ?_
      refine g_goto (pc := 13) (tgt := 17) X dX12_isDigit_13 rfl ?_
      cases h
      exact g_iret (pc := 17) X rfl nz1.1 (hr _ hA) dX12_isDigit_17
set_option maxRecDepth 100000 in
theorem run_Mo_isDigit {V : Ev} {σ : St} {p0 : Int32} {o : Int32}   (h : Mo_isDigit p0 = some o) : Rs V 0 M_X12_isDigit [.int p0] σ (some (.int o), σ) := by
  refine Rs.of (by decide +kernel) (Nat.le_of_ble_eq_true rfl) (fun Γ X => ?_)
  exact tm_Mo_isDigit X (A := fun o1 => o1 = o)  (fun _ e => by rw [e]) h rfl
theorem dX12_ahead_0 : decode cX12_ahead 0 = .ok (.aload_n 0, 1) := by decide +kernel
theorem dX12_ahead_1 : decode cX12_ahead 1 = .ok (.aload_n 0, 1) := by decide +kernel
theorem dX12_ahead_2 : decode cX12_ahead 2 = .ok (.getfield 121, 3) := by decide +kernel
theorem dX12_ahead_5 : decode cX12_ahead 5 = .ok (.invokevirtual 124, 3) := by decide +kernel
theorem dX12_ahead_8 : decode cX12_ahead 8 = .ok (.bipush 32, 2) := by decide +kernel
theorem dX12_ahead_10 : decode cX12_ahead 10 = .ok (.if_icmp .eq 16, 3) := by decide +kernel
theorem dX12_ahead_13 : decode cX12_ahead 13 = .ok (.aload_n 0, 1) := by decide +kernel
theorem dX12_ahead_14 : decode cX12_ahead 14 = .ok (.aload_n 0, 1) := by decide +kernel
theorem dX12_ahead_15 : decode cX12_ahead 15 = .ok (.getfield 121, 3) := by decide +kernel
theorem dX12_ahead_18 : decode cX12_ahead 18 = .ok (.invokevirtual 124, 3) := by decide +kernel
theorem dX12_ahead_21 : decode cX12_ahead 21 = .ok (.bipush 10, 2) := by decide +kernel
theorem dX12_ahead_23 : decode cX12_ahead 23 = .ok (.if_icmp .ne 16, 3) := by decide +kernel
theorem dX12_ahead_26 : decode cX12_ahead 26 = .ok (.aload_n 0, 1) := by decide +kernel
theorem dX12_ahead_27 : decode cX12_ahead 27 = .ok (.dup, 1) := by decide +kernel
theorem dX12_ahead_28 : decode cX12_ahead 28 = .ok (.getfield 121, 3) := by decide +kernel
theorem dX12_ahead_31 : decode cX12_ahead 31 = .ok (.iconst 1, 1) := by decide +kernel
theorem dX12_ahead_32 : decode cX12_ahead 32 = .ok (.iadd, 1) := by decide +kernel
theorem dX12_ahead_33 : decode cX12_ahead 33 = .ok (.putfield 121, 3) := by decide +kernel
theorem dX12_ahead_36 : decode cX12_ahead 36 = .ok (.goto (-36), 3) := by decide +kernel
theorem dX12_ahead_39 : decode cX12_ahead 39 = .ok (.aload_n 0, 1) := by decide +kernel
theorem dX12_ahead_40 : decode cX12_ahead 40 = .ok (.aload_n 0, 1) := by decide +kernel
theorem dX12_ahead_41 : decode cX12_ahead 41 = .ok (.getfield 121, 3) := by decide +kernel
theorem dX12_ahead_44 : decode cX12_ahead 44 = .ok (.putfield 127, 3) := by decide +kernel
theorem dX12_ahead_47 : decode cX12_ahead 47 = .ok (.aload_n 0, 1) := by decide +kernel
theorem dX12_ahead_48 : decode cX12_ahead 48 = .ok (.aload_n 0, 1) := by decide +kernel
theorem dX12_ahead_49 : decode cX12_ahead 49 = .ok (.getfield 121, 3) := by decide +kernel
theorem dX12_ahead_52 : decode cX12_ahead 52 = .ok (.invokevirtual 124, 3) := by decide +kernel
theorem dX12_ahead_55 : decode cX12_ahead 55 = .ok (.istore_n 1, 1) := by decide +kernel
theorem dX12_ahead_56 : decode cX12_ahead 56 = .ok (.aload_n 0, 1) := by decide +kernel
theorem dX12_ahead_57 : decode cX12_ahead 57 = .ok (.iload_n 1, 1) := by decide +kernel
theorem dX12_ahead_58 : decode cX12_ahead 58 = .ok (.putfield 130, 3) := by decide +kernel
theorem dX12_ahead_61 : decode cX12_ahead 61 = .ok (.iload_n 1, 1) := by decide +kernel
theorem dX12_ahead_62 : decode cX12_ahead 62 = .ok (.iconst (-1), 1) := by decide +kernel
theorem dX12_ahead_63 : decode cX12_ahead 63 = .ok (.if_icmp .ne 11, 3) := by decide +kernel
theorem dX12_ahead_66 : decode cX12_ahead 66 = .ok (.aload_n 0, 1) := by decide +kernel
theorem dX12_ahead_67 : decode cX12_ahead 67 = .ok (.iconst 0, 1) := by decide +kernel
theorem dX12_ahead_68 : decode cX12_ahead 68 = .ok (.putfield 133, 3) := by decide +kernel
theorem dX12_ahead_71 : decode cX12_ahead 71 = .ok (.goto 180, 3) := by decide +kernel
theorem dX12_ahead_74 : decode cX12_ahead 74 = .ok (.iload_n 1, 1) := by decide +kernel
theorem dX12_ahead_75 : decode cX12_ahead 75 = .ok (.invokestatic 136, 3) := by decide +kernel
theorem dX12_ahead_78 : decode cX12_ahead 78 = .ok (.ifCond .eq 38, 3) := by decide +kernel
theorem dX12_ahead_81 : decode cX12_ahead 81 = .ok (.aload_n 0, 1) := by decide +kernel
theorem dX12_ahead_82 : decode cX12_ahead 82 = .ok (.aload_n 0, 1) := by decide +kernel
theorem dX12_ahead_83 : decode cX12_ahead 83 = .ok (.getfield 121, 3) := by decide +kernel
theorem dX12_ahead_86 : decode cX12_ahead 86 = .ok (.invokevirtual 124, 3) := by decide +kernel
theorem dX12_ahead_89 : decode cX12_ahead 89 = .ok (.invokestatic 136, 3) := by decide +kernel
theorem dX12_ahead_92 : decode cX12_ahead 92 = .ok (.ifCond .eq 16, 3) := by decide +kernel
theorem dX12_ahead_95 : decode cX12_ahead 95 = .ok (.aload_n 0, 1) := by decide +kernel
theorem dX12_ahead_96 : decode cX12_ahead 96 = .ok (.dup, 1) := by decide +kernel
theorem dX12_ahead_97 : decode cX12_ahead 97 = .ok (.getfield 121, 3) := by decide +kernel
theorem dX12_ahead_100 : decode cX12_ahead 100 = .ok (.iconst 1, 1) := by decide +kernel
theorem dX12_ahead_101 : decode cX12_ahead 101 = .ok (.iadd, 1) := by decide +kernel
theorem dX12_ahead_102 : decode cX12_ahead 102 = .ok (.putfield 121, 3) := by decide +kernel
theorem dX12_ahead_105 : decode cX12_ahead 105 = .ok (.goto (-24), 3) := by decide +kernel
theorem dX12_ahead_108 : decode cX12_ahead 108 = .ok (.aload_n 0, 1) := by decide +kernel
theorem dX12_ahead_109 : decode cX12_ahead 109 = .ok (.iconst 2, 1) := by decide +kernel
theorem dX12_ahead_110 : decode cX12_ahead 110 = .ok (.putfield 133, 3) := by decide +kernel
theorem dX12_ahead_113 : decode cX12_ahead 113 = .ok (.goto 138, 3) := by decide +kernel
theorem dX12_ahead_116 : decode cX12_ahead 116 = .ok (.iload_n 1, 1) := by decide +kernel
theorem dX12_ahead_117 : decode cX12_ahead 117 = .ok (.invokestatic 139, 3) := by decide +kernel
theorem dX12_ahead_120 : decode cX12_ahead 120 = .ok (.ifCond .eq 88, 3) := by decide +kernel
theorem dX12_ahead_123 : decode cX12_ahead 123 = .ok (.aload_n 0, 1) := by decide +kernel
theorem dX12_ahead_124 : decode cX12_ahead 124 = .ok (.iconst 0, 1) := by decide +kernel
theorem dX12_ahead_125 : decode cX12_ahead 125 = .ok (.putfield 130, 3) := by decide +kernel
theorem dX12_ahead_128 : decode cX12_ahead 128 = .ok (.aload_n 0, 1) := by decide +kernel
theorem dX12_ahead_129 : decode cX12_ahead 129 = .ok (.aload_n 0, 1) := by decide +kernel
theorem dX12_ahead_130 : decode cX12_ahead 130 = .ok (.getfield 121, 3) := by decide +kernel
theorem dX12_ahead_133 : decode cX12_ahead 133 = .ok (.invokevirtual 124, 3) := by decide +kernel
theorem dX12_ahead_136 : decode cX12_ahead 136 = .ok (.invokestatic 139, 3) := by decide +kernel
theorem dX12_ahead_139 : decode cX12_ahead 139 = .ok (.ifCond .eq 44, 3) := by decide +kernel
theorem dX12_ahead_142 : decode cX12_ahead 142 = .ok (.aload_n 0, 1) := by decide +kernel
theorem dX12_ahead_143 : decode cX12_ahead 143 = .ok (.ldc 142, 2) := by decide +kernel
theorem dX12_ahead_145 : decode cX12_ahead 145 = .ok (.bipush 10, 2) := by decide +kernel
theorem dX12_ahead_147 : decode cX12_ahead 147 = .ok (.aload_n 0, 1) := by decide +kernel
theorem dX12_ahead_148 : decode cX12_ahead 148 = .ok (.getfield 130, 3) := by decide +kernel
theorem dX12_ahead_151 : decode cX12_ahead 151 = .ok (.imul, 1) := by decide +kernel
theorem dX12_ahead_152 : decode cX12_ahead 152 = .ok (.aload_n 0, 1) := by decide +kernel
theorem dX12_ahead_153 : decode cX12_ahead 153 = .ok (.aload_n 0, 1) := by decide +kernel
theorem dX12_ahead_154 : decode cX12_ahead 154 = .ok (.getfield 121, 3) := by decide +kernel
theorem dX12_ahead_157 : decode cX12_ahead 157 = .ok (.invokevirtual 124, 3) := by decide +kernel
theorem dX12_ahead_160 : decode cX12_ahead 160 = .ok (.iadd, 1) := by decide +kernel
theorem dX12_ahead_161 : decode cX12_ahead 161 = .ok (.bipush 48, 2) := by decide +kernel
theorem dX12_ahead_163 : decode cX12_ahead 163 = .ok (.isub, 1) := by decide +kernel
theorem dX12_ahead_164 : decode cX12_ahead 164 = .ok (.invokestatic 143, 3) := by decide +kernel
theorem dX12_ahead_167 : decode cX12_ahead 167 = .ok (.putfield 130, 3) := by decide +kernel
theorem dX12_ahead_170 : decode cX12_ahead 170 = .ok (.aload_n 0, 1) := by decide +kernel
theorem dX12_ahead_171 : decode cX12_ahead 171 = .ok (.dup, 1) := by decide +kernel
theorem dX12_ahead_172 : decode cX12_ahead 172 = .ok (.getfield 121, 3) := by decide +kernel
theorem dX12_ahead_175 : decode cX12_ahead 175 = .ok (.iconst 1, 1) := by decide +kernel
theorem dX12_ahead_176 : decode cX12_ahead 176 = .ok (.iadd, 1) := by decide +kernel
theorem dX12_ahead_177 : decode cX12_ahead 177 = .ok (.putfield 121, 3) := by decide +kernel
theorem dX12_ahead_180 : decode cX12_ahead 180 = .ok (.goto (-52), 3) := by decide +kernel
theorem dX12_ahead_183 : decode cX12_ahead 183 = .ok (.aload_n 0, 1) := by decide +kernel
theorem dX12_ahead_184 : decode cX12_ahead 184 = .ok (.aload_n 0, 1) := by decide +kernel
theorem dX12_ahead_185 : decode cX12_ahead 185 = .ok (.getfield 121, 3) := by decide +kernel
theorem dX12_ahead_188 : decode cX12_ahead 188 = .ok (.aload_n 0, 1) := by decide +kernel
theorem dX12_ahead_189 : decode cX12_ahead 189 = .ok (.getfield 127, 3) := by decide +kernel
theorem dX12_ahead_192 : decode cX12_ahead 192 = .ok (.isub, 1) := by decide +kernel
theorem dX12_ahead_193 : decode cX12_ahead 193 = .ok (.iconst 4, 1) := by decide +kernel
theorem dX12_ahead_194 : decode cX12_ahead 194 = .ok (.if_icmp .le 7, 3) := by decide +kernel
theorem dX12_ahead_197 : decode cX12_ahead 197 = .ok (.iconst 1, 1) := by decide +kernel
theorem dX12_ahead_198 : decode cX12_ahead 198 = .ok (.goto 4, 3) := by decide +kernel
theorem dX12_ahead_201 : decode cX12_ahead 201 = .ok (.iconst 3, 1) := by decide +kernel
theorem dX12_ahead_202 : decode cX12_ahead 202 = .ok (.putfield 133, 3) := by decide +kernel
theorem dX12_ahead_205 : decode cX12_ahead 205 = .ok (.goto 46, 3) := by decide +kernel
theorem dX12_ahead_208 : decode cX12_ahead 208 = .ok (.aload_n 0, 1) := by decide +kernel
theorem dX12_ahead_209 : decode cX12_ahead 209 = .ok (.dup, 1) := by decide +kernel
theorem dX12_ahead_210 : decode cX12_ahead 210 = .ok (.getfield 121, 3) := by decide +kernel
theorem dX12_ahead_213 : decode cX12_ahead 213 = .ok (.iconst 1, 1) := by decide +kernel
theorem dX12_ahead_214 : decode cX12_ahead 214 = .ok (.iadd, 1) := by decide +kernel
theorem dX12_ahead_215 : decode cX12_ahead 215 = .ok (.putfield 121, 3) := by decide +kernel
theorem dX12_ahead_218 : decode cX12_ahead 218 = .ok (.aload_n 0, 1) := by decide +kernel
theorem dX12_ahead_219 : decode cX12_ahead 219 = .ok (.iload_n 1, 1) := by decide +kernel
theorem dX12_ahead_220 : decode cX12_ahead 220 = .ok (.bipush 59, 2) := by decide +kernel
theorem dX12_ahead_222 : decode cX12_ahead 222 = .ok (.if_icmp .eq 21, 3) := by decide +kernel
theorem dX12_ahead_225 : decode cX12_ahead 225 = .ok (.iload_n 1, 1) := by decide +kernel
theorem dX12_ahead_226 : decode cX12_ahead 226 = .ok (.bipush 60, 2) := by decide +kernel
theorem dX12_ahead_228 : decode cX12_ahead 228 = .ok (.if_icmp .eq 15, 3) := by decide +kernel
theorem dX12_ahead_231 : decode cX12_ahead 231 = .ok (.iload_n 1, 1) := by decide +kernel
theorem dX12_ahead_232 : decode cX12_ahead 232 = .ok (.bipush 62, 2) := by decide +kernel
theorem dX12_ahead_234 : decode cX12_ahead 234 = .ok (.if_icmp .eq 9, 3) := by decide +kernel
theorem dX12_ahead_237 : decode cX12_ahead 237 = .ok (.iload_n 1, 1) := by decide +kernel
theorem dX12_ahead_238 : decode cX12_ahead 238 = .ok (.bipush 61, 2) := by decide +kernel
theorem dX12_ahead_240 : decode cX12_ahead 240 = .ok (.if_icmp .ne 7, 3) := by decide +kernel
theorem dX12_ahead_243 : decode cX12_ahead 243 = .ok (.iconst 4, 1) := by decide +kernel
theorem dX12_ahead_244 : decode cX12_ahead 244 = .ok (.goto 4, 3) := by decide +kernel
theorem dX12_ahead_247 : decode cX12_ahead 247 = .ok (.iconst 1, 1) := by decide +kernel
theorem dX12_ahead_248 : decode cX12_ahead 248 = .ok (.putfield 133, 3) := by decide +kernel
theorem dX12_ahead_251 : decode cX12_ahead 251 = .ok (.return_, 1) := by decide +kernel
noncomputable def Mo_ahead_L0 (σ : St) : Option (St ⊕ St) :=
  bd (Mo_byteAt σ (σ.1 92 14)) (fun r5 => if r5 = 32 then (bnd (wI σ 92 14 ((σ.1 92 14) + 1)) (fun σ6 => some (.inl σ6))) else (bd (Mo_byteAt σ (σ.1 92 14)) (fun r8 => if r8 = 10 then (bnd (wI σ 92 14 ((σ.1 92 14) + 1)) (fun σ9 => some (.inl σ9))) else (some (.inr σ)))))
set_option maxRecDepth 100000 in
set_option maxHeartbeats 4000000 in
theorem tb_Mo_ahead_L0 {V : Ev} {Γ : Cn} {fin : Option Value × St} {σ : St} {o : (St ⊕ St)} (X : Cx V Γ M_X12_ahead) {A : (St ⊕ St) → Prop}  (hb0 : ∀ (σ9 : St), A (.inl σ9) → Go V Γ M_X12_ahead (Zm V Γ 1 fin) 0 [(0, .ref (V.2.2.1 + 92))] [] σ9) (hx0 : ∀ (σ9 : St), A (.inr σ9) → Go V Γ M_X12_ahead (Zm V Γ 1 fin) 39 [(0, .ref (V.2.2.1 + 92))] [] σ9) (h : Mo_ahead_L0 σ = some o) (hA : A o) : Go V Γ M_X12_ahead (Zm V Γ 1 fin) 0 [(0, .ref (V.2.2.1 + 92))] [] σ := by
  unfold Mo_ahead_L0 at h
  refine g_aload_n (pc := 0) X 0 rfl dX12_ahead_0 ?_
  refine g_aload_n (pc := 1) X 0 rfl dX12_ahead_1 ?_
  refine g_getI (pc := 2) X k_fl_X12_121 s_92 rfl dX12_ahead_2 ?_
  obtain ⟨r5, hc4, h⟩ := bd_e h
  refine g_callV (pc := 5) X k_ml_X12_124 (run_Mo_byteAt  hc4) s_92 rfl (room_ok (Nat.le_of_ble_eq_true rfl) (Nat.le_of_ble_eq_true rfl)) ⟨Nat.le_refl _, Nat.le_refl _⟩ _ rfl (Nat.le_of_ble_eq_true rfl) dX12_ahead_5 ?_
  show Go V Γ M_X12_ahead (Zm V Γ 1 fin) 8 [(0, .ref (V.2.2.1 + 92))] [.int r5] σ
  refine g_bipush (v := 32) (pc := 8) X (by decide) dX12_ahead_8 ?_
  refine g_icmp_eq (pc := 10) (tgt := 26) X dX12_ahead_10 rfl (fun c11 => ?_) (fun c11 => ?_)
  · replace h := if_t c11 h
    refine g_aload_n (pc := 26) X 0 rfl dX12_ahead_26 ?_
    refine g_dup (pc := 27) X rfl dX12_ahead_27 ?_
    refine g_getI (pc := 28) X k_fl_X12_121 s_92 rfl dX12_ahead_28 ?_
    refine g_iconst (v := 1) (pc := 31) X rfl dX12_ahead_31 ?_
    refine g_iadd (pc := 32) X dX12_ahead_32 ?_
    refine g_putI (pc := 33) X k_fl_X12_121 s_92 rfl rfl rfl dX12_ahead_33 ?_
    obtain ⟨σ6, e_σ6, h⟩ := bnd_e h
    refine g_nmS e_σ6 ?_
    refine g_goto (pc := 36) (tgt := 0) X dX12_ahead_36 rfl ?_
    refine g_sub [0] rfl ?_
    cases h
    exact hb0 _ hA
  · replace h := if_f c11 h
    refine g_aload_n (pc := 13) X 0 rfl dX12_ahead_13 ?_
    refine g_aload_n (pc := 14) X 0 rfl dX12_ahead_14 ?_
    refine g_getI (pc := 15) X k_fl_X12_121 s_92 rfl dX12_ahead_15 ?_
    obtain ⟨r8, hc7, h⟩ := bd_e h
    refine g_callV (pc := 18) X k_ml_X12_124 (run_Mo_byteAt  hc7) s_92 rfl (room_ok (Nat.le_of_ble_eq_true rfl) (Nat.le_of_ble_eq_true rfl)) ⟨Nat.le_refl _, Nat.le_refl _⟩ _ rfl (Nat.le_of_ble_eq_true rfl) dX12_ahead_18 ?_
    show Go V Γ M_X12_ahead (Zm V Γ 1 fin) 21 [(0, .ref (V.2.2.1 + 92))] [.int r8] σ
    refine g_bipush (v := 10) (pc := 21) X (by decide) dX12_ahead_21 ?_
    refine g_icmp_ne (pc := 23) (tgt := 39) X dX12_ahead_23 rfl (fun c10 => ?_) (fun c10 => ?_)
    · replace h := if_f c10 h
      refine g_sub [0] rfl ?_
      cases h
      exact hx0 _ hA
    · replace h := if_t c10 h
      refine g_aload_n (pc := 26) X 0 rfl dX12_ahead_26 ?_
      refine g_dup (pc := 27) X rfl dX12_ahead_27 ?_
      refine g_getI (pc := 28) X k_fl_X12_121 s_92 rfl dX12_ahead_28 ?_
      refine g_iconst (v := 1) (pc := 31) X rfl dX12_ahead_31 ?_
      refine g_iadd (pc := 32) X dX12_ahead_32 ?_
      refine g_putI (pc := 33) X k_fl_X12_121 s_92 rfl rfl rfl dX12_ahead_33 ?_
      obtain ⟨σ9, e_σ9, h⟩ := bnd_e h
      refine g_nmS e_σ9 ?_
      refine g_goto (pc := 36) (tgt := 0) X dX12_ahead_36 rfl ?_
      refine g_sub [0] rfl ?_
      cases h
      exact hb0 _ hA
set_option maxRecDepth 100000 in
theorem tl_Mo_ahead_L0 {V : Ev} {Γ : Cn} {fin : Option Value × St} {σ9 : St} (X : Cx V Γ M_X12_ahead)  {σ8 : St} {n : Nat} (h : iter (fun s : St => Mo_ahead_L0 s) n σ9 = some σ8) (hK : Go V Γ M_X12_ahead (Zm V Γ 1 fin) 39 [(0, .ref (V.2.2.1 + 92))] [] σ8) : Go V Γ M_X12_ahead (Zm V Γ 1 fin) 0 [(0, .ref (V.2.2.1 + 92))] [] σ9 := by
  refine iter_go (G := (fun s : St => Go V Γ M_X12_ahead (Zm V Γ 1 fin) 0 [(0, .ref (V.2.2.1 + 92))] [] s)) (fun s o ho hS => ?_) n σ9 h
  exact tb_Mo_ahead_L0 X  (fun _ h9 => h9) (fun _ he => by cases he; exact hK) ho hS
noncomputable def Mo_ahead_L128 (σ : St) : Option (St ⊕ St) :=
  bd (Mo_byteAt σ (σ.1 92 14)) (fun r34 => bd (Mo_isDigit r34) (fun r36 => if r36 = 0 then (some (.inr σ)) else (bd (Mo_byteAt σ (σ.1 92 14)) (fun r38 => bnd (wI σ 92 15 (jmin 100000 (((10 * (σ.1 92 15)) + r38) - 48))) (fun σ39 => bnd (wI σ39 92 14 ((σ39.1 92 14) + 1)) (fun σ40 => some (.inl σ40)))))))
set_option maxRecDepth 100000 in
set_option maxHeartbeats 4000000 in
theorem tb_Mo_ahead_L128 {V : Ev} {Γ : Cn} {fin : Option Value × St} {σ : St} {o : (St ⊕ St)} (X : Cx V Γ M_X12_ahead) {A : (St ⊕ St) → Prop}  (hb128 : ∀ (σ9 : St), A (.inl σ9) → Go V Γ M_X12_ahead (Zm V Γ 1 fin) 128 [(0, .ref (V.2.2.1 + 92))] [] σ9) (hx128 : ∀ (σ9 : St), A (.inr σ9) → Go V Γ M_X12_ahead (Zm V Γ 1 fin) 183 [(0, .ref (V.2.2.1 + 92))] [] σ9) (h : Mo_ahead_L128 σ = some o) (hA : A o) : Go V Γ M_X12_ahead (Zm V Γ 1 fin) 128 [(0, .ref (V.2.2.1 + 92))] [] σ := by
  unfold Mo_ahead_L128 at h
  refine g_aload_n (pc := 128) X 0 rfl dX12_ahead_128 ?_
  refine g_aload_n (pc := 129) X 0 rfl dX12_ahead_129 ?_
  refine g_getI (pc := 130) X k_fl_X12_121 s_92 rfl dX12_ahead_130 ?_
  obtain ⟨r34, hc33, h⟩ := bd_e h
  refine g_callV (pc := 133) X k_ml_X12_124 (run_Mo_byteAt  hc33) s_92 rfl (room_ok (Nat.le_of_ble_eq_true rfl) (Nat.le_of_ble_eq_true rfl)) ⟨Nat.le_refl _, Nat.le_refl _⟩ _ rfl (Nat.le_of_ble_eq_true rfl) dX12_ahead_133 ?_
  show Go V Γ M_X12_ahead (Zm V Γ 1 fin) 136 [(0, .ref (V.2.2.1 + 92))] [.int r34] σ
  obtain ⟨r36, hc35, h⟩ := bd_e h
  refine g_callS (pc := 136) X k_ml_X12_139 (run_Mo_isDigit  hc35) rfl (room_ok (Nat.le_of_ble_eq_true rfl) (Nat.le_of_ble_eq_true rfl)) ⟨Nat.le_refl _, Nat.le_refl _⟩ _ rfl (Nat.le_of_ble_eq_true rfl) dX12_ahead_136 ?_
  show Go V Γ M_X12_ahead (Zm V Γ 1 fin) 139 [(0, .ref (V.2.2.1 + 92))] [.int r36] σ
  refine g_if_eq (pc := 139) (tgt := 183) X dX12_ahead_139 rfl (fun c41 => ?_) (fun c41 => ?_)
  · replace h := if_t c41 h
    refine g_sub [0] rfl ?_
    cases h
    exact hx128 _ hA
  · replace h := if_f c41 h
    refine g_aload_n (pc := 142) X 0 rfl dX12_ahead_142 ?_
    refine g_ldc (v := 100000) (pc := 143) X (k_const_X12_142) dX12_ahead_143 ?_
    refine g_bipush (v := 10) (pc := 145) X (by decide) dX12_ahead_145 ?_
    refine g_aload_n (pc := 147) X 0 rfl dX12_ahead_147 ?_
    refine g_getI (pc := 148) X k_fl_X12_130 s_92 rfl dX12_ahead_148 ?_
    refine g_imul (pc := 151) X dX12_ahead_151 ?_
    refine g_aload_n (pc := 152) X 0 rfl dX12_ahead_152 ?_
    refine g_aload_n (pc := 153) X 0 rfl dX12_ahead_153 ?_
    refine g_getI (pc := 154) X k_fl_X12_121 s_92 rfl dX12_ahead_154 ?_
    obtain ⟨r38, hc37, h⟩ := bd_e h
    refine g_callV (pc := 157) X k_ml_X12_124 (run_Mo_byteAt  hc37) s_92 rfl (room_ok (Nat.le_of_ble_eq_true rfl) (Nat.le_of_ble_eq_true rfl)) ⟨Nat.le_refl _, Nat.le_refl _⟩ _ rfl (Nat.le_of_ble_eq_true rfl) dX12_ahead_157 ?_
    show Go V Γ M_X12_ahead (Zm V Γ 1 fin) 160 [(0, .ref (V.2.2.1 + 92))] [.int r38, .int (10 * (σ.1 92 15)), .int 100000, .ref (V.2.2.1 + 92)] σ
    refine g_iadd (pc := 160) X dX12_ahead_160 ?_
    refine g_bipush (v := 48) (pc := 161) X (by decide) dX12_ahead_161 ?_
    refine g_isub (pc := 163) X dX12_ahead_163 ?_
    refine g_min (pc := 164) X k_ml_X12_143 (Nat.le_of_ble_eq_true rfl) (Nat.le_of_ble_eq_true rfl) (Nat.le_refl _) (Nat.le_refl _) dX12_ahead_164 ?_
    refine g_putI (pc := 167) X k_fl_X12_130 s_92 rfl rfl rfl dX12_ahead_167 ?_
    obtain ⟨σ39, e_σ39, h⟩ := bnd_e h
    refine g_nmS e_σ39 ?_
    refine g_aload_n (pc := 170) X 0 rfl dX12_ahead_170 ?_
    refine g_dup (pc := 171) X rfl dX12_ahead_171 ?_
    refine g_getI (pc := 172) X k_fl_X12_121 s_92 rfl dX12_ahead_172 ?_
    refine g_iconst (v := 1) (pc := 175) X rfl dX12_ahead_175 ?_
    refine g_iadd (pc := 176) X dX12_ahead_176 ?_
    refine g_putI (pc := 177) X k_fl_X12_121 s_92 rfl rfl rfl dX12_ahead_177 ?_
    obtain ⟨σ40, e_σ40, h⟩ := bnd_e h
    refine g_nmS e_σ40 ?_
    refine g_goto (pc := 180) (tgt := 128) X dX12_ahead_180 rfl ?_
    refine g_sub [0] rfl ?_
    cases h
    exact hb128 _ hA
set_option maxRecDepth 100000 in
theorem tl_Mo_ahead_L128 {V : Ev} {Γ : Cn} {fin : Option Value × St} {σ9 : St} (X : Cx V Γ M_X12_ahead)  {σ8 : St} {n : Nat} (h : iter (fun s : St => Mo_ahead_L128 s) n σ9 = some σ8) (hK : Go V Γ M_X12_ahead (Zm V Γ 1 fin) 183 [(0, .ref (V.2.2.1 + 92))] [] σ8) : Go V Γ M_X12_ahead (Zm V Γ 1 fin) 128 [(0, .ref (V.2.2.1 + 92))] [] σ9 := by
  refine iter_go (G := (fun s : St => Go V Γ M_X12_ahead (Zm V Γ 1 fin) 128 [(0, .ref (V.2.2.1 + 92))] [] s)) (fun s o ho hS => ?_) n σ9 h
  exact tb_Mo_ahead_L128 X  (fun _ h9 => h9) (fun _ he => by cases he; exact hK) ho hS
noncomputable def Mo_ahead_L81 (σ : St) : Option (St ⊕ St) :=
  bd (Mo_byteAt σ (σ.1 92 14)) (fun r49 => bd (Mo_isSmall r49) (fun r51 => if r51 = 0 then (some (.inr σ)) else (bnd (wI σ 92 14 ((σ.1 92 14) + 1)) (fun σ52 => some (.inl σ52)))))
set_option maxRecDepth 100000 in
set_option maxHeartbeats 4000000 in
theorem tb_Mo_ahead_L81 {V : Ev} {Γ : Cn} {fin : Option Value × St} {σ : St} {o : (St ⊕ St)} (X : Cx V Γ M_X12_ahead) {A : (St ⊕ St) → Prop}  (hb81 : ∀ (σ9 : St), A (.inl σ9) → Go V Γ M_X12_ahead (Zm V Γ 1 fin) 81 [(0, .ref (V.2.2.1 + 92))] [] σ9) (hx81 : ∀ (σ9 : St), A (.inr σ9) → Go V Γ M_X12_ahead (Zm V Γ 1 fin) 108 [(0, .ref (V.2.2.1 + 92))] [] σ9) (h : Mo_ahead_L81 σ = some o) (hA : A o) : Go V Γ M_X12_ahead (Zm V Γ 1 fin) 81 [(0, .ref (V.2.2.1 + 92))] [] σ := by
  unfold Mo_ahead_L81 at h
  refine g_aload_n (pc := 81) X 0 rfl dX12_ahead_81 ?_
  refine g_aload_n (pc := 82) X 0 rfl dX12_ahead_82 ?_
  refine g_getI (pc := 83) X k_fl_X12_121 s_92 rfl dX12_ahead_83 ?_
  obtain ⟨r49, hc48, h⟩ := bd_e h
  refine g_callV (pc := 86) X k_ml_X12_124 (run_Mo_byteAt  hc48) s_92 rfl (room_ok (Nat.le_of_ble_eq_true rfl) (Nat.le_of_ble_eq_true rfl)) ⟨Nat.le_refl _, Nat.le_refl _⟩ _ rfl (Nat.le_of_ble_eq_true rfl) dX12_ahead_86 ?_
  show Go V Γ M_X12_ahead (Zm V Γ 1 fin) 89 [(0, .ref (V.2.2.1 + 92))] [.int r49] σ
  obtain ⟨r51, hc50, h⟩ := bd_e h
  refine g_callS (pc := 89) X k_ml_X12_136 (run_Mo_isSmall  hc50) rfl (room_ok (Nat.le_of_ble_eq_true rfl) (Nat.le_of_ble_eq_true rfl)) ⟨Nat.le_refl _, Nat.le_refl _⟩ _ rfl (Nat.le_of_ble_eq_true rfl) dX12_ahead_89 ?_
  show Go V Γ M_X12_ahead (Zm V Γ 1 fin) 92 [(0, .ref (V.2.2.1 + 92))] [.int r51] σ
  refine g_if_eq (pc := 92) (tgt := 108) X dX12_ahead_92 rfl (fun c53 => ?_) (fun c53 => ?_)
  · replace h := if_t c53 h
    refine g_sub [0] rfl ?_
    cases h
    exact hx81 _ hA
  · replace h := if_f c53 h
    refine g_aload_n (pc := 95) X 0 rfl dX12_ahead_95 ?_
    refine g_dup (pc := 96) X rfl dX12_ahead_96 ?_
    refine g_getI (pc := 97) X k_fl_X12_121 s_92 rfl dX12_ahead_97 ?_
    refine g_iconst (v := 1) (pc := 100) X rfl dX12_ahead_100 ?_
    refine g_iadd (pc := 101) X dX12_ahead_101 ?_
    refine g_putI (pc := 102) X k_fl_X12_121 s_92 rfl rfl rfl dX12_ahead_102 ?_
    obtain ⟨σ52, e_σ52, h⟩ := bnd_e h
    refine g_nmS e_σ52 ?_
    refine g_goto (pc := 105) (tgt := 81) X dX12_ahead_105 rfl ?_
    refine g_sub [0] rfl ?_
    cases h
    exact hb81 _ hA
set_option maxRecDepth 100000 in
theorem tl_Mo_ahead_L81 {V : Ev} {Γ : Cn} {fin : Option Value × St} {σ9 : St} (X : Cx V Γ M_X12_ahead)  {σ8 : St} {n : Nat} (h : iter (fun s : St => Mo_ahead_L81 s) n σ9 = some σ8) (hK : Go V Γ M_X12_ahead (Zm V Γ 1 fin) 108 [(0, .ref (V.2.2.1 + 92))] [] σ8) : Go V Γ M_X12_ahead (Zm V Γ 1 fin) 81 [(0, .ref (V.2.2.1 + 92))] [] σ9 := by
  refine iter_go (G := (fun s : St => Go V Γ M_X12_ahead (Zm V Γ 1 fin) 81 [(0, .ref (V.2.2.1 + 92))] [] s)) (fun s o ho hS => ?_) n σ9 h
  exact tb_Mo_ahead_L81 X  (fun _ h9 => h9) (fun _ he => by cases he; exact hK) ho hS
noncomputable def Mo_ahead (σ : St) : Option St :=
  bd (Mo_byteAt σ (σ.1 92 14)) (fun r2 => if r2 = 32 then (bnd (wI σ 92 14 ((σ.1 92 14) + 1)) (fun σ3 => bd (iter (fun s : St => Mo_ahead_L0 s) FUEL σ3) (fun σ12 => bnd (wI σ12 92 13 (σ12.1 92 14)) (fun σ14 => bd (Mo_byteAt σ14 (σ14.1 92 14)) (fun r16 => bnd (wI σ14 92 15 r16) (fun σ17 => if r16 = (-1) then (bnd (wI σ17 92 12 0) (fun σ58 => some σ58)) else (bd (Mo_isSmall r16) (fun r19 => if r19 = 0 then (bd (Mo_isDigit r16) (fun r21 => if r21 = 0 then (bnd (wI σ17 92 14 ((σ17.1 92 14) + 1)) (fun σ22 => if r16 = 59 then (bnd (wI σ22 92 12 4) (fun σ23 => some σ23)) else (if r16 = 60 then (bnd (wI σ22 92 12 4) (fun σ24 => some σ24)) else (if r16 = 62 then (bnd (wI σ22 92 12 4) (fun σ25 => some σ25)) else (if r16 = 61 then (bnd (wI σ22 92 12 4) (fun σ27 => some σ27)) else (bnd (wI σ22 92 12 1) (fun σ26 => some σ26))))))) else (bnd (wI σ17 92 15 0) (fun σ32 => bd (iter (fun s : St => Mo_ahead_L128 s) FUEL σ32) (fun σ42 => if ((σ42.1 92 14) - (σ42.1 92 13)) ≤ 4 then (bnd (wI σ42 92 12 3) (fun σ44 => some σ44)) else (bnd (wI σ42 92 12 1) (fun σ45 => some σ45))))))) else (bd (iter (fun s : St => Mo_ahead_L81 s) FUEL σ17) (fun σ54 => bnd (wI σ54 92 12 2) (fun σ56 => some σ56))))))))))) else (bd (Mo_byteAt σ (σ.1 92 14)) (fun r61 => if r61 = 10 then (bnd (wI σ 92 14 ((σ.1 92 14) + 1)) (fun σ93 => bd (iter (fun s : St => Mo_ahead_L0 s) FUEL σ93) (fun σ94 => bnd (wI σ94 92 13 (σ94.1 92 14)) (fun σ96 => bd (Mo_byteAt σ96 (σ96.1 92 14)) (fun r98 => bnd (wI σ96 92 15 r98) (fun σ99 => if r98 = (-1) then (bnd (wI σ99 92 12 0) (fun σ125 => some σ125)) else (bd (Mo_isSmall r98) (fun r101 => if r101 = 0 then (bd (Mo_isDigit r98) (fun r103 => if r103 = 0 then (bnd (wI σ99 92 14 ((σ99.1 92 14) + 1)) (fun σ104 => if r98 = 59 then (bnd (wI σ104 92 12 4) (fun σ105 => some σ105)) else (if r98 = 60 then (bnd (wI σ104 92 12 4) (fun σ106 => some σ106)) else (if r98 = 62 then (bnd (wI σ104 92 12 4) (fun σ107 => some σ107)) else (if r98 = 61 then (bnd (wI σ104 92 12 4) (fun σ109 => some σ109)) else (bnd (wI σ104 92 12 1) (fun σ108 => some σ108))))))) else (bnd (wI σ99 92 15 0) (fun σ114 => bd (iter (fun s : St => Mo_ahead_L128 s) FUEL σ114) (fun σ115 => if ((σ115.1 92 14) - (σ115.1 92 13)) ≤ 4 then (bnd (wI σ115 92 12 3) (fun σ117 => some σ117)) else (bnd (wI σ115 92 12 1) (fun σ118 => some σ118))))))) else (bd (iter (fun s : St => Mo_ahead_L81 s) FUEL σ99) (fun σ121 => bnd (wI σ121 92 12 2) (fun σ123 => some σ123))))))))))) else (bnd (wI σ 92 13 (σ.1 92 14)) (fun σ62 => bd (Mo_byteAt σ62 (σ62.1 92 14)) (fun r64 => bnd (wI σ62 92 15 r64) (fun σ65 => if r64 = (-1) then (bnd (wI σ65 92 12 0) (fun σ91 => some σ91)) else (bd (Mo_isSmall r64) (fun r67 => if r67 = 0 then (bd (Mo_isDigit r64) (fun r69 => if r69 = 0 then (bnd (wI σ65 92 14 ((σ65.1 92 14) + 1)) (fun σ70 => if r64 = 59 then (bnd (wI σ70 92 12 4) (fun σ71 => some σ71)) else (if r64 = 60 then (bnd (wI σ70 92 12 4) (fun σ72 => some σ72)) else (if r64 = 62 then (bnd (wI σ70 92 12 4) (fun σ73 => some σ73)) else (if r64 = 61 then (bnd (wI σ70 92 12 4) (fun σ75 => some σ75)) else (bnd (wI σ70 92 12 1) (fun σ74 => some σ74))))))) else (bnd (wI σ65 92 15 0) (fun σ80 => bd (iter (fun s : St => Mo_ahead_L128 s) FUEL σ80) (fun σ81 => if ((σ81.1 92 14) - (σ81.1 92 13)) ≤ 4 then (bnd (wI σ81 92 12 3) (fun σ83 => some σ83)) else (bnd (wI σ81 92 12 1) (fun σ84 => some σ84))))))) else (bd (iter (fun s : St => Mo_ahead_L81 s) FUEL σ65) (fun σ87 => bnd (wI σ87 92 12 2) (fun σ89 => some σ89))))))))))))
set_option maxRecDepth 100000 in
set_option maxHeartbeats 4000000 in
theorem tm_Mo_ahead {V : Ev} {Γ : Cn} {fin : Option Value × St} {σ : St} {o : St} (X : Cx V Γ M_X12_ahead) {A : St → Prop}  (hr : ∀ (σ9 : St), A σ9 → (none, σ9) = fin) (h : Mo_ahead σ = some o) (hA : A o) : Go V Γ M_X12_ahead (Zm V Γ 1 fin) 0 [(0, .ref (V.2.2.1 + 92))] [] σ := by
  unfold Mo_ahead at h
  refine g_aload_n (pc := 0) X 0 rfl dX12_ahead_0 ?_
  refine g_aload_n (pc := 1) X 0 rfl dX12_ahead_1 ?_
  refine g_getI (pc := 2) X k_fl_X12_121 s_92 rfl dX12_ahead_2 ?_
  obtain ⟨r2, hc1, h⟩ := bd_e h
  refine g_callV (pc := 5) X k_ml_X12_124 (run_Mo_byteAt  hc1) s_92 rfl (room_ok (Nat.le_of_ble_eq_true rfl) (Nat.le_of_ble_eq_true rfl)) ⟨Nat.le_refl _, Nat.le_refl _⟩ _ rfl (Nat.le_of_ble_eq_true rfl) dX12_ahead_5 ?_
  show Go V Γ M_X12_ahead (Zm V Γ 1 fin) 8 [(0, .ref (V.2.2.1 + 92))] [.int r2] σ
  refine g_bipush (v := 32) (pc := 8) X (by decide) dX12_ahead_8 ?_
  refine g_icmp_eq (pc := 10) (tgt := 26) X dX12_ahead_10 rfl (fun c128 => ?_) (fun c128 => ?_)
  · replace h := if_t c128 h
    refine g_aload_n (pc := 26) X 0 rfl dX12_ahead_26 ?_
    refine g_dup (pc := 27) X rfl dX12_ahead_27 ?_
    refine g_getI (pc := 28) X k_fl_X12_121 s_92 rfl dX12_ahead_28 ?_
    refine g_iconst (v := 1) (pc := 31) X rfl dX12_ahead_31 ?_
    refine g_iadd (pc := 32) X dX12_ahead_32 ?_
    refine g_putI (pc := 33) X k_fl_X12_121 s_92 rfl rfl rfl dX12_ahead_33 ?_
    obtain ⟨σ3, e_σ3, h⟩ := bnd_e h
    refine g_nmS e_σ3 ?_
    refine g_goto (pc := 36) (tgt := 0) X dX12_ahead_36 rfl ?_
    refine g_sub [0] rfl ?_
    obtain ⟨σ12, hi13, h⟩ := bd_e h
    refine tl_Mo_ahead_L0 X  hi13 ?_
    refine g_aload_n (pc := 39) X 0 rfl dX12_ahead_39 ?_
    refine g_aload_n (pc := 40) X 0 rfl dX12_ahead_40 ?_
    refine g_getI (pc := 41) X k_fl_X12_121 s_92 rfl dX12_ahead_41 ?_
    refine g_putI (pc := 44) X k_fl_X12_127 s_92 rfl rfl rfl dX12_ahead_44 ?_
    obtain ⟨σ14, e_σ14, h⟩ := bnd_e h
    refine g_nmS e_σ14 ?_
    refine g_aload_n (pc := 47) X 0 rfl dX12_ahead_47 ?_
    refine g_aload_n (pc := 48) X 0 rfl dX12_ahead_48 ?_
    refine g_getI (pc := 49) X k_fl_X12_121 s_92 rfl dX12_ahead_49 ?_
    obtain ⟨r16, hc15, h⟩ := bd_e h
    refine g_callV (pc := 52) X k_ml_X12_124 (run_Mo_byteAt  hc15) s_92 rfl (room_ok (Nat.le_of_ble_eq_true rfl) (Nat.le_of_ble_eq_true rfl)) ⟨Nat.le_refl _, Nat.le_refl _⟩ _ rfl (Nat.le_of_ble_eq_true rfl) dX12_ahead_52 ?_
    show Go V Γ M_X12_ahead (Zm V Γ 1 fin) 55 [(0, .ref (V.2.2.1 + 92))] [.int r16] σ14
    refine g_istore_n (pc := 55) X [(1, .int r16), (0, .ref (V.2.2.1 + 92))] rfl (Nat.le_of_ble_eq_true rfl) rfl dX12_ahead_55 ?_
    refine g_aload_n (pc := 56) X 1 rfl dX12_ahead_56 ?_
    refine g_iload_n (pc := 57) X 0 rfl dX12_ahead_57 ?_
    refine g_putI (pc := 58) X k_fl_X12_130 s_92 rfl rfl rfl dX12_ahead_58 ?_
    obtain ⟨σ17, e_σ17, h⟩ := bnd_e h
    refine g_nmS e_σ17 ?_
    refine g_iload_n (pc := 61) X 0 rfl dX12_ahead_61 ?_
    refine g_iconst (v := (-1)) (pc := 62) X rfl dX12_ahead_62 ?_
    refine g_icmp_ne (pc := 63) (tgt := 74) X dX12_ahead_63 rfl (fun c59 => ?_) (fun c59 => ?_)
    · replace h := if_f c59 h
      refine g_iload_n (pc := 74) X 0 rfl dX12_ahead_74 ?_
      obtain ⟨r19, hc18, h⟩ := bd_e h
      refine g_callS (pc := 75) X k_ml_X12_136 (run_Mo_isSmall  hc18) rfl (room_ok (Nat.le_of_ble_eq_true rfl) (Nat.le_of_ble_eq_true rfl)) ⟨Nat.le_refl _, Nat.le_refl _⟩ _ rfl (Nat.le_of_ble_eq_true rfl) dX12_ahead_75 ?_
      show Go V Γ M_X12_ahead (Zm V Γ 1 fin) 78 [(1, .int r16), (0, .ref (V.2.2.1 + 92))] [.int r19] σ17
      refine g_if_eq (pc := 78) (tgt := 116) X dX12_ahead_78 rfl (fun c57 => ?_) (fun c57 => ?_)
      · replace h := if_t c57 h
        refine g_iload_n (pc := 116) X 0 rfl dX12_ahead_116 ?_
        obtain ⟨r21, hc20, h⟩ := bd_e h
        refine g_callS (pc := 117) X k_ml_X12_139 (run_Mo_isDigit  hc20) rfl (room_ok (Nat.le_of_ble_eq_true rfl) (Nat.le_of_ble_eq_true rfl)) ⟨Nat.le_refl _, Nat.le_refl _⟩ _ rfl (Nat.le_of_ble_eq_true rfl) dX12_ahead_117 ?_
        show Go V Γ M_X12_ahead (Zm V Γ 1 fin) 120 [(1, .int r16), (0, .ref (V.2.2.1 + 92))] [.int r21] σ17
        refine g_if_eq (pc := 120) (tgt := 208) X dX12_ahead_120 rfl (fun c47 => ?_) (fun c47 => ?_)
        · replace h := if_t c47 h
          refine g_aload_n (pc := 208) X 1 rfl dX12_ahead_208 ?_
          refine g_dup (pc := 209) X rfl dX12_ahead_209 ?_
          refine g_getI (pc := 210) X k_fl_X12_121 s_92 rfl dX12_ahead_210 ?_
          refine g_iconst (v := 1) (pc := 213) X rfl dX12_ahead_213 ?_
          refine g_iadd (pc := 214) X dX12_ahead_214 ?_
          refine g_putI (pc := 215) X k_fl_X12_121 s_92 rfl rfl rfl dX12_ahead_215 ?_
          obtain ⟨σ22, e_σ22, h⟩ := bnd_e h
          refine g_nmS e_σ22 ?_
          refine g_aload_n (pc := 218) X 1 rfl dX12_ahead_218 ?_
          refine g_iload_n (pc := 219) X 0 rfl dX12_ahead_219 ?_
          refine g_bipush (v := 59) (pc := 220) X (by decide) dX12_ahead_220 ?_
          refine g_icmp_eq (pc := 222) (tgt := 243) X dX12_ahead_222 rfl (fun c31 => ?_) (fun c31 => ?_)
          · replace h := if_t c31 h
            refine g_iconst (v := 4) (pc := 243) X rfl dX12_ahead_243 ?_
            refine g_goto (pc := 244) (tgt := 248) X dX12_ahead_244 rfl ?_
            refine g_putI (pc := 248) X k_fl_X12_133 s_92 rfl rfl rfl dX12_ahead_248 ?_
            obtain ⟨σ23, e_σ23, h⟩ := bnd_e h
            refine g_nmS e_σ23 ?_
            cases h
            exact g_vret (pc := 251) X rfl (hr _ hA) dX12_ahead_251
          · replace h := if_f c31 h
            refine g_iload_n (pc := 225) X 0 rfl dX12_ahead_225 ?_
            refine g_bipush (v := 60) (pc := 226) X (by decide) dX12_ahead_226 ?_
            refine g_icmp_eq (pc := 228) (tgt := 243) X dX12_ahead_228 rfl (fun c30 => ?_) (fun c30 => ?_)
            · replace h := if_t c30 h
              refine g_iconst (v := 4) (pc := 243) X rfl dX12_ahead_243 ?_
              refine g_goto (pc := 244) (tgt := 248) X dX12_ahead_244 rfl ?_
              refine g_putI (pc := 248) X k_fl_X12_133 s_92 rfl rfl rfl dX12_ahead_248 ?_
              obtain ⟨σ24, e_σ24, h⟩ := bnd_e h
              refine g_nmS e_σ24 ?_
              cases h
              exact g_vret (pc := 251) X rfl (hr _ hA) dX12_ahead_251
            · replace h := if_f c30 h
              refine g_iload_n (pc := 231) X 0 rfl dX12_ahead_231 ?_
              refine g_bipush (v := 62) (pc := 232) X (by decide) dX12_ahead_232 ?_
              refine g_icmp_eq (pc := 234) (tgt := 243) X dX12_ahead_234 rfl (fun c29 => ?_) (fun c29 => ?_)
              · replace h := if_t c29 h
                refine g_iconst (v := 4) (pc := 243) X rfl dX12_ahead_243 ?_
                refine g_goto (pc := 244) (tgt := 248) X dX12_ahead_244 rfl ?_
                refine g_putI (pc := 248) X k_fl_X12_133 s_92 rfl rfl rfl dX12_ahead_248 ?_
                obtain ⟨σ25, e_σ25, h⟩ := bnd_e h
                refine g_nmS e_σ25 ?_
                cases h
                exact g_vret (pc := 251) X rfl (hr _ hA) dX12_ahead_251
              · replace h := if_f c29 h
                refine g_iload_n (pc := 237) X 0 rfl dX12_ahead_237 ?_
                refine g_bipush (v := 61) (pc := 238) X (by decide) dX12_ahead_238 ?_
                refine g_icmp_ne (pc := 240) (tgt := 247) X dX12_ahead_240 rfl (fun c28 => ?_) (fun c28 => ?_)
                · replace h := if_f c28 h
                  refine g_iconst (v := 1) (pc := 247) X rfl dX12_ahead_247 ?_
                  refine g_putI (pc := 248) X k_fl_X12_133 s_92 rfl rfl rfl dX12_ahead_248 ?_
                  obtain ⟨σ26, e_σ26, h⟩ := bnd_e h
                  refine g_nmS e_σ26 ?_
                  cases h
                  exact g_vret (pc := 251) X rfl (hr _ hA) dX12_ahead_251
                · replace h := if_t c28 h
                  refine g_iconst (v := 4) (pc := 243) X rfl dX12_ahead_243 ?_
                  refine g_goto (pc := 244) (tgt := 248) X dX12_ahead_244 rfl ?_
                  refine g_putI (pc := 248) X k_fl_X12_133 s_92 rfl rfl rfl dX12_ahead_248 ?_
                  obtain ⟨σ27, e_σ27, h⟩ := bnd_e h
                  refine g_nmS e_σ27 ?_
                  cases h
                  exact g_vret (pc := 251) X rfl (hr _ hA) dX12_ahead_251
        · replace h := if_f c47 h
          refine g_aload_n (pc := 123) X 1 rfl dX12_ahead_123 ?_
          refine g_iconst (v := 0) (pc := 124) X rfl dX12_ahead_124 ?_
          refine g_putI (pc := 125) X k_fl_X12_130 s_92 rfl rfl rfl dX12_ahead_125 ?_
          obtain ⟨σ32, e_σ32, h⟩ := bnd_e h
          refine g_nmS e_σ32 ?_
          refine g_sub [1] rfl ?_
          obtain ⟨σ42, hi43, h⟩ := bd_e h
          refine tl_Mo_ahead_L128 X  hi43 ?_
          refine g_aload_n (pc := 183) X 0 rfl dX12_ahead_183 ?_
          refine g_aload_n (pc := 184) X 0 rfl dX12_ahead_184 ?_
          refine g_getI (pc := 185) X k_fl_X12_121 s_92 rfl dX12_ahead_185 ?_
          refine g_aload_n (pc := 188) X 0 rfl dX12_ahead_188 ?_
          refine g_getI (pc := 189) X k_fl_X12_127 s_92 rfl dX12_ahead_189 ?_
          refine g_isub (pc := 192) X dX12_ahead_192 ?_
          refine g_iconst (v := 4) (pc := 193) X rfl dX12_ahead_193 ?_
          refine g_icmp_le (pc := 194) (tgt := 201) X dX12_ahead_194 rfl (fun c46 => ?_) (fun c46 => ?_)
          · replace h := if_t c46 h
            refine g_iconst (v := 3) (pc := 201) X rfl dX12_ahead_201 ?_
            refine g_putI (pc := 202) X k_fl_X12_133 s_92 rfl rfl rfl dX12_ahead_202 ?_
            obtain ⟨σ44, e_σ44, h⟩ := bnd_e h
            refine g_nmS e_σ44 ?_
            refine g_goto (pc := 205) (tgt := 251) X dX12_ahead_205 rfl ?_
            cases h
            exact g_vret (pc := 251) X rfl (hr _ hA) dX12_ahead_251
          · replace h := if_f c46 h
            refine g_iconst (v := 1) (pc := 197) X rfl dX12_ahead_197 ?_
            refine g_goto (pc := 198) (tgt := 202) X dX12_ahead_198 rfl ?_
            refine g_putI (pc := 202) X k_fl_X12_133 s_92 rfl rfl rfl dX12_ahead_202 ?_
            obtain ⟨σ45, e_σ45, h⟩ := bnd_e h
            refine g_nmS e_σ45 ?_
            refine g_goto (pc := 205) (tgt := 251) X dX12_ahead_205 rfl ?_
            cases h
            exact g_vret (pc := 251) X rfl (hr _ hA) dX12_ahead_251
      · replace h := if_f c57 h
        refine g_sub [1] rfl ?_
        obtain ⟨σ54, hi55, h⟩ := bd_e h
        refine tl_Mo_ahead_L81 X  hi55 ?_
        refine g_aload_n (pc := 108) X 0 rfl dX12_ahead_108 ?_
        refine g_iconst (v := 2) (pc := 109) X rfl dX12_ahead_109 ?_
        refine g_putI (pc := 110) X k_fl_X12_133 s_92 rfl rfl rfl dX12_ahead_110 ?_
        obtain ⟨σ56, e_σ56, h⟩ := bnd_e h
        refine g_nmS e_σ56 ?_
        refine g_goto (pc := 113) (tgt := 251) X dX12_ahead_113 rfl ?_
        cases h
        exact g_vret (pc := 251) X rfl (hr _ hA) dX12_ahead_251
    · replace h := if_t c59 h
      refine g_aload_n (pc := 66) X 1 rfl dX12_ahead_66 ?_
      refine g_iconst (v := 0) (pc := 67) X rfl dX12_ahead_67 ?_
      refine g_putI (pc := 68) X k_fl_X12_133 s_92 rfl rfl rfl dX12_ahead_68 ?_
      obtain ⟨σ58, e_σ58, h⟩ := bnd_e h
      refine g_nmS e_σ58 ?_
      refine g_goto (pc := 71) (tgt := 251) X dX12_ahead_71 rfl ?_
      cases h
      exact g_vret (pc := 251) X rfl (hr _ hA) dX12_ahead_251
  · replace h := if_f c128 h
    refine g_aload_n (pc := 13) X 0 rfl dX12_ahead_13 ?_
    refine g_aload_n (pc := 14) X 0 rfl dX12_ahead_14 ?_
    refine g_getI (pc := 15) X k_fl_X12_121 s_92 rfl dX12_ahead_15 ?_
    obtain ⟨r61, hc60, h⟩ := bd_e h
    refine g_callV (pc := 18) X k_ml_X12_124 (run_Mo_byteAt  hc60) s_92 rfl (room_ok (Nat.le_of_ble_eq_true rfl) (Nat.le_of_ble_eq_true rfl)) ⟨Nat.le_refl _, Nat.le_refl _⟩ _ rfl (Nat.le_of_ble_eq_true rfl) dX12_ahead_18 ?_
    show Go V Γ M_X12_ahead (Zm V Γ 1 fin) 21 [(0, .ref (V.2.2.1 + 92))] [.int r61] σ
    refine g_bipush (v := 10) (pc := 21) X (by decide) dX12_ahead_21 ?_
    refine g_icmp_ne (pc := 23) (tgt := 39) X dX12_ahead_23 rfl (fun c127 => ?_) (fun c127 => ?_)
    · replace h := if_f c127 h
      refine g_aload_n (pc := 39) X 0 rfl dX12_ahead_39 ?_
      refine g_aload_n (pc := 40) X 0 rfl dX12_ahead_40 ?_
      refine g_getI (pc := 41) X k_fl_X12_121 s_92 rfl dX12_ahead_41 ?_
      refine g_putI (pc := 44) X k_fl_X12_127 s_92 rfl rfl rfl dX12_ahead_44 ?_
      obtain ⟨σ62, e_σ62, h⟩ := bnd_e h
      refine g_nmS e_σ62 ?_
      refine g_aload_n (pc := 47) X 0 rfl dX12_ahead_47 ?_
      refine g_aload_n (pc := 48) X 0 rfl dX12_ahead_48 ?_
      refine g_getI (pc := 49) X k_fl_X12_121 s_92 rfl dX12_ahead_49 ?_
      obtain ⟨r64, hc63, h⟩ := bd_e h
      refine g_callV (pc := 52) X k_ml_X12_124 (run_Mo_byteAt  hc63) s_92 rfl (room_ok (Nat.le_of_ble_eq_true rfl) (Nat.le_of_ble_eq_true rfl)) ⟨Nat.le_refl _, Nat.le_refl _⟩ _ rfl (Nat.le_of_ble_eq_true rfl) dX12_ahead_52 ?_
      show Go V Γ M_X12_ahead (Zm V Γ 1 fin) 55 [(0, .ref (V.2.2.1 + 92))] [.int r64] σ62
      refine g_istore_n (pc := 55) X [(1, .int r64), (0, .ref (V.2.2.1 + 92))] rfl (Nat.le_of_ble_eq_true rfl) rfl dX12_ahead_55 ?_
      refine g_aload_n (pc := 56) X 1 rfl dX12_ahead_56 ?_
      refine g_iload_n (pc := 57) X 0 rfl dX12_ahead_57 ?_
      refine g_putI (pc := 58) X k_fl_X12_130 s_92 rfl rfl rfl dX12_ahead_58 ?_
      obtain ⟨σ65, e_σ65, h⟩ := bnd_e h
      refine g_nmS e_σ65 ?_
      refine g_iload_n (pc := 61) X 0 rfl dX12_ahead_61 ?_
      refine g_iconst (v := (-1)) (pc := 62) X rfl dX12_ahead_62 ?_
      refine g_icmp_ne (pc := 63) (tgt := 74) X dX12_ahead_63 rfl (fun c92 => ?_) (fun c92 => ?_)
      · replace h := if_f c92 h
        refine g_iload_n (pc := 74) X 0 rfl dX12_ahead_74 ?_
        obtain ⟨r67, hc66, h⟩ := bd_e h
        refine g_callS (pc := 75) X k_ml_X12_136 (run_Mo_isSmall  hc66) rfl (room_ok (Nat.le_of_ble_eq_true rfl) (Nat.le_of_ble_eq_true rfl)) ⟨Nat.le_refl _, Nat.le_refl _⟩ _ rfl (Nat.le_of_ble_eq_true rfl) dX12_ahead_75 ?_
        show Go V Γ M_X12_ahead (Zm V Γ 1 fin) 78 [(1, .int r64), (0, .ref (V.2.2.1 + 92))] [.int r67] σ65
        refine g_if_eq (pc := 78) (tgt := 116) X dX12_ahead_78 rfl (fun c90 => ?_) (fun c90 => ?_)
        · replace h := if_t c90 h
          refine g_iload_n (pc := 116) X 0 rfl dX12_ahead_116 ?_
          obtain ⟨r69, hc68, h⟩ := bd_e h
          refine g_callS (pc := 117) X k_ml_X12_139 (run_Mo_isDigit  hc68) rfl (room_ok (Nat.le_of_ble_eq_true rfl) (Nat.le_of_ble_eq_true rfl)) ⟨Nat.le_refl _, Nat.le_refl _⟩ _ rfl (Nat.le_of_ble_eq_true rfl) dX12_ahead_117 ?_
          show Go V Γ M_X12_ahead (Zm V Γ 1 fin) 120 [(1, .int r64), (0, .ref (V.2.2.1 + 92))] [.int r69] σ65
          refine g_if_eq (pc := 120) (tgt := 208) X dX12_ahead_120 rfl (fun c86 => ?_) (fun c86 => ?_)
          · replace h := if_t c86 h
            refine g_aload_n (pc := 208) X 1 rfl dX12_ahead_208 ?_
            refine g_dup (pc := 209) X rfl dX12_ahead_209 ?_
            refine g_getI (pc := 210) X k_fl_X12_121 s_92 rfl dX12_ahead_210 ?_
            refine g_iconst (v := 1) (pc := 213) X rfl dX12_ahead_213 ?_
            refine g_iadd (pc := 214) X dX12_ahead_214 ?_
            refine g_putI (pc := 215) X k_fl_X12_121 s_92 rfl rfl rfl dX12_ahead_215 ?_
            obtain ⟨σ70, e_σ70, h⟩ := bnd_e h
            refine g_nmS e_σ70 ?_
            refine g_aload_n (pc := 218) X 1 rfl dX12_ahead_218 ?_
            refine g_iload_n (pc := 219) X 0 rfl dX12_ahead_219 ?_
            refine g_bipush (v := 59) (pc := 220) X (by decide) dX12_ahead_220 ?_
            refine g_icmp_eq (pc := 222) (tgt := 243) X dX12_ahead_222 rfl (fun c79 => ?_) (fun c79 => ?_)
            · replace h := if_t c79 h
              refine g_iconst (v := 4) (pc := 243) X rfl dX12_ahead_243 ?_
              refine g_goto (pc := 244) (tgt := 248) X dX12_ahead_244 rfl ?_
              refine g_putI (pc := 248) X k_fl_X12_133 s_92 rfl rfl rfl dX12_ahead_248 ?_
              obtain ⟨σ71, e_σ71, h⟩ := bnd_e h
              refine g_nmS e_σ71 ?_
              cases h
              exact g_vret (pc := 251) X rfl (hr _ hA) dX12_ahead_251
            · replace h := if_f c79 h
              refine g_iload_n (pc := 225) X 0 rfl dX12_ahead_225 ?_
              refine g_bipush (v := 60) (pc := 226) X (by decide) dX12_ahead_226 ?_
              refine g_icmp_eq (pc := 228) (tgt := 243) X dX12_ahead_228 rfl (fun c78 => ?_) (fun c78 => ?_)
              · replace h := if_t c78 h
                refine g_iconst (v := 4) (pc := 243) X rfl dX12_ahead_243 ?_
                refine g_goto (pc := 244) (tgt := 248) X dX12_ahead_244 rfl ?_
                refine g_putI (pc := 248) X k_fl_X12_133 s_92 rfl rfl rfl dX12_ahead_248 ?_
                obtain ⟨σ72, e_σ72, h⟩ := bnd_e h
                refine g_nmS e_σ72 ?_
                cases h
                exact g_vret (pc := 251) X rfl (hr _ hA) dX12_ahead_251
              · replace h := if_f c78 h
                refine g_iload_n (pc := 231) X 0 rfl dX12_ahead_231 ?_
                refine g_bipush (v := 62) (pc := 232) X (by decide) dX12_ahead_232 ?_
                refine g_icmp_eq (pc := 234) (tgt := 243) X dX12_ahead_234 rfl (fun c77 => ?_) (fun c77 => ?_)
                · replace h := if_t c77 h
                  refine g_iconst (v := 4) (pc := 243) X rfl dX12_ahead_243 ?_
                  refine g_goto (pc := 244) (tgt := 248) X dX12_ahead_244 rfl ?_
                  refine g_putI (pc := 248) X k_fl_X12_133 s_92 rfl rfl rfl dX12_ahead_248 ?_
                  obtain ⟨σ73, e_σ73, h⟩ := bnd_e h
                  refine g_nmS e_σ73 ?_
                  cases h
                  exact g_vret (pc := 251) X rfl (hr _ hA) dX12_ahead_251
                · replace h := if_f c77 h
                  refine g_iload_n (pc := 237) X 0 rfl dX12_ahead_237 ?_
                  refine g_bipush (v := 61) (pc := 238) X (by decide) dX12_ahead_238 ?_
                  refine g_icmp_ne (pc := 240) (tgt := 247) X dX12_ahead_240 rfl (fun c76 => ?_) (fun c76 => ?_)
                  · replace h := if_f c76 h
                    refine g_iconst (v := 1) (pc := 247) X rfl dX12_ahead_247 ?_
                    refine g_putI (pc := 248) X k_fl_X12_133 s_92 rfl rfl rfl dX12_ahead_248 ?_
                    obtain ⟨σ74, e_σ74, h⟩ := bnd_e h
                    refine g_nmS e_σ74 ?_
                    cases h
                    exact g_vret (pc := 251) X rfl (hr _ hA) dX12_ahead_251
                  · replace h := if_t c76 h
                    refine g_iconst (v := 4) (pc := 243) X rfl dX12_ahead_243 ?_
                    refine g_goto (pc := 244) (tgt := 248) X dX12_ahead_244 rfl ?_
                    refine g_putI (pc := 248) X k_fl_X12_133 s_92 rfl rfl rfl dX12_ahead_248 ?_
                    obtain ⟨σ75, e_σ75, h⟩ := bnd_e h
                    refine g_nmS e_σ75 ?_
                    cases h
                    exact g_vret (pc := 251) X rfl (hr _ hA) dX12_ahead_251
          · replace h := if_f c86 h
            refine g_aload_n (pc := 123) X 1 rfl dX12_ahead_123 ?_
            refine g_iconst (v := 0) (pc := 124) X rfl dX12_ahead_124 ?_
            refine g_putI (pc := 125) X k_fl_X12_130 s_92 rfl rfl rfl dX12_ahead_125 ?_
            obtain ⟨σ80, e_σ80, h⟩ := bnd_e h
            refine g_nmS e_σ80 ?_
            refine g_sub [1] rfl ?_
            obtain ⟨σ81, hi82, h⟩ := bd_e h
            refine tl_Mo_ahead_L128 X  hi82 ?_
            refine g_aload_n (pc := 183) X 0 rfl dX12_ahead_183 ?_
            refine g_aload_n (pc := 184) X 0 rfl dX12_ahead_184 ?_
            refine g_getI (pc := 185) X k_fl_X12_121 s_92 rfl dX12_ahead_185 ?_
            refine g_aload_n (pc := 188) X 0 rfl dX12_ahead_188 ?_
            refine g_getI (pc := 189) X k_fl_X12_127 s_92 rfl dX12_ahead_189 ?_
            refine g_isub (pc := 192) X dX12_ahead_192 ?_
            refine g_iconst (v := 4) (pc := 193) X rfl dX12_ahead_193 ?_
            refine g_icmp_le (pc := 194) (tgt := 201) X dX12_ahead_194 rfl (fun c85 => ?_) (fun c85 => ?_)
            · replace h := if_t c85 h
              refine g_iconst (v := 3) (pc := 201) X rfl dX12_ahead_201 ?_
              refine g_putI (pc := 202) X k_fl_X12_133 s_92 rfl rfl rfl dX12_ahead_202 ?_
              obtain ⟨σ83, e_σ83, h⟩ := bnd_e h
              refine g_nmS e_σ83 ?_
              refine g_goto (pc := 205) (tgt := 251) X dX12_ahead_205 rfl ?_
              cases h
              exact g_vret (pc := 251) X rfl (hr _ hA) dX12_ahead_251
            · replace h := if_f c85 h
              refine g_iconst (v := 1) (pc := 197) X rfl dX12_ahead_197 ?_
              refine g_goto (pc := 198) (tgt := 202) X dX12_ahead_198 rfl ?_
              refine g_putI (pc := 202) X k_fl_X12_133 s_92 rfl rfl rfl dX12_ahead_202 ?_
              obtain ⟨σ84, e_σ84, h⟩ := bnd_e h
              refine g_nmS e_σ84 ?_
              refine g_goto (pc := 205) (tgt := 251) X dX12_ahead_205 rfl ?_
              cases h
              exact g_vret (pc := 251) X rfl (hr _ hA) dX12_ahead_251
        · replace h := if_f c90 h
          refine g_sub [1] rfl ?_
          obtain ⟨σ87, hi88, h⟩ := bd_e h
          refine tl_Mo_ahead_L81 X  hi88 ?_
          refine g_aload_n (pc := 108) X 0 rfl dX12_ahead_108 ?_
          refine g_iconst (v := 2) (pc := 109) X rfl dX12_ahead_109 ?_
          refine g_putI (pc := 110) X k_fl_X12_133 s_92 rfl rfl rfl dX12_ahead_110 ?_
          obtain ⟨σ89, e_σ89, h⟩ := bnd_e h
          refine g_nmS e_σ89 ?_
          refine g_goto (pc := 113) (tgt := 251) X dX12_ahead_113 rfl ?_
          cases h
          exact g_vret (pc := 251) X rfl (hr _ hA) dX12_ahead_251
      · replace h := if_t c92 h
        refine g_aload_n (pc := 66) X 1 rfl dX12_ahead_66 ?_
        refine g_iconst (v := 0) (pc := 67) X rfl dX12_ahead_67 ?_
        refine g_putI (pc := 68) X k_fl_X12_133 s_92 rfl rfl rfl dX12_ahead_68 ?_
        obtain ⟨σ91, e_σ91, h⟩ := bnd_e h
        refine g_nmS e_σ91 ?_
        refine g_goto (pc := 71) (tgt := 251) X dX12_ahead_71 rfl ?_
        cases h
        exact g_vret (pc := 251) X rfl (hr _ hA) dX12_ahead_251
    · replace h := if_t c127 h
      refine g_aload_n (pc := 26) X 0 rfl dX12_ahead_26 ?_
      refine g_dup (pc := 27) X rfl dX12_ahead_27 ?_
      refine g_getI (pc := 28) X k_fl_X12_121 s_92 rfl dX12_ahead_28 ?_
      refine g_iconst (v := 1) (pc := 31) X rfl dX12_ahead_31 ?_
      refine g_iadd (pc := 32) X dX12_ahead_32 ?_
      refine g_putI (pc := 33) X k_fl_X12_121 s_92 rfl rfl rfl dX12_ahead_33 ?_
      obtain ⟨σ93, e_σ93, h⟩ := bnd_e h
      refine g_nmS e_σ93 ?_
      refine g_goto (pc := 36) (tgt := 0) X dX12_ahead_36 rfl ?_
      refine g_sub [0] rfl ?_
      obtain ⟨σ94, hi95, h⟩ := bd_e h
      refine tl_Mo_ahead_L0 X  hi95 ?_
      refine g_aload_n (pc := 39) X 0 rfl dX12_ahead_39 ?_
      refine g_aload_n (pc := 40) X 0 rfl dX12_ahead_40 ?_
      refine g_getI (pc := 41) X k_fl_X12_121 s_92 rfl dX12_ahead_41 ?_
      refine g_putI (pc := 44) X k_fl_X12_127 s_92 rfl rfl rfl dX12_ahead_44 ?_
      obtain ⟨σ96, e_σ96, h⟩ := bnd_e h
      refine g_nmS e_σ96 ?_
      refine g_aload_n (pc := 47) X 0 rfl dX12_ahead_47 ?_
      refine g_aload_n (pc := 48) X 0 rfl dX12_ahead_48 ?_
      refine g_getI (pc := 49) X k_fl_X12_121 s_92 rfl dX12_ahead_49 ?_
      obtain ⟨r98, hc97, h⟩ := bd_e h
      refine g_callV (pc := 52) X k_ml_X12_124 (run_Mo_byteAt  hc97) s_92 rfl (room_ok (Nat.le_of_ble_eq_true rfl) (Nat.le_of_ble_eq_true rfl)) ⟨Nat.le_refl _, Nat.le_refl _⟩ _ rfl (Nat.le_of_ble_eq_true rfl) dX12_ahead_52 ?_
      show Go V Γ M_X12_ahead (Zm V Γ 1 fin) 55 [(0, .ref (V.2.2.1 + 92))] [.int r98] σ96
      refine g_istore_n (pc := 55) X [(1, .int r98), (0, .ref (V.2.2.1 + 92))] rfl (Nat.le_of_ble_eq_true rfl) rfl dX12_ahead_55 ?_
      refine g_aload_n (pc := 56) X 1 rfl dX12_ahead_56 ?_
      refine g_iload_n (pc := 57) X 0 rfl dX12_ahead_57 ?_
      refine g_putI (pc := 58) X k_fl_X12_130 s_92 rfl rfl rfl dX12_ahead_58 ?_
      obtain ⟨σ99, e_σ99, h⟩ := bnd_e h
      refine g_nmS e_σ99 ?_
      refine g_iload_n (pc := 61) X 0 rfl dX12_ahead_61 ?_
      refine g_iconst (v := (-1)) (pc := 62) X rfl dX12_ahead_62 ?_
      refine g_icmp_ne (pc := 63) (tgt := 74) X dX12_ahead_63 rfl (fun c126 => ?_) (fun c126 => ?_)
      · replace h := if_f c126 h
        refine g_iload_n (pc := 74) X 0 rfl dX12_ahead_74 ?_
        obtain ⟨r101, hc100, h⟩ := bd_e h
        refine g_callS (pc := 75) X k_ml_X12_136 (run_Mo_isSmall  hc100) rfl (room_ok (Nat.le_of_ble_eq_true rfl) (Nat.le_of_ble_eq_true rfl)) ⟨Nat.le_refl _, Nat.le_refl _⟩ _ rfl (Nat.le_of_ble_eq_true rfl) dX12_ahead_75 ?_
        show Go V Γ M_X12_ahead (Zm V Γ 1 fin) 78 [(1, .int r98), (0, .ref (V.2.2.1 + 92))] [.int r101] σ99
        refine g_if_eq (pc := 78) (tgt := 116) X dX12_ahead_78 rfl (fun c124 => ?_) (fun c124 => ?_)
        · replace h := if_t c124 h
          refine g_iload_n (pc := 116) X 0 rfl dX12_ahead_116 ?_
          obtain ⟨r103, hc102, h⟩ := bd_e h
          refine g_callS (pc := 117) X k_ml_X12_139 (run_Mo_isDigit  hc102) rfl (room_ok (Nat.le_of_ble_eq_true rfl) (Nat.le_of_ble_eq_true rfl)) ⟨Nat.le_refl _, Nat.le_refl _⟩ _ rfl (Nat.le_of_ble_eq_true rfl) dX12_ahead_117 ?_
          show Go V Γ M_X12_ahead (Zm V Γ 1 fin) 120 [(1, .int r98), (0, .ref (V.2.2.1 + 92))] [.int r103] σ99
          refine g_if_eq (pc := 120) (tgt := 208) X dX12_ahead_120 rfl (fun c120 => ?_) (fun c120 => ?_)
          · replace h := if_t c120 h
            refine g_aload_n (pc := 208) X 1 rfl dX12_ahead_208 ?_
            refine g_dup (pc := 209) X rfl dX12_ahead_209 ?_
            refine g_getI (pc := 210) X k_fl_X12_121 s_92 rfl dX12_ahead_210 ?_
            refine g_iconst (v := 1) (pc := 213) X rfl dX12_ahead_213 ?_
            refine g_iadd (pc := 214) X dX12_ahead_214 ?_
            refine g_putI (pc := 215) X k_fl_X12_121 s_92 rfl rfl rfl dX12_ahead_215 ?_
            obtain ⟨σ104, e_σ104, h⟩ := bnd_e h
            refine g_nmS e_σ104 ?_
            refine g_aload_n (pc := 218) X 1 rfl dX12_ahead_218 ?_
            refine g_iload_n (pc := 219) X 0 rfl dX12_ahead_219 ?_
            refine g_bipush (v := 59) (pc := 220) X (by decide) dX12_ahead_220 ?_
            refine g_icmp_eq (pc := 222) (tgt := 243) X dX12_ahead_222 rfl (fun c113 => ?_) (fun c113 => ?_)
            · replace h := if_t c113 h
              refine g_iconst (v := 4) (pc := 243) X rfl dX12_ahead_243 ?_
              refine g_goto (pc := 244) (tgt := 248) X dX12_ahead_244 rfl ?_
              refine g_putI (pc := 248) X k_fl_X12_133 s_92 rfl rfl rfl dX12_ahead_248 ?_
              obtain ⟨σ105, e_σ105, h⟩ := bnd_e h
              refine g_nmS e_σ105 ?_
              cases h
              exact g_vret (pc := 251) X rfl (hr _ hA) dX12_ahead_251
            · replace h := if_f c113 h
              refine g_iload_n (pc := 225) X 0 rfl dX12_ahead_225 ?_
              refine g_bipush (v := 60) (pc := 226) X (by decide) dX12_ahead_226 ?_
              refine g_icmp_eq (pc := 228) (tgt := 243) X dX12_ahead_228 rfl (fun c112 => ?_) (fun c112 => ?_)
              · replace h := if_t c112 h
                refine g_iconst (v := 4) (pc := 243) X rfl dX12_ahead_243 ?_
                refine g_goto (pc := 244) (tgt := 248) X dX12_ahead_244 rfl ?_
                refine g_putI (pc := 248) X k_fl_X12_133 s_92 rfl rfl rfl dX12_ahead_248 ?_
                obtain ⟨σ106, e_σ106, h⟩ := bnd_e h
                refine g_nmS e_σ106 ?_
                cases h
                exact g_vret (pc := 251) X rfl (hr _ hA) dX12_ahead_251
              · replace h := if_f c112 h
                refine g_iload_n (pc := 231) X 0 rfl dX12_ahead_231 ?_
                refine g_bipush (v := 62) (pc := 232) X (by decide) dX12_ahead_232 ?_
                refine g_icmp_eq (pc := 234) (tgt := 243) X dX12_ahead_234 rfl (fun c111 => ?_) (fun c111 => ?_)
                · replace h := if_t c111 h
                  refine g_iconst (v := 4) (pc := 243) X rfl dX12_ahead_243 ?_
                  refine g_goto (pc := 244) (tgt := 248) X dX12_ahead_244 rfl ?_
                  refine g_putI (pc := 248) X k_fl_X12_133 s_92 rfl rfl rfl dX12_ahead_248 ?_
                  obtain ⟨σ107, e_σ107, h⟩ := bnd_e h
                  refine g_nmS e_σ107 ?_
                  cases h
                  exact g_vret (pc := 251) X rfl (hr _ hA) dX12_ahead_251
                · replace h := if_f c111 h
                  refine g_iload_n (pc := 237) X 0 rfl dX12_ahead_237 ?_
                  refine g_bipush (v := 61) (pc := 238) X (by decide) dX12_ahead_238 ?_
                  refine g_icmp_ne (pc := 240) (tgt := 247) X dX12_ahead_240 rfl (fun c110 => ?_) (fun c110 => ?_)
                  · replace h := if_f c110 h
                    refine g_iconst (v := 1) (pc := 247) X rfl dX12_ahead_247 ?_
                    refine g_putI (pc := 248) X k_fl_X12_133 s_92 rfl rfl rfl dX12_ahead_248 ?_
                    obtain ⟨σ108, e_σ108, h⟩ := bnd_e h
                    refine g_nmS e_σ108 ?_
                    cases h
                    exact g_vret (pc := 251) X rfl (hr _ hA) dX12_ahead_251
                  · replace h := if_t c110 h
                    refine g_iconst (v := 4) (pc := 243) X rfl dX12_ahead_243 ?_
                    refine g_goto (pc := 244) (tgt := 248) X dX12_ahead_244 rfl ?_
                    refine g_putI (pc := 248) X k_fl_X12_133 s_92 rfl rfl rfl dX12_ahead_248 ?_
                    obtain ⟨σ109, e_σ109, h⟩ := bnd_e h
                    refine g_nmS e_σ109 ?_
                    cases h
                    exact g_vret (pc := 251) X rfl (hr _ hA) dX12_ahead_251
          · replace h := if_f c120 h
            refine g_aload_n (pc := 123) X 1 rfl dX12_ahead_123 ?_
            refine g_iconst (v := 0) (pc := 124) X rfl dX12_ahead_124 ?_
            refine g_putI (pc := 125) X k_fl_X12_130 s_92 rfl rfl rfl dX12_ahead_125 ?_
            obtain ⟨σ114, e_σ114, h⟩ := bnd_e h
            refine g_nmS e_σ114 ?_
            refine g_sub [1] rfl ?_
            obtain ⟨σ115, hi116, h⟩ := bd_e h
            refine tl_Mo_ahead_L128 X  hi116 ?_
            refine g_aload_n (pc := 183) X 0 rfl dX12_ahead_183 ?_
            refine g_aload_n (pc := 184) X 0 rfl dX12_ahead_184 ?_
            refine g_getI (pc := 185) X k_fl_X12_121 s_92 rfl dX12_ahead_185 ?_
            refine g_aload_n (pc := 188) X 0 rfl dX12_ahead_188 ?_
            refine g_getI (pc := 189) X k_fl_X12_127 s_92 rfl dX12_ahead_189 ?_
            refine g_isub (pc := 192) X dX12_ahead_192 ?_
            refine g_iconst (v := 4) (pc := 193) X rfl dX12_ahead_193 ?_
            refine g_icmp_le (pc := 194) (tgt := 201) X dX12_ahead_194 rfl (fun c119 => ?_) (fun c119 => ?_)
            · replace h := if_t c119 h
              refine g_iconst (v := 3) (pc := 201) X rfl dX12_ahead_201 ?_
              refine g_putI (pc := 202) X k_fl_X12_133 s_92 rfl rfl rfl dX12_ahead_202 ?_
              obtain ⟨σ117, e_σ117, h⟩ := bnd_e h
              refine g_nmS e_σ117 ?_
              refine g_goto (pc := 205) (tgt := 251) X dX12_ahead_205 rfl ?_
              cases h
              exact g_vret (pc := 251) X rfl (hr _ hA) dX12_ahead_251
            · replace h := if_f c119 h
              refine g_iconst (v := 1) (pc := 197) X rfl dX12_ahead_197 ?_
              refine g_goto (pc := 198) (tgt := 202) X dX12_ahead_198 rfl ?_
              refine g_putI (pc := 202) X k_fl_X12_133 s_92 rfl rfl rfl dX12_ahead_202 ?_
              obtain ⟨σ118, e_σ118, h⟩ := bnd_e h
              refine g_nmS e_σ118 ?_
              refine g_goto (pc := 205) (tgt := 251) X dX12_ahead_205 rfl ?_
              cases h
              exact g_vret (pc := 251) X rfl (hr _ hA) dX12_ahead_251
        · replace h := if_f c124 h
          refine g_sub [1] rfl ?_
          obtain ⟨σ121, hi122, h⟩ := bd_e h
          refine tl_Mo_ahead_L81 X  hi122 ?_
          refine g_aload_n (pc := 108) X 0 rfl dX12_ahead_108 ?_
          refine g_iconst (v := 2) (pc := 109) X rfl dX12_ahead_109 ?_
          refine g_putI (pc := 110) X k_fl_X12_133 s_92 rfl rfl rfl dX12_ahead_110 ?_
          obtain ⟨σ123, e_σ123, h⟩ := bnd_e h
          refine g_nmS e_σ123 ?_
          refine g_goto (pc := 113) (tgt := 251) X dX12_ahead_113 rfl ?_
          cases h
          exact g_vret (pc := 251) X rfl (hr _ hA) dX12_ahead_251
      · replace h := if_t c126 h
        refine g_aload_n (pc := 66) X 1 rfl dX12_ahead_66 ?_
        refine g_iconst (v := 0) (pc := 67) X rfl dX12_ahead_67 ?_
        refine g_putI (pc := 68) X k_fl_X12_133 s_92 rfl rfl rfl dX12_ahead_68 ?_
        obtain ⟨σ125, e_σ125, h⟩ := bnd_e h
        refine g_nmS e_σ125 ?_
        refine g_goto (pc := 71) (tgt := 251) X dX12_ahead_71 rfl ?_
        cases h
        exact g_vret (pc := 251) X rfl (hr _ hA) dX12_ahead_251
set_option maxRecDepth 100000 in
theorem run_Mo_ahead {V : Ev} {σ : St} {o : St}   (h : Mo_ahead σ = some o) : Rs V 1 M_X12_ahead [.ref (V.2.2.1 + 92)] σ (none, o) := by
  refine Rs.of (by decide +kernel) (Nat.le_of_ble_eq_true rfl) (fun Γ X => ?_)
  exact tm_Mo_ahead X (A := fun o1 => o1 = o)  (fun _ e => by rw [e]) h rfl
theorem dX12_isSign_0 : decode cX12_isSign 0 = .ok (.aload_n 0, 1) := by decide +kernel
theorem dX12_isSign_1 : decode cX12_isSign 1 = .ok (.getfield 133, 3) := by decide +kernel
theorem dX12_isSign_4 : decode cX12_isSign 4 = .ok (.iconst 4, 1) := by decide +kernel
theorem dX12_isSign_5 : decode cX12_isSign 5 = .ok (.if_icmp .ne 15, 3) := by decide +kernel
theorem dX12_isSign_8 : decode cX12_isSign 8 = .ok (.aload_n 0, 1) := by decide +kernel
theorem dX12_isSign_9 : decode cX12_isSign 9 = .ok (.getfield 130, 3) := by decide +kernel
theorem dX12_isSign_12 : decode cX12_isSign 12 = .ok (.iload_n 1, 1) := by decide +kernel
theorem dX12_isSign_13 : decode cX12_isSign 13 = .ok (.if_icmp .ne 7, 3) := by decide +kernel
theorem dX12_isSign_16 : decode cX12_isSign 16 = .ok (.iconst 1, 1) := by decide +kernel
theorem dX12_isSign_17 : decode cX12_isSign 17 = .ok (.goto 4, 3) := by decide +kernel
theorem dX12_isSign_20 : decode cX12_isSign 20 = .ok (.iconst 0, 1) := by decide +kernel
theorem dX12_isSign_21 : decode cX12_isSign 21 = .ok (.ireturn, 1) := by decide +kernel
noncomputable def Mo_isSign (σ : St) (p1 : Int32) : Option Int32 :=
  if (σ.1 92 12) = 4 then (if (σ.1 92 15) = p1 then (some 1) else (some 0)) else (some 0)
set_option maxRecDepth 100000 in
set_option maxHeartbeats 4000000 in
theorem tm_Mo_isSign {V : Ev} {Γ : Cn} {fin : Option Value × St} {σ : St} {p1 : Int32} {o : Int32} (X : Cx V Γ M_X12_isSign) {A : Int32 → Prop}  (hr : ∀ (r : Int32), A r → (some (.int r), σ) = fin) (h : Mo_isSign σ p1 = some o) (hA : A o) : Go V Γ M_X12_isSign (Zm V Γ 0 fin) 0 [(0, .ref (V.2.2.1 + 92)), (1, .int p1)] [] σ := by
  unfold Mo_isSign at h
  refine g_aload_n (pc := 0) X 0 rfl dX12_isSign_0 ?_
  refine g_getI (pc := 1) X k_fl_X12_133 s_92 rfl dX12_isSign_1 ?_
  refine g_iconst (v := 4) (pc := 4) X rfl dX12_isSign_4 ?_
  refine g_icmp_ne (pc := 5) (tgt := 20) X dX12_isSign_5 rfl (fun c2 => ?_) (fun c2 => ?_)
  · replace h := if_f c2 h
    refine g_iconst (v := 0) (pc := 20) X rfl dX12_isSign_20 ?_
    cases h
    exact g_iret (pc := 21) X rfl nz0.1 (hr _ hA) dX12_isSign_21
  · replace h := if_t c2 h
    refine g_aload_n (pc := 8) X 0 rfl dX12_isSign_8 ?_
    refine g_getI (pc := 9) X k_fl_X12_130 s_92 rfl dX12_isSign_9 ?_
    refine g_iload_n (pc := 12) X 1 rfl dX12_isSign_12 ?_
    refine g_icmp_ne (pc := 13) (tgt := 20) X dX12_isSign_13 rfl (fun c1 => ?_) (fun c1 => ?_)
    · replace h := if_f c1 h
      refine g_iconst (v := 0) (pc := 20) X rfl dX12_isSign_20 ?_
      cases h
      exact g_iret (pc := 21) X rfl nz0.1 (hr _ hA) dX12_isSign_21
    · replace h := if_t c1 h
      refine g_iconst (v := 1) (pc := 16) X rfl dX12_isSign_16 ?_
      refine g_goto (pc := 17) (tgt := 21) X dX12_isSign_17 rfl ?_
      cases h
      exact g_iret (pc := 21) X rfl nz1.1 (hr _ hA) dX12_isSign_21
set_option maxRecDepth 100000 in
theorem run_Mo_isSign {V : Ev} {σ : St} {p1 : Int32} {o : Int32}   (h : Mo_isSign σ p1 = some o) : Rs V 0 M_X12_isSign [.ref (V.2.2.1 + 92), .int p1] σ (some (.int o), σ) := by
  refine Rs.of (by decide +kernel) (Nat.le_of_ble_eq_true rfl) (fun Γ X => ?_)
  exact tm_Mo_isSign X (A := fun o1 => o1 = o)  (fun _ e => by rw [e]) h rfl
theorem dX12_inWords_0 : decode cX12_inWords 0 = .ok (.aload_n 0, 1) := by decide +kernel
theorem dX12_inWords_1 : decode cX12_inWords 1 = .ok (.getfield 133, 3) := by decide +kernel
theorem dX12_inWords_4 : decode cX12_inWords 4 = .ok (.iconst 2, 1) := by decide +kernel
theorem dX12_inWords_5 : decode cX12_inWords 5 = .ok (.if_icmp .eq 5, 3) := by decide +kernel
theorem dX12_inWords_8 : decode cX12_inWords 8 = .ok (.iconst (-1), 1) := by decide +kernel
theorem dX12_inWords_9 : decode cX12_inWords 9 = .ok (.ireturn, 1) := by decide +kernel
theorem dX12_inWords_10 : decode cX12_inWords 10 = .ok (.iconst 0, 1) := by decide +kernel
theorem dX12_inWords_11 : decode cX12_inWords 11 = .ok (.istore_n 2, 1) := by decide +kernel
theorem dX12_inWords_12 : decode cX12_inWords 12 = .ok (.iconst 1, 1) := by decide +kernel
theorem dX12_inWords_13 : decode cX12_inWords 13 = .ok (.istore_n 3, 1) := by decide +kernel
theorem dX12_inWords_14 : decode cX12_inWords 14 = .ok (.iload_n 3, 1) := by decide +kernel
theorem dX12_inWords_15 : decode cX12_inWords 15 = .ok (.aload_n 1, 1) := by decide +kernel
theorem dX12_inWords_16 : decode cX12_inWords 16 = .ok (.invokevirtual 148, 3) := by decide +kernel
theorem dX12_inWords_19 : decode cX12_inWords 19 = .ok (.if_icmp .ge 114, 3) := by decide +kernel
theorem dX12_inWords_22 : decode cX12_inWords 22 = .ok (.iload_n 3, 1) := by decide +kernel
theorem dX12_inWords_23 : decode cX12_inWords 23 = .ok (.istore 4, 2) := by decide +kernel
theorem dX12_inWords_25 : decode cX12_inWords 25 = .ok (.aload_n 1, 1) := by decide +kernel
theorem dX12_inWords_26 : decode cX12_inWords 26 = .ok (.iload 4, 2) := by decide +kernel
theorem dX12_inWords_28 : decode cX12_inWords 28 = .ok (.invokevirtual 154, 3) := by decide +kernel
theorem dX12_inWords_31 : decode cX12_inWords 31 = .ok (.bipush 32, 2) := by decide +kernel
theorem dX12_inWords_33 : decode cX12_inWords 33 = .ok (.if_icmp .eq 9, 3) := by decide +kernel
theorem dX12_inWords_36 : decode cX12_inWords 36 = .ok (.iinc 4 1, 3) := by decide +kernel
theorem dX12_inWords_39 : decode cX12_inWords 39 = .ok (.goto (-14), 3) := by decide +kernel
theorem dX12_inWords_42 : decode cX12_inWords 42 = .ok (.iload 4, 2) := by decide +kernel
theorem dX12_inWords_44 : decode cX12_inWords 44 = .ok (.iload_n 3, 1) := by decide +kernel
theorem dX12_inWords_45 : decode cX12_inWords 45 = .ok (.isub, 1) := by decide +kernel
theorem dX12_inWords_46 : decode cX12_inWords 46 = .ok (.aload_n 0, 1) := by decide +kernel
theorem dX12_inWords_47 : decode cX12_inWords 47 = .ok (.getfield 121, 3) := by decide +kernel
theorem dX12_inWords_50 : decode cX12_inWords 50 = .ok (.aload_n 0, 1) := by decide +kernel
theorem dX12_inWords_51 : decode cX12_inWords 51 = .ok (.getfield 127, 3) := by decide +kernel
theorem dX12_inWords_54 : decode cX12_inWords 54 = .ok (.isub, 1) := by decide +kernel
theorem dX12_inWords_55 : decode cX12_inWords 55 = .ok (.if_icmp .ne 7, 3) := by decide +kernel
theorem dX12_inWords_58 : decode cX12_inWords 58 = .ok (.iconst 1, 1) := by decide +kernel
theorem dX12_inWords_59 : decode cX12_inWords 59 = .ok (.goto 4, 3) := by decide +kernel
theorem dX12_inWords_62 : decode cX12_inWords 62 = .ok (.iconst 0, 1) := by decide +kernel
theorem dX12_inWords_63 : decode cX12_inWords 63 = .ok (.istore 5, 2) := by decide +kernel
theorem dX12_inWords_65 : decode cX12_inWords 65 = .ok (.iload_n 3, 1) := by decide +kernel
theorem dX12_inWords_66 : decode cX12_inWords 66 = .ok (.istore 6, 2) := by decide +kernel
theorem dX12_inWords_68 : decode cX12_inWords 68 = .ok (.iload 6, 2) := by decide +kernel
theorem dX12_inWords_70 : decode cX12_inWords 70 = .ok (.iload 4, 2) := by decide +kernel
theorem dX12_inWords_72 : decode cX12_inWords 72 = .ok (.if_icmp .ge 43, 3) := by decide +kernel
theorem dX12_inWords_75 : decode cX12_inWords 75 = .ok (.iload 5, 2) := by decide +kernel
theorem dX12_inWords_77 : decode cX12_inWords 77 = .ok (.ifCond .eq 38, 3) := by decide +kernel
theorem dX12_inWords_80 : decode cX12_inWords 80 = .ok (.aload_n 1, 1) := by decide +kernel
theorem dX12_inWords_81 : decode cX12_inWords 81 = .ok (.iload 6, 2) := by decide +kernel
theorem dX12_inWords_83 : decode cX12_inWords 83 = .ok (.invokevirtual 154, 3) := by decide +kernel
theorem dX12_inWords_86 : decode cX12_inWords 86 = .ok (.aload_n 0, 1) := by decide +kernel
theorem dX12_inWords_87 : decode cX12_inWords 87 = .ok (.aload_n 0, 1) := by decide +kernel
theorem dX12_inWords_88 : decode cX12_inWords 88 = .ok (.getfield 127, 3) := by decide +kernel
theorem dX12_inWords_91 : decode cX12_inWords 91 = .ok (.iload 6, 2) := by decide +kernel
theorem dX12_inWords_93 : decode cX12_inWords 93 = .ok (.iadd, 1) := by decide +kernel
theorem dX12_inWords_94 : decode cX12_inWords 94 = .ok (.iload_n 3, 1) := by decide +kernel
theorem dX12_inWords_95 : decode cX12_inWords 95 = .ok (.isub, 1) := by decide +kernel
theorem dX12_inWords_96 : decode cX12_inWords 96 = .ok (.invokevirtual 124, 3) := by decide +kernel
theorem dX12_inWords_99 : decode cX12_inWords 99 = .ok (.if_icmp .ne 7, 3) := by decide +kernel
theorem dX12_inWords_102 : decode cX12_inWords 102 = .ok (.iconst 1, 1) := by decide +kernel
theorem dX12_inWords_103 : decode cX12_inWords 103 = .ok (.goto 4, 3) := by decide +kernel
theorem dX12_inWords_106 : decode cX12_inWords 106 = .ok (.iconst 0, 1) := by decide +kernel
theorem dX12_inWords_107 : decode cX12_inWords 107 = .ok (.istore 5, 2) := by decide +kernel
theorem dX12_inWords_109 : decode cX12_inWords 109 = .ok (.iinc 6 1, 3) := by decide +kernel
theorem dX12_inWords_112 : decode cX12_inWords 112 = .ok (.goto (-44), 3) := by decide +kernel
theorem dX12_inWords_115 : decode cX12_inWords 115 = .ok (.iload 5, 2) := by decide +kernel
theorem dX12_inWords_117 : decode cX12_inWords 117 = .ok (.ifCond .eq 5, 3) := by decide +kernel
theorem dX12_inWords_120 : decode cX12_inWords 120 = .ok (.iload_n 2, 1) := by decide +kernel
theorem dX12_inWords_121 : decode cX12_inWords 121 = .ok (.ireturn, 1) := by decide +kernel
theorem dX12_inWords_122 : decode cX12_inWords 122 = .ok (.iinc 2 1, 3) := by decide +kernel
theorem dX12_inWords_125 : decode cX12_inWords 125 = .ok (.iload 4, 2) := by decide +kernel
theorem dX12_inWords_127 : decode cX12_inWords 127 = .ok (.iconst 1, 1) := by decide +kernel
theorem dX12_inWords_128 : decode cX12_inWords 128 = .ok (.iadd, 1) := by decide +kernel
theorem dX12_inWords_129 : decode cX12_inWords 129 = .ok (.istore_n 3, 1) := by decide +kernel
theorem dX12_inWords_130 : decode cX12_inWords 130 = .ok (.goto (-116), 3) := by decide +kernel
theorem dX12_inWords_133 : decode cX12_inWords 133 = .ok (.iconst (-1), 1) := by decide +kernel
theorem dX12_inWords_134 : decode cX12_inWords 134 = .ok (.ireturn, 1) := by decide +kernel
noncomputable def Mo_inWords_L25 (l2 : Int32) (l3 : Int32) (σ : St) (x4 : Int32) : Option (Int32 ⊕ Int32) :=
  chk (ix x4 (txn 1)) (if (txC 1 (tn x4)) = 32 then (some (.inr x4)) else (bnd (x4 + 1) (fun v2 => some (.inl v2))))
set_option maxRecDepth 100000 in
set_option maxHeartbeats 4000000 in
theorem tb_Mo_inWords_L25 {V : Ev} {Γ : Cn} {fin : Option Value × St} {l2 : Int32} {l3 : Int32} {σ : St} {x4 : Int32} {o : (Int32 ⊕ Int32)} (X : Cx V Γ M_X12_inWords) {A : (Int32 ⊕ Int32) → Prop}  (hb25 : ∀ (x4 : Int32), A (.inl x4) → Go V Γ M_X12_inWords (Zm V Γ 5 fin) 25 [(0, .ref (V.2.2.1 + 92)), (1, .ref (V.2.2.2 1)), (2, .int l2), (3, .int l3), (4, .int x4)] [] σ) (hx25 : ∀ (x4 : Int32), A (.inr x4) → Go V Γ M_X12_inWords (Zm V Γ 5 fin) 42 [(0, .ref (V.2.2.1 + 92)), (1, .ref (V.2.2.2 1)), (2, .int l2), (3, .int l3), (4, .int x4)] [] σ) (h : Mo_inWords_L25 l2 l3 σ x4 = some o) (hA : A o) : Go V Γ M_X12_inWords (Zm V Γ 5 fin) 25 [(0, .ref (V.2.2.1 + 92)), (1, .ref (V.2.2.2 1)), (2, .int l2), (3, .int l3), (4, .int x4)] [] σ := by
  unfold Mo_inWords_L25 at h
  refine g_aload_n (pc := 25) X 1 rfl dX12_inWords_25 ?_
  refine g_iload (pc := 26) X 4 rfl dX12_inWords_26 ?_
  obtain ⟨c1, h⟩ := chk_e h
  refine g_sch (pc := 28) X (i := 1) (Nat.le_of_ble_eq_true rfl) k_ml_X12_154 c1 ⟨Nat.le_of_ble_eq_true rfl, Nat.le_of_ble_eq_true rfl⟩ ⟨Nat.le_refl _, Nat.le_refl _⟩ (Nat.le_of_ble_eq_true rfl) dX12_inWords_28 ?_
  refine g_bipush (v := 32) (pc := 31) X (by decide) dX12_inWords_31 ?_
  refine g_icmp_eq (pc := 33) (tgt := 42) X dX12_inWords_33 rfl (fun c3 => ?_) (fun c3 => ?_)
  · replace h := if_t c3 h
    refine g_sub [0, 1, 2, 3, 4] rfl ?_
    cases h
    exact hx25 _ hA
  · replace h := if_f c3 h
    obtain ⟨v2, e_v2, h⟩ := bnd_e h
    refine g_iinc (pc := 36) (v := v2) X [(4, .int v2), (0, .ref (V.2.2.1 + 92)), (1, .ref (V.2.2.2 1)), (2, .int l2), (3, .int l3)] 4 rfl (by rw [e_v2]; rfl) (Nat.le_of_ble_eq_true rfl) rfl dX12_inWords_36 ?_
    refine g_goto (pc := 39) (tgt := 25) X dX12_inWords_39 rfl ?_
    refine g_sub [1, 2, 3, 4, 0] rfl ?_
    cases h
    exact hb25 _ hA
set_option maxRecDepth 100000 in
theorem tl_Mo_inWords_L25 {V : Ev} {Γ : Cn} {fin : Option Value × St} {l2 : Int32} {l3 : Int32} {σ : St} {x4 : Int32} (X : Cx V Γ M_X12_inWords)  {y4 : Int32} {n : Nat} (h : iter (fun s : Int32 => Mo_inWords_L25 l2 l3 σ s) n x4 = some y4) (hK : Go V Γ M_X12_inWords (Zm V Γ 5 fin) 42 [(0, .ref (V.2.2.1 + 92)), (1, .ref (V.2.2.2 1)), (2, .int l2), (3, .int l3), (4, .int y4)] [] σ) : Go V Γ M_X12_inWords (Zm V Γ 5 fin) 25 [(0, .ref (V.2.2.1 + 92)), (1, .ref (V.2.2.2 1)), (2, .int l2), (3, .int l3), (4, .int x4)] [] σ := by
  refine iter_go (G := (fun s : Int32 => Go V Γ M_X12_inWords (Zm V Γ 5 fin) 25 [(0, .ref (V.2.2.1 + 92)), (1, .ref (V.2.2.2 1)), (2, .int l2), (3, .int l3), (4, .int s)] [] σ)) (fun s o ho hS => ?_) n x4 h
  exact tb_Mo_inWords_L25 X  (fun _ h9 => h9) (fun _ he => by cases he; exact hK) ho hS
noncomputable def Mo_inWords_L68 (l2 : Int32) (l3 : Int32) (l4 : Int32) (σ : St) (x5 : Int32) (x6 : Int32) : Option ((Int32 × Int32) ⊕ Int32) :=
  if l4 ≤ x6 then (some (.inr x5)) else (if x5 = 0 then (some (.inr x5)) else (chk (ix x6 (txn 1)) (bd (Mo_byteAt σ (((σ.1 92 13) + x6) - l3)) (fun r8 => if (txC 1 (tn x6)) = r8 then (bnd (x6 + 1) (fun v10 => some (.inl (1, v10)))) else (bnd (x6 + 1) (fun v9 => some (.inl (0, v9))))))))
set_option maxRecDepth 100000 in
set_option maxHeartbeats 4000000 in
theorem tb_Mo_inWords_L68 {V : Ev} {Γ : Cn} {fin : Option Value × St} {l2 : Int32} {l3 : Int32} {l4 : Int32} {σ : St} {x5 : Int32} {x6 : Int32} {o : ((Int32 × Int32) ⊕ Int32)} (X : Cx V Γ M_X12_inWords) {A : ((Int32 × Int32) ⊕ Int32) → Prop}  (hb68 : ∀ (x5 : Int32) (x6 : Int32), A (.inl (x5, x6)) → Go V Γ M_X12_inWords (Zm V Γ 5 fin) 68 [(0, .ref (V.2.2.1 + 92)), (1, .ref (V.2.2.2 1)), (2, .int l2), (3, .int l3), (4, .int l4), (5, .int x5), (6, .int x6)] [] σ) (hx68 : ∀ (x5 : Int32), A (.inr x5) → Go V Γ M_X12_inWords (Zm V Γ 5 fin) 115 [(0, .ref (V.2.2.1 + 92)), (1, .ref (V.2.2.2 1)), (2, .int l2), (4, .int l4), (5, .int x5)] [] σ) (h : Mo_inWords_L68 l2 l3 l4 σ x5 x6 = some o) (hA : A o) : Go V Γ M_X12_inWords (Zm V Γ 5 fin) 68 [(0, .ref (V.2.2.1 + 92)), (1, .ref (V.2.2.2 1)), (2, .int l2), (3, .int l3), (4, .int l4), (5, .int x5), (6, .int x6)] [] σ := by
  unfold Mo_inWords_L68 at h
  refine g_iload (pc := 68) X 6 rfl dX12_inWords_68 ?_
  refine g_iload (pc := 70) X 4 rfl dX12_inWords_70 ?_
  refine g_icmp_ge (pc := 72) (tgt := 115) X dX12_inWords_72 rfl (fun c13 => ?_) (fun c13 => ?_)
  · replace h := if_t c13 h
    refine g_sub [0, 1, 2, 4, 5] rfl ?_
    cases h
    exact hx68 _ hA
  · replace h := if_f c13 h
    refine g_iload (pc := 75) X 5 rfl dX12_inWords_75 ?_
    refine g_if_eq (pc := 77) (tgt := 115) X dX12_inWords_77 rfl (fun c12 => ?_) (fun c12 => ?_)
    · replace h := if_t c12 h
      refine g_sub [0, 1, 2, 4, 5] rfl ?_
      cases h
      exact hx68 _ hA
    · replace h := if_f c12 h
      refine g_aload_n (pc := 80) X 1 rfl dX12_inWords_80 ?_
      refine g_iload (pc := 81) X 6 rfl dX12_inWords_81 ?_
      obtain ⟨c6, h⟩ := chk_e h
      refine g_sch (pc := 83) X (i := 1) (Nat.le_of_ble_eq_true rfl) k_ml_X12_154 c6 ⟨Nat.le_of_ble_eq_true rfl, Nat.le_of_ble_eq_true rfl⟩ ⟨Nat.le_refl _, Nat.le_refl _⟩ (Nat.le_of_ble_eq_true rfl) dX12_inWords_83 ?_
      refine g_aload_n (pc := 86) X 0 rfl dX12_inWords_86 ?_
      refine g_aload_n (pc := 87) X 0 rfl dX12_inWords_87 ?_
      refine g_getI (pc := 88) X k_fl_X12_127 s_92 rfl dX12_inWords_88 ?_
      refine g_iload (pc := 91) X 6 rfl dX12_inWords_91 ?_
      refine g_iadd (pc := 93) X dX12_inWords_93 ?_
      refine g_iload_n (pc := 94) X 3 rfl dX12_inWords_94 ?_
      refine g_isub (pc := 95) X dX12_inWords_95 ?_
      obtain ⟨r8, hc7, h⟩ := bd_e h
      refine g_callV (pc := 96) X k_ml_X12_124 (run_Mo_byteAt  hc7) s_92 rfl (room_ok (Nat.le_of_ble_eq_true rfl) (Nat.le_of_ble_eq_true rfl)) ⟨Nat.le_refl _, Nat.le_refl _⟩ _ rfl (Nat.le_of_ble_eq_true rfl) dX12_inWords_96 ?_
      show Go V Γ M_X12_inWords (Zm V Γ 5 fin) 99 [(0, .ref (V.2.2.1 + 92)), (1, .ref (V.2.2.2 1)), (2, .int l2), (3, .int l3), (4, .int l4), (5, .int x5), (6, .int x6)] [.int r8, .int (txC 1 (tn x6))] σ
      refine g_icmp_ne (pc := 99) (tgt := 106) X dX12_inWords_99 rfl (fun c11 => ?_) (fun c11 => ?_)
      · replace h := if_f c11 h
        refine g_iconst (v := 0) (pc := 106) X rfl dX12_inWords_106 ?_
        refine g_istore (pc := 107) X [(5, .int 0), (0, .ref (V.2.2.1 + 92)), (1, .ref (V.2.2.2 1)), (2, .int l2), (3, .int l3), (4, .int l4), (6, .int x6)] (Nat.le_of_ble_eq_true rfl) rfl dX12_inWords_107 ?_
        obtain ⟨v9, e_v9, h⟩ := bnd_e h
        refine g_iinc (pc := 109) (v := v9) X [(6, .int v9), (5, .int 0), (0, .ref (V.2.2.1 + 92)), (1, .ref (V.2.2.2 1)), (2, .int l2), (3, .int l3), (4, .int l4)] 6 rfl (by rw [e_v9]; rfl) (Nat.le_of_ble_eq_true rfl) rfl dX12_inWords_109 ?_
        refine g_goto (pc := 112) (tgt := 68) X dX12_inWords_112 rfl ?_
        refine g_sub [2, 3, 4, 5, 6, 1, 0] rfl ?_
        cases h
        exact hb68 _ _ hA
      · replace h := if_t c11 h
        refine g_iconst (v := 1) (pc := 102) X rfl dX12_inWords_102 ?_
        refine g_goto (pc := 103) (tgt := 107) X dX12_inWords_103 rfl ?_
        refine g_istore (pc := 107) X [(5, .int 1), (0, .ref (V.2.2.1 + 92)), (1, .ref (V.2.2.2 1)), (2, .int l2), (3, .int l3), (4, .int l4), (6, .int x6)] (Nat.le_of_ble_eq_true rfl) rfl dX12_inWords_107 ?_
        obtain ⟨v10, e_v10, h⟩ := bnd_e h
        refine g_iinc (pc := 109) (v := v10) X [(6, .int v10), (5, .int 1), (0, .ref (V.2.2.1 + 92)), (1, .ref (V.2.2.2 1)), (2, .int l2), (3, .int l3), (4, .int l4)] 6 rfl (by rw [e_v10]; rfl) (Nat.le_of_ble_eq_true rfl) rfl dX12_inWords_109 ?_
        refine g_goto (pc := 112) (tgt := 68) X dX12_inWords_112 rfl ?_
        refine g_sub [2, 3, 4, 5, 6, 1, 0] rfl ?_
        cases h
        exact hb68 _ _ hA
set_option maxRecDepth 100000 in
theorem tl_Mo_inWords_L68 {V : Ev} {Γ : Cn} {fin : Option Value × St} {l2 : Int32} {l3 : Int32} {l4 : Int32} {σ : St} {x5 : Int32} {x6 : Int32} (X : Cx V Γ M_X12_inWords)  {y5 : Int32} {n : Nat} (h : iter (fun s : (Int32 × Int32) => Mo_inWords_L68 l2 l3 l4 σ s.1 s.2) n (x5, x6) = some y5) (hK : Go V Γ M_X12_inWords (Zm V Γ 5 fin) 115 [(0, .ref (V.2.2.1 + 92)), (1, .ref (V.2.2.2 1)), (2, .int l2), (4, .int l4), (5, .int y5)] [] σ) : Go V Γ M_X12_inWords (Zm V Γ 5 fin) 68 [(0, .ref (V.2.2.1 + 92)), (1, .ref (V.2.2.2 1)), (2, .int l2), (3, .int l3), (4, .int l4), (5, .int x5), (6, .int x6)] [] σ := by
  refine iter_go (G := (fun s : (Int32 × Int32) => Go V Γ M_X12_inWords (Zm V Γ 5 fin) 68 [(0, .ref (V.2.2.1 + 92)), (1, .ref (V.2.2.2 1)), (2, .int l2), (3, .int l3), (4, .int l4), (5, .int s.1), (6, .int s.2)] [] σ)) (fun s o ho hS => ?_) n (x5, x6) h
  exact tb_Mo_inWords_L68 X  (fun _ _ h9 => h9) (fun _ he => by cases he; exact hK) ho hS
noncomputable def Mo_inWords_J115_14 (σ : St) (l2 : Int32) (l4 : Int32) (l5 : Int32) : Option (((Int32 × Int32) ⊕ Int32)) :=
  if l5 = 0 then (bnd (l2 + 1) (fun v16 => bnd ((l4 + 1)) (fun v17 => some (.inl (v16, v17))))) else (some (.inr l2))
set_option maxRecDepth 100000 in
set_option maxHeartbeats 4000000 in
theorem tj_Mo_inWords_J115_14 {V : Ev} {Γ : Cn} {fin : Option Value × St} {σ : St} {l2 : Int32} {l4 : Int32} {l5 : Int32} {o : ((Int32 × Int32) ⊕ Int32)} (X : Cx V Γ M_X12_inWords) {A : ((Int32 × Int32) ⊕ Int32) → Prop}  (hr : ∀ (r : Int32), A (.inr r) → (some (.int r), σ) = fin) (hb14 : ∀ (x2 : Int32) (x3 : Int32), A (.inl (x2, x3)) → Go V Γ M_X12_inWords (Zm V Γ 5 fin) 14 [(0, .ref (V.2.2.1 + 92)), (1, .ref (V.2.2.2 1)), (2, .int x2), (3, .int x3)] [] σ) (h : Mo_inWords_J115_14 σ l2 l4 l5 = some o) (hA : A o) : Go V Γ M_X12_inWords (Zm V Γ 5 fin) 115 [(0, .ref (V.2.2.1 + 92)), (1, .ref (V.2.2.2 1)), (2, .int l2), (4, .int l4), (5, .int l5)] [] σ := by
  unfold Mo_inWords_J115_14 at h
  refine g_iload (pc := 115) X 4 rfl dX12_inWords_115 ?_
  refine g_if_eq (pc := 117) (tgt := 122) X dX12_inWords_117 rfl (fun c18 => ?_) (fun c18 => ?_)
  · replace h := if_t c18 h
    obtain ⟨v16, e_v16, h⟩ := bnd_e h
    refine g_iinc (pc := 122) (v := v16) X [(2, .int v16), (0, .ref (V.2.2.1 + 92)), (1, .ref (V.2.2.2 1)), (4, .int l4), (5, .int l5)] 2 rfl (by rw [e_v16]; rfl) (Nat.le_of_ble_eq_true rfl) rfl dX12_inWords_122 ?_
    refine g_iload (pc := 125) X 3 rfl dX12_inWords_125 ?_
    refine g_iconst (v := 1) (pc := 127) X rfl dX12_inWords_127 ?_
    refine g_iadd (pc := 128) X dX12_inWords_128 ?_
    obtain ⟨v17, e_v17, h⟩ := bnd_e h
    refine g_nmI e_v17 ?_
    refine g_istore_n (pc := 129) X [(3, .int v17), (2, .int v16), (0, .ref (V.2.2.1 + 92)), (1, .ref (V.2.2.2 1)), (4, .int l4), (5, .int l5)] rfl (Nat.le_of_ble_eq_true rfl) rfl dX12_inWords_129 ?_
    refine g_goto (pc := 130) (tgt := 14) X dX12_inWords_130 rfl ?_
    refine g_sub [2, 3, 1, 0] rfl ?_
    cases h
    exact hb14 _ _ hA
  · replace h := if_f c18 h
    refine g_iload_n (pc := 120) X 2 rfl dX12_inWords_120 ?_
    cases h
    exact g_iret (pc := 121) X rfl rfl (hr _ hA) dX12_inWords_121
noncomputable def Mo_inWords_L14 (σ : St) (x2 : Int32) (x3 : Int32) : Option ((Int32 × Int32) ⊕ Int32) :=
  if (Int32.ofNat (txn 1)) ≤ x3 then (some (.inr (-1))) else (bd (iter (fun s : Int32 => Mo_inWords_L25 x2 x3 σ s) FUEL x3) (fun v4 => if (v4 - x3) = ((σ.1 92 14) - (σ.1 92 13)) then (bd (iter (fun s : (Int32 × Int32) => Mo_inWords_L68 x2 x3 v4 σ s.1 s.2) FUEL (1, x3)) (fun v19 => Mo_inWords_J115_14 σ x2 v4 v19)) else (bd (iter (fun s : (Int32 × Int32) => Mo_inWords_L68 x2 x3 v4 σ s.1 s.2) FUEL (0, x3)) (fun v14 => Mo_inWords_J115_14 σ x2 v4 v14))))
set_option maxRecDepth 100000 in
set_option maxHeartbeats 4000000 in
theorem tb_Mo_inWords_L14 {V : Ev} {Γ : Cn} {fin : Option Value × St} {σ : St} {x2 : Int32} {x3 : Int32} {o : ((Int32 × Int32) ⊕ Int32)} (X : Cx V Γ M_X12_inWords) {A : ((Int32 × Int32) ⊕ Int32) → Prop}  (hr : ∀ (r : Int32), A (.inr r) → (some (.int r), σ) = fin) (hb14 : ∀ (x2 : Int32) (x3 : Int32), A (.inl (x2, x3)) → Go V Γ M_X12_inWords (Zm V Γ 5 fin) 14 [(0, .ref (V.2.2.1 + 92)), (1, .ref (V.2.2.2 1)), (2, .int x2), (3, .int x3)] [] σ) (h : Mo_inWords_L14 σ x2 x3 = some o) (hA : A o) : Go V Γ M_X12_inWords (Zm V Γ 5 fin) 14 [(0, .ref (V.2.2.1 + 92)), (1, .ref (V.2.2.2 1)), (2, .int x2), (3, .int x3)] [] σ := by
  unfold Mo_inWords_L14 at h
  refine g_iload_n (pc := 14) X 3 rfl dX12_inWords_14 ?_
  refine g_aload_n (pc := 15) X 1 rfl dX12_inWords_15 ?_
  refine g_slen (pc := 16) X (i := 1) (Nat.le_of_ble_eq_true rfl) k_ml_X12_148 ⟨Nat.le_of_ble_eq_true rfl, Nat.le_of_ble_eq_true rfl⟩ ⟨Nat.le_refl _, Nat.le_refl _⟩ (Nat.le_of_ble_eq_true rfl) dX12_inWords_16 ?_
  refine g_icmp_ge (pc := 19) (tgt := 133) X dX12_inWords_19 rfl (fun c22 => ?_) (fun c22 => ?_)
  · replace h := if_t c22 h
    refine g_iconst (v := (-1)) (pc := 133) X rfl dX12_inWords_133 ?_
    cases h
    exact g_iret (pc := 134) X rfl rfl (hr _ hA) dX12_inWords_134
  · replace h := if_f c22 h
    refine g_iload_n (pc := 22) X 3 rfl dX12_inWords_22 ?_
    refine g_istore (pc := 23) X [(4, .int x3), (0, .ref (V.2.2.1 + 92)), (1, .ref (V.2.2.2 1)), (2, .int x2), (3, .int x3)] (Nat.le_of_ble_eq_true rfl) rfl dX12_inWords_23 ?_
    refine g_sub [1, 2, 3, 4, 0] rfl ?_
    obtain ⟨v4, hi5, h⟩ := bd_e h
    refine tl_Mo_inWords_L25 X  hi5 ?_
    refine g_iload (pc := 42) X 4 rfl dX12_inWords_42 ?_
    refine g_iload_n (pc := 44) X 3 rfl dX12_inWords_44 ?_
    refine g_isub (pc := 45) X dX12_inWords_45 ?_
    refine g_aload_n (pc := 46) X 0 rfl dX12_inWords_46 ?_
    refine g_getI (pc := 47) X k_fl_X12_121 s_92 rfl dX12_inWords_47 ?_
    refine g_aload_n (pc := 50) X 0 rfl dX12_inWords_50 ?_
    refine g_getI (pc := 51) X k_fl_X12_127 s_92 rfl dX12_inWords_51 ?_
    refine g_isub (pc := 54) X dX12_inWords_54 ?_
    refine g_icmp_ne (pc := 55) (tgt := 62) X dX12_inWords_55 rfl (fun c21 => ?_) (fun c21 => ?_)
    · replace h := if_f c21 h
      refine g_iconst (v := 0) (pc := 62) X rfl dX12_inWords_62 ?_
      refine g_istore (pc := 63) X [(5, .int 0), (0, .ref (V.2.2.1 + 92)), (1, .ref (V.2.2.2 1)), (2, .int x2), (3, .int x3), (4, .int v4)] (Nat.le_of_ble_eq_true rfl) rfl dX12_inWords_63 ?_
      refine g_iload_n (pc := 65) X 4 rfl dX12_inWords_65 ?_
      refine g_istore (pc := 66) X [(6, .int x3), (5, .int 0), (0, .ref (V.2.2.1 + 92)), (1, .ref (V.2.2.2 1)), (2, .int x2), (3, .int x3), (4, .int v4)] (Nat.le_of_ble_eq_true rfl) rfl dX12_inWords_66 ?_
      refine g_sub [2, 3, 4, 5, 6, 1, 0] rfl ?_
      obtain ⟨v14, hi15, h⟩ := bd_e h
      refine tl_Mo_inWords_L68 X  hi15 ?_
      refine g_sub [0, 1, 2, 3, 4] rfl ?_
      exact tj_Mo_inWords_J115_14 X  hr hb14 h hA
    · replace h := if_t c21 h
      refine g_iconst (v := 1) (pc := 58) X rfl dX12_inWords_58 ?_
      refine g_goto (pc := 59) (tgt := 63) X dX12_inWords_59 rfl ?_
      refine g_istore (pc := 63) X [(5, .int 1), (0, .ref (V.2.2.1 + 92)), (1, .ref (V.2.2.2 1)), (2, .int x2), (3, .int x3), (4, .int v4)] (Nat.le_of_ble_eq_true rfl) rfl dX12_inWords_63 ?_
      refine g_iload_n (pc := 65) X 4 rfl dX12_inWords_65 ?_
      refine g_istore (pc := 66) X [(6, .int x3), (5, .int 1), (0, .ref (V.2.2.1 + 92)), (1, .ref (V.2.2.2 1)), (2, .int x2), (3, .int x3), (4, .int v4)] (Nat.le_of_ble_eq_true rfl) rfl dX12_inWords_66 ?_
      refine g_sub [2, 3, 4, 5, 6, 1, 0] rfl ?_
      obtain ⟨v19, hi20, h⟩ := bd_e h
      refine tl_Mo_inWords_L68 X  hi20 ?_
      refine g_sub [0, 1, 2, 3, 4] rfl ?_
      exact tj_Mo_inWords_J115_14 X  hr hb14 h hA
set_option maxRecDepth 100000 in
theorem tl_Mo_inWords_L14 {V : Ev} {Γ : Cn} {fin : Option Value × St} {σ : St} {x2 : Int32} {x3 : Int32} (X : Cx V Γ M_X12_inWords)  {e : Int32} {A : Int32 → Prop} (hr : ∀ (r : Int32), A r → (some (.int r), σ) = fin) {n : Nat} (h : iter (fun s : (Int32 × Int32) => Mo_inWords_L14 σ s.1 s.2) n (x2, x3) = some e) (hA : A e) : Go V Γ M_X12_inWords (Zm V Γ 5 fin) 14 [(0, .ref (V.2.2.1 + 92)), (1, .ref (V.2.2.2 1)), (2, .int x2), (3, .int x3)] [] σ := by
  refine iter_go (G := (fun s : (Int32 × Int32) => Go V Γ M_X12_inWords (Zm V Γ 5 fin) 14 [(0, .ref (V.2.2.1 + 92)), (1, .ref (V.2.2.2 1)), (2, .int s.1), (3, .int s.2)] [] σ)) (fun s o ho hS => ?_) n (x2, x3) h
  exact tb_Mo_inWords_L14 X  (fun z0 he => hr z0 (by rw [he]; exact hA)) (fun _ _ h9 => h9) ho hS
noncomputable def Mo_inWords (σ : St) : Option Int32 :=
  if (σ.1 92 12) = 2 then (iter (fun s : (Int32 × Int32) => Mo_inWords_L14 σ s.1 s.2) FUEL (0, 1)) else (some (-1))
set_option maxRecDepth 100000 in
set_option maxHeartbeats 4000000 in
theorem tm_Mo_inWords {V : Ev} {Γ : Cn} {fin : Option Value × St} {σ : St} {o : Int32} (X : Cx V Γ M_X12_inWords) {A : Int32 → Prop}  (hr : ∀ (r : Int32), A r → (some (.int r), σ) = fin) (h : Mo_inWords σ = some o) (hA : A o) : Go V Γ M_X12_inWords (Zm V Γ 5 fin) 0 [(0, .ref (V.2.2.1 + 92)), (1, .ref (V.2.2.2 1))] [] σ := by
  unfold Mo_inWords at h
  refine g_aload_n (pc := 0) X 0 rfl dX12_inWords_0 ?_
  refine g_getI (pc := 1) X k_fl_X12_133 s_92 rfl dX12_inWords_1 ?_
  refine g_iconst (v := 2) (pc := 4) X rfl dX12_inWords_4 ?_
  refine g_icmp_eq (pc := 5) (tgt := 10) X dX12_inWords_5 rfl (fun c23 => ?_) (fun c23 => ?_)
  · replace h := if_t c23 h
    refine g_iconst (v := 0) (pc := 10) X rfl dX12_inWords_10 ?_
    refine g_istore_n (pc := 11) X [(2, .int 0), (0, .ref (V.2.2.1 + 92)), (1, .ref (V.2.2.2 1))] rfl (Nat.le_of_ble_eq_true rfl) rfl dX12_inWords_11 ?_
    refine g_iconst (v := 1) (pc := 12) X rfl dX12_inWords_12 ?_
    refine g_istore_n (pc := 13) X [(3, .int 1), (2, .int 0), (0, .ref (V.2.2.1 + 92)), (1, .ref (V.2.2.2 1))] rfl (Nat.le_of_ble_eq_true rfl) rfl dX12_inWords_13 ?_
    refine g_sub [2, 3, 1, 0] rfl ?_
    exact tl_Mo_inWords_L14 X  hr h hA
  · replace h := if_f c23 h
    refine g_iconst (v := (-1)) (pc := 8) X rfl dX12_inWords_8 ?_
    cases h
    exact g_iret (pc := 9) X rfl rfl (hr _ hA) dX12_inWords_9
set_option maxRecDepth 100000 in
theorem run_Mo_inWords {V : Ev} {σ : St} {o : Int32}   (h : Mo_inWords σ = some o) : Rs V 5 M_X12_inWords [.ref (V.2.2.1 + 92), .ref (V.2.2.2 1)] σ (some (.int o), σ) := by
  refine Rs.of (by decide +kernel) (Nat.le_of_ble_eq_true rfl) (fun Γ X => ?_)
  exact tm_Mo_inWords X (A := fun o1 => o1 = o)  (fun _ e => by rw [e]) h rfl
theorem dX12_fails_0 : decode cX12_fails 0 = .ok (.aload_n 0, 1) := by decide +kernel
theorem dX12_fails_1 : decode cX12_fails 1 = .ok (.getfield 158, 3) := by decide +kernel
theorem dX12_fails_4 : decode cX12_fails 4 = .ok (.ifCond .ne 28, 3) := by decide +kernel
theorem dX12_fails_7 : decode cX12_fails 7 = .ok (.aload_n 0, 1) := by decide +kernel
theorem dX12_fails_8 : decode cX12_fails 8 = .ok (.aload_n 0, 1) := by decide +kernel
theorem dX12_fails_9 : decode cX12_fails 9 = .ok (.getfield 133, 3) := by decide +kernel
theorem dX12_fails_12 : decode cX12_fails 12 = .ok (.iconst 1, 1) := by decide +kernel
theorem dX12_fails_13 : decode cX12_fails 13 = .ok (.if_icmp .ne 7, 3) := by decide +kernel
theorem dX12_fails_16 : decode cX12_fails 16 = .ok (.iconst 1, 1) := by decide +kernel
theorem dX12_fails_17 : decode cX12_fails 17 = .ok (.goto 4, 3) := by decide +kernel
theorem dX12_fails_20 : decode cX12_fails 20 = .ok (.iload_n 1, 1) := by decide +kernel
theorem dX12_fails_21 : decode cX12_fails 21 = .ok (.putfield 158, 3) := by decide +kernel
theorem dX12_fails_24 : decode cX12_fails 24 = .ok (.aload_n 0, 1) := by decide +kernel
theorem dX12_fails_25 : decode cX12_fails 25 = .ok (.aload_n 0, 1) := by decide +kernel
theorem dX12_fails_26 : decode cX12_fails 26 = .ok (.getfield 127, 3) := by decide +kernel
theorem dX12_fails_29 : decode cX12_fails 29 = .ok (.putfield 41, 3) := by decide +kernel
theorem dX12_fails_32 : decode cX12_fails 32 = .ok (.iconst 0, 1) := by decide +kernel
theorem dX12_fails_33 : decode cX12_fails 33 = .ok (.ireturn, 1) := by decide +kernel
noncomputable def Mo_fails (σ : St) (p1 : Int32) : Option (Int32 × St) :=
  if (σ.1 92 18) = 0 then (if (σ.1 92 12) = 1 then (bnd (wI σ 92 18 1) (fun σ3 => bnd (wI σ3 92 17 (σ3.1 92 13)) (fun σ4 => some (0, σ4)))) else (bnd (wI σ 92 18 p1) (fun σ1 => bnd (wI σ1 92 17 (σ1.1 92 13)) (fun σ2 => some (0, σ2))))) else (some (0, σ))
set_option maxRecDepth 100000 in
set_option maxHeartbeats 4000000 in
theorem tm_Mo_fails {V : Ev} {Γ : Cn} {fin : Option Value × St} {σ : St} {p1 : Int32} {o : (Int32 × St)} (X : Cx V Γ M_X12_fails) {A : (Int32 × St) → Prop}  (hr : ∀ (r : Int32) (σ9 : St), A (r, σ9) → (some (.int r), σ9) = fin) (h : Mo_fails σ p1 = some o) (hA : A o) : Go V Γ M_X12_fails (Zm V Γ 0 fin) 0 [(0, .ref (V.2.2.1 + 92)), (1, .int p1)] [] σ := by
  unfold Mo_fails at h
  refine g_aload_n (pc := 0) X 0 rfl dX12_fails_0 ?_
  refine g_getI (pc := 1) X k_fl_X12_158 s_92 rfl dX12_fails_1 ?_
  refine g_if_ne (pc := 4) (tgt := 32) X dX12_fails_4 rfl (fun c6 => ?_) (fun c6 => ?_)
  · replace h := if_f c6 h
    refine g_iconst (v := 0) (pc := 32) X rfl dX12_fails_32 ?_
    cases h
    exact g_iret (pc := 33) X rfl nz0.1 (hr _ _ hA) dX12_fails_33
  · replace h := if_t c6 h
    refine g_aload_n (pc := 7) X 0 rfl dX12_fails_7 ?_
    refine g_aload_n (pc := 8) X 0 rfl dX12_fails_8 ?_
    refine g_getI (pc := 9) X k_fl_X12_133 s_92 rfl dX12_fails_9 ?_
    refine g_iconst (v := 1) (pc := 12) X rfl dX12_fails_12 ?_
    refine g_icmp_ne (pc := 13) (tgt := 20) X dX12_fails_13 rfl (fun c5 => ?_) (fun c5 => ?_)
    · replace h := if_f c5 h
      refine g_iload_n (pc := 20) X 1 rfl dX12_fails_20 ?_
      refine g_putI (pc := 21) X k_fl_X12_158 s_92 rfl rfl rfl dX12_fails_21 ?_
      obtain ⟨σ1, e_σ1, h⟩ := bnd_e h
      refine g_nmS e_σ1 ?_
      refine g_aload_n (pc := 24) X 0 rfl dX12_fails_24 ?_
      refine g_aload_n (pc := 25) X 0 rfl dX12_fails_25 ?_
      refine g_getI (pc := 26) X k_fl_X12_127 s_92 rfl dX12_fails_26 ?_
      refine g_putI (pc := 29) X k_fl_X12_41 s_92 rfl rfl rfl dX12_fails_29 ?_
      obtain ⟨σ2, e_σ2, h⟩ := bnd_e h
      refine g_nmS e_σ2 ?_
      refine g_iconst (v := 0) (pc := 32) X rfl dX12_fails_32 ?_
      cases h
      exact g_iret (pc := 33) X rfl nz0.1 (hr _ _ hA) dX12_fails_33
    · replace h := if_t c5 h
      refine g_iconst (v := 1) (pc := 16) X rfl dX12_fails_16 ?_
      refine g_goto (pc := 17) (tgt := 21) X dX12_fails_17 rfl ?_
      refine g_putI (pc := 21) X k_fl_X12_158 s_92 rfl rfl rfl dX12_fails_21 ?_
      obtain ⟨σ3, e_σ3, h⟩ := bnd_e h
      refine g_nmS e_σ3 ?_
      refine g_aload_n (pc := 24) X 0 rfl dX12_fails_24 ?_
      refine g_aload_n (pc := 25) X 0 rfl dX12_fails_25 ?_
      refine g_getI (pc := 26) X k_fl_X12_127 s_92 rfl dX12_fails_26 ?_
      refine g_putI (pc := 29) X k_fl_X12_41 s_92 rfl rfl rfl dX12_fails_29 ?_
      obtain ⟨σ4, e_σ4, h⟩ := bnd_e h
      refine g_nmS e_σ4 ?_
      refine g_iconst (v := 0) (pc := 32) X rfl dX12_fails_32 ?_
      cases h
      exact g_iret (pc := 33) X rfl nz0.1 (hr _ _ hA) dX12_fails_33
set_option maxRecDepth 100000 in
theorem run_Mo_fails {V : Ev} {σ : St} {p1 : Int32} {o : (Int32 × St)}   (h : Mo_fails σ p1 = some o) : Rs V 0 M_X12_fails [.ref (V.2.2.1 + 92), .int p1] σ (some (.int o.1), o.2) := by
  refine Rs.of (by decide +kernel) (Nat.le_of_ble_eq_true rfl) (fun Γ X => ?_)
  exact tm_Mo_fails X (A := fun o1 => o1 = o)  (fun _ _ e => by rw [← e]) h rfl
theorem dX12_begins_0 : decode cX12_begins 0 = .ok (.iload_n 1, 1) := by decide +kernel
theorem dX12_begins_1 : decode cX12_begins 1 = .ok (.ifCond .lt 16, 3) := by decide +kernel
theorem dX12_begins_4 : decode cX12_begins 4 = .ok (.iload_n 1, 1) := by decide +kernel
theorem dX12_begins_5 : decode cX12_begins 5 = .ok (.aload_n 0, 1) := by decide +kernel
theorem dX12_begins_6 : decode cX12_begins 6 = .ok (.getfield 112, 3) := by decide +kernel
theorem dX12_begins_9 : decode cX12_begins 9 = .ok (.if_icmp .gt 8, 3) := by decide +kernel
theorem dX12_begins_12 : decode cX12_begins 12 = .ok (.iload_n 1, 1) := by decide +kernel
theorem dX12_begins_13 : decode cX12_begins 13 = .ok (.iload_n 2, 1) := by decide +kernel
theorem dX12_begins_14 : decode cX12_begins 14 = .ok (.if_icmp .le 5, 3) := by decide +kernel
theorem dX12_begins_17 : decode cX12_begins 17 = .ok (.iconst 0, 1) := by decide +kernel
theorem dX12_begins_18 : decode cX12_begins 18 = .ok (.ireturn, 1) := by decide +kernel
theorem dX12_begins_19 : decode cX12_begins 19 = .ok (.aload_n 0, 1) := by decide +kernel
theorem dX12_begins_20 : decode cX12_begins 20 = .ok (.iload_n 1, 1) := by decide +kernel
theorem dX12_begins_21 : decode cX12_begins 21 = .ok (.putfield 118, 3) := by decide +kernel
theorem dX12_begins_24 : decode cX12_begins 24 = .ok (.iconst 0, 1) := by decide +kernel
theorem dX12_begins_25 : decode cX12_begins 25 = .ok (.istore_n 3, 1) := by decide +kernel
theorem dX12_begins_26 : decode cX12_begins 26 = .ok (.iload_n 3, 1) := by decide +kernel
theorem dX12_begins_27 : decode cX12_begins 27 = .ok (.iload_n 1, 1) := by decide +kernel
theorem dX12_begins_28 : decode cX12_begins 28 = .ok (.if_icmp .ge 21, 3) := by decide +kernel
theorem dX12_begins_31 : decode cX12_begins 31 = .ok (.aload_n 0, 1) := by decide +kernel
theorem dX12_begins_32 : decode cX12_begins 32 = .ok (.getfield 34, 3) := by decide +kernel
theorem dX12_begins_35 : decode cX12_begins 35 = .ok (.iload_n 3, 1) := by decide +kernel
theorem dX12_begins_36 : decode cX12_begins 36 = .ok (.aload_n 0, 1) := by decide +kernel
theorem dX12_begins_37 : decode cX12_begins 37 = .ok (.getfield 30, 3) := by decide +kernel
theorem dX12_begins_40 : decode cX12_begins 40 = .ok (.iload_n 3, 1) := by decide +kernel
theorem dX12_begins_41 : decode cX12_begins 41 = .ok (.baload, 1) := by decide +kernel
theorem dX12_begins_42 : decode cX12_begins 42 = .ok (.bastore, 1) := by decide +kernel
theorem dX12_begins_43 : decode cX12_begins 43 = .ok (.iinc 3 1, 3) := by decide +kernel
theorem dX12_begins_46 : decode cX12_begins 46 = .ok (.goto (-20), 3) := by decide +kernel
theorem dX12_begins_49 : decode cX12_begins 49 = .ok (.aload_n 0, 1) := by decide +kernel
theorem dX12_begins_50 : decode cX12_begins 50 = .ok (.iconst 0, 1) := by decide +kernel
theorem dX12_begins_51 : decode cX12_begins 51 = .ok (.putfield 112, 3) := by decide +kernel
theorem dX12_begins_54 : decode cX12_begins 54 = .ok (.aload_n 0, 1) := by decide +kernel
theorem dX12_begins_55 : decode cX12_begins 55 = .ok (.iconst 0, 1) := by decide +kernel
theorem dX12_begins_56 : decode cX12_begins 56 = .ok (.putfield 158, 3) := by decide +kernel
theorem dX12_begins_59 : decode cX12_begins 59 = .ok (.aload_n 0, 1) := by decide +kernel
theorem dX12_begins_60 : decode cX12_begins 60 = .ok (.iconst (-1), 1) := by decide +kernel
theorem dX12_begins_61 : decode cX12_begins 61 = .ok (.putfield 41, 3) := by decide +kernel
theorem dX12_begins_64 : decode cX12_begins 64 = .ok (.aload_n 0, 1) := by decide +kernel
theorem dX12_begins_65 : decode cX12_begins 65 = .ok (.iconst 0, 1) := by decide +kernel
theorem dX12_begins_66 : decode cX12_begins 66 = .ok (.putfield 121, 3) := by decide +kernel
theorem dX12_begins_69 : decode cX12_begins 69 = .ok (.aload_n 0, 1) := by decide +kernel
theorem dX12_begins_70 : decode cX12_begins 70 = .ok (.invokevirtual 161, 3) := by decide +kernel
theorem dX12_begins_73 : decode cX12_begins 73 = .ok (.iconst 1, 1) := by decide +kernel
theorem dX12_begins_74 : decode cX12_begins 74 = .ok (.ireturn, 1) := by decide +kernel
noncomputable def Mo_begins_L26 (l1 : Int32) (σ : St) (x3 : Int32) : Option ((Int32 × St) ⊕ St) :=
  if l1 ≤ x3 then (some (.inr σ)) else (chk (ix x3 900) (chk (ix x3 900) (bnd (wI σ 99 (tn x3) (vp_nar .byte (σ.1 98 (tn x3)))) (fun σ4 => bnd (x3 + 1) (fun v5 => some (.inl (v5, σ4)))))))
set_option maxRecDepth 100000 in
set_option maxHeartbeats 4000000 in
theorem tb_Mo_begins_L26 {V : Ev} {Γ : Cn} {fin : Option Value × St} {l1 : Int32} {σ : St} {x3 : Int32} {o : ((Int32 × St) ⊕ St)} (X : Cx V Γ M_X12_begins) {A : ((Int32 × St) ⊕ St) → Prop}  (hb26 : ∀ (x3 : Int32) (σ9 : St), A (.inl (x3, σ9)) → Go V Γ M_X12_begins (Zm V Γ 2 fin) 26 [(0, .ref (V.2.2.1 + 92)), (1, .int l1), (3, .int x3)] [] σ9) (hx26 : ∀ (σ9 : St), A (.inr σ9) → Go V Γ M_X12_begins (Zm V Γ 2 fin) 49 [(0, .ref (V.2.2.1 + 92))] [] σ9) (h : Mo_begins_L26 l1 σ x3 = some o) (hA : A o) : Go V Γ M_X12_begins (Zm V Γ 2 fin) 26 [(0, .ref (V.2.2.1 + 92)), (1, .int l1), (3, .int x3)] [] σ := by
  unfold Mo_begins_L26 at h
  refine g_iload_n (pc := 26) X 2 rfl dX12_begins_26 ?_
  refine g_iload_n (pc := 27) X 1 rfl dX12_begins_27 ?_
  refine g_icmp_ge (pc := 28) (tgt := 49) X dX12_begins_28 rfl (fun c6 => ?_) (fun c6 => ?_)
  · replace h := if_t c6 h
    refine g_sub [0] rfl ?_
    cases h
    exact hx26 _ hA
  · replace h := if_f c6 h
    refine g_aload_n (pc := 31) X 0 rfl dX12_begins_31 ?_
    refine g_getR (r := 99) (pc := 32) X k_fl_X12_34 s_92 rfl dX12_begins_32 ?_
    refine g_iload_n (pc := 35) X 2 rfl dX12_begins_35 ?_
    refine g_aload_n (pc := 36) X 0 rfl dX12_begins_36 ?_
    refine g_getR (r := 98) (pc := 37) X k_fl_X12_30 s_92 rfl dX12_begins_37 ?_
    refine g_iload_n (pc := 40) X 2 rfl dX12_begins_40 ?_
    obtain ⟨c2, h⟩ := chk_e h
    refine g_bald (pc := 41) X s_98 c2 dX12_begins_41 ?_
    obtain ⟨c3, h⟩ := chk_e h
    refine g_bast (pc := 42) X s_99 c3 dX12_begins_42 ?_
    obtain ⟨σ4, e_σ4, h⟩ := bnd_e h
    refine g_nmS e_σ4 ?_
    obtain ⟨v5, e_v5, h⟩ := bnd_e h
    refine g_iinc (pc := 43) (v := v5) X [(3, .int v5), (0, .ref (V.2.2.1 + 92)), (1, .int l1)] 2 rfl (by rw [e_v5]; rfl) (Nat.le_of_ble_eq_true rfl) rfl dX12_begins_43 ?_
    refine g_goto (pc := 46) (tgt := 26) X dX12_begins_46 rfl ?_
    refine g_sub [1, 2, 0] rfl ?_
    cases h
    exact hb26 _ _ hA
set_option maxRecDepth 100000 in
theorem tl_Mo_begins_L26 {V : Ev} {Γ : Cn} {fin : Option Value × St} {l1 : Int32} {x3 : Int32} {σ9 : St} (X : Cx V Γ M_X12_begins)  {σ8 : St} {n : Nat} (h : iter (fun s : (Int32 × St) => Mo_begins_L26 l1 s.2 s.1) n (x3, σ9) = some σ8) (hK : Go V Γ M_X12_begins (Zm V Γ 2 fin) 49 [(0, .ref (V.2.2.1 + 92))] [] σ8) : Go V Γ M_X12_begins (Zm V Γ 2 fin) 26 [(0, .ref (V.2.2.1 + 92)), (1, .int l1), (3, .int x3)] [] σ9 := by
  refine iter_go (G := (fun s : (Int32 × St) => Go V Γ M_X12_begins (Zm V Γ 2 fin) 26 [(0, .ref (V.2.2.1 + 92)), (1, .int l1), (3, .int s.1)] [] s.2)) (fun s o ho hS => ?_) n (x3, σ9) h
  exact tb_Mo_begins_L26 X  (fun _ _ h9 => h9) (fun _ he => by cases he; exact hK) ho hS
noncomputable def Mo_begins (σ : St) (p1 : Int32) (p2 : Int32) : Option (Int32 × St) :=
  if p1 < 0 then (some (0, σ)) else (if (σ.1 92 10) < p1 then (some (0, σ)) else (if p1 ≤ p2 then (bnd (wI σ 92 11 p1) (fun σ1 => bd (iter (fun s : (Int32 × St) => Mo_begins_L26 p1 s.2 s.1) FUEL (0, σ1)) (fun σ7 => bnd (wI σ7 92 10 0) (fun σ9 => bnd (wI σ9 92 18 0) (fun σ10 => bnd (wI σ10 92 17 (-1)) (fun σ11 => bnd (wI σ11 92 14 0) (fun σ12 => bd (Mo_ahead σ12) (fun σ14 => some (1, σ14))))))))) else (some (0, σ))))
set_option maxRecDepth 100000 in
set_option maxHeartbeats 4000000 in
theorem tm_Mo_begins {V : Ev} {Γ : Cn} {fin : Option Value × St} {σ : St} {p1 : Int32} {p2 : Int32} {o : (Int32 × St)} (X : Cx V Γ M_X12_begins) {A : (Int32 × St) → Prop}  (hr : ∀ (r : Int32) (σ9 : St), A (r, σ9) → (some (.int r), σ9) = fin) (h : Mo_begins σ p1 p2 = some o) (hA : A o) : Go V Γ M_X12_begins (Zm V Γ 2 fin) 0 [(0, .ref (V.2.2.1 + 92)), (1, .int p1), (2, .int p2)] [] σ := by
  unfold Mo_begins at h
  refine g_iload_n (pc := 0) X 1 rfl dX12_begins_0 ?_
  refine g_if_lt (pc := 1) (tgt := 17) X dX12_begins_1 rfl (fun c17 => ?_) (fun c17 => ?_)
  · replace h := if_t c17 h
    refine g_iconst (v := 0) (pc := 17) X rfl dX12_begins_17 ?_
    cases h
    exact g_iret (pc := 18) X rfl nz0.1 (hr _ _ hA) dX12_begins_18
  · replace h := if_f c17 h
    refine g_iload_n (pc := 4) X 1 rfl dX12_begins_4 ?_
    refine g_aload_n (pc := 5) X 0 rfl dX12_begins_5 ?_
    refine g_getI (pc := 6) X k_fl_X12_112 s_92 rfl dX12_begins_6 ?_
    refine g_icmp_gt (pc := 9) (tgt := 17) X dX12_begins_9 rfl (fun c16 => ?_) (fun c16 => ?_)
    · replace h := if_t c16 h
      refine g_iconst (v := 0) (pc := 17) X rfl dX12_begins_17 ?_
      cases h
      exact g_iret (pc := 18) X rfl nz0.1 (hr _ _ hA) dX12_begins_18
    · replace h := if_f c16 h
      refine g_iload_n (pc := 12) X 1 rfl dX12_begins_12 ?_
      refine g_iload_n (pc := 13) X 2 rfl dX12_begins_13 ?_
      refine g_icmp_le (pc := 14) (tgt := 19) X dX12_begins_14 rfl (fun c15 => ?_) (fun c15 => ?_)
      · replace h := if_t c15 h
        refine g_aload_n (pc := 19) X 0 rfl dX12_begins_19 ?_
        refine g_iload_n (pc := 20) X 1 rfl dX12_begins_20 ?_
        refine g_putI (pc := 21) X k_fl_X12_118 s_92 rfl rfl rfl dX12_begins_21 ?_
        obtain ⟨σ1, e_σ1, h⟩ := bnd_e h
        refine g_nmS e_σ1 ?_
        refine g_iconst (v := 0) (pc := 24) X rfl dX12_begins_24 ?_
        refine g_istore_n (pc := 25) X [(3, .int 0), (0, .ref (V.2.2.1 + 92)), (1, .int p1), (2, .int p2)] rfl (Nat.le_of_ble_eq_true rfl) rfl dX12_begins_25 ?_
        refine g_sub [1, 2, 0] rfl ?_
        obtain ⟨σ7, hi8, h⟩ := bd_e h
        refine tl_Mo_begins_L26 X  hi8 ?_
        refine g_aload_n (pc := 49) X 0 rfl dX12_begins_49 ?_
        refine g_iconst (v := 0) (pc := 50) X rfl dX12_begins_50 ?_
        refine g_putI (pc := 51) X k_fl_X12_112 s_92 rfl rfl rfl dX12_begins_51 ?_
        obtain ⟨σ9, e_σ9, h⟩ := bnd_e h
        refine g_nmS e_σ9 ?_
        refine g_aload_n (pc := 54) X 0 rfl dX12_begins_54 ?_
        refine g_iconst (v := 0) (pc := 55) X rfl dX12_begins_55 ?_
        refine g_putI (pc := 56) X k_fl_X12_158 s_92 rfl rfl rfl dX12_begins_56 ?_
        obtain ⟨σ10, e_σ10, h⟩ := bnd_e h
        refine g_nmS e_σ10 ?_
        refine g_aload_n (pc := 59) X 0 rfl dX12_begins_59 ?_
        refine g_iconst (v := (-1)) (pc := 60) X rfl dX12_begins_60 ?_
        refine g_putI (pc := 61) X k_fl_X12_41 s_92 rfl rfl rfl dX12_begins_61 ?_
        obtain ⟨σ11, e_σ11, h⟩ := bnd_e h
        refine g_nmS e_σ11 ?_
        refine g_aload_n (pc := 64) X 0 rfl dX12_begins_64 ?_
        refine g_iconst (v := 0) (pc := 65) X rfl dX12_begins_65 ?_
        refine g_putI (pc := 66) X k_fl_X12_121 s_92 rfl rfl rfl dX12_begins_66 ?_
        obtain ⟨σ12, e_σ12, h⟩ := bnd_e h
        refine g_nmS e_σ12 ?_
        refine g_aload_n (pc := 69) X 0 rfl dX12_begins_69 ?_
        obtain ⟨σ14, hc13, h⟩ := bd_e h
        refine g_callV (pc := 70) X k_ml_X12_161 (run_Mo_ahead  hc13) s_92 rfl (room_ok (Nat.le_of_ble_eq_true rfl) (Nat.le_of_ble_eq_true rfl)) ⟨Nat.le_refl _, Nat.le_refl _⟩ _ rfl (Nat.le_of_ble_eq_true rfl) dX12_begins_70 ?_
        show Go V Γ M_X12_begins (Zm V Γ 2 fin) 73 [(0, .ref (V.2.2.1 + 92))] [] σ14
        refine g_iconst (v := 1) (pc := 73) X rfl dX12_begins_73 ?_
        cases h
        exact g_iret (pc := 74) X rfl nz1.1 (hr _ _ hA) dX12_begins_74
      · replace h := if_f c15 h
        refine g_iconst (v := 0) (pc := 17) X rfl dX12_begins_17 ?_
        cases h
        exact g_iret (pc := 18) X rfl nz0.1 (hr _ _ hA) dX12_begins_18
set_option maxRecDepth 100000 in
theorem run_Mo_begins {V : Ev} {σ : St} {p1 : Int32} {p2 : Int32} {o : (Int32 × St)}   (h : Mo_begins σ p1 p2 = some o) : Rs V 2 M_X12_begins [.ref (V.2.2.1 + 92), .int p1, .int p2] σ (some (.int o.1), o.2) := by
  refine Rs.of (by decide +kernel) (Nat.le_of_ble_eq_true rfl) (fun Γ X => ?_)
  exact tm_Mo_begins X (A := fun o1 => o1 = o)  (fun _ _ e => by rw [← e]) h rfl
theorem dX12_wantSign_0 : decode cX12_wantSign 0 = .ok (.aload_n 0, 1) := by decide +kernel
theorem dX12_wantSign_1 : decode cX12_wantSign 1 = .ok (.iload_n 1, 1) := by decide +kernel
theorem dX12_wantSign_2 : decode cX12_wantSign 2 = .ok (.invokevirtual 164, 3) := by decide +kernel
theorem dX12_wantSign_5 : decode cX12_wantSign 5 = .ok (.ifCond .ne 9, 3) := by decide +kernel
theorem dX12_wantSign_8 : decode cX12_wantSign 8 = .ok (.aload_n 0, 1) := by decide +kernel
theorem dX12_wantSign_9 : decode cX12_wantSign 9 = .ok (.iconst 2, 1) := by decide +kernel
theorem dX12_wantSign_10 : decode cX12_wantSign 10 = .ok (.invokevirtual 167, 3) := by decide +kernel
theorem dX12_wantSign_13 : decode cX12_wantSign 13 = .ok (.ireturn, 1) := by decide +kernel
theorem dX12_wantSign_14 : decode cX12_wantSign 14 = .ok (.aload_n 0, 1) := by decide +kernel
theorem dX12_wantSign_15 : decode cX12_wantSign 15 = .ok (.invokevirtual 161, 3) := by decide +kernel
theorem dX12_wantSign_18 : decode cX12_wantSign 18 = .ok (.iconst 1, 1) := by decide +kernel
theorem dX12_wantSign_19 : decode cX12_wantSign 19 = .ok (.ireturn, 1) := by decide +kernel
noncomputable def Mo_wantSign (σ : St) (p1 : Int32) : Option (Int32 × St) :=
  bd (Mo_isSign σ p1) (fun r2 => if r2 = 0 then (bd2 (Mo_fails σ 2) (fun r6 σ7 => chk (ckz r6) (some (r6, σ7)))) else (bd (Mo_ahead σ) (fun σ4 => some (1, σ4))))
set_option maxRecDepth 100000 in
set_option maxHeartbeats 4000000 in
theorem tm_Mo_wantSign {V : Ev} {Γ : Cn} {fin : Option Value × St} {σ : St} {p1 : Int32} {o : (Int32 × St)} (X : Cx V Γ M_X12_wantSign) {A : (Int32 × St) → Prop}  (hr : ∀ (r : Int32) (σ9 : St), A (r, σ9) → (some (.int r), σ9) = fin) (h : Mo_wantSign σ p1 = some o) (hA : A o) : Go V Γ M_X12_wantSign (Zm V Γ 2 fin) 0 [(0, .ref (V.2.2.1 + 92)), (1, .int p1)] [] σ := by
  unfold Mo_wantSign at h
  refine g_aload_n (pc := 0) X 0 rfl dX12_wantSign_0 ?_
  refine g_iload_n (pc := 1) X 1 rfl dX12_wantSign_1 ?_
  obtain ⟨r2, hc1, h⟩ := bd_e h
  refine g_callV (pc := 2) X k_ml_X12_164 (run_Mo_isSign  hc1) s_92 rfl (room_ok (Nat.le_of_ble_eq_true rfl) (Nat.le_of_ble_eq_true rfl)) ⟨Nat.le_refl _, Nat.le_refl _⟩ _ rfl (Nat.le_of_ble_eq_true rfl) dX12_wantSign_2 ?_
  show Go V Γ M_X12_wantSign (Zm V Γ 2 fin) 5 [(0, .ref (V.2.2.1 + 92)), (1, .int p1)] [.int r2] σ
  refine g_if_ne (pc := 5) (tgt := 14) X dX12_wantSign_5 rfl (fun c9 => ?_) (fun c9 => ?_)
  · replace h := if_f c9 h
    refine g_aload_n (pc := 14) X 0 rfl dX12_wantSign_14 ?_
    obtain ⟨σ4, hc3, h⟩ := bd_e h
    refine g_callV (pc := 15) X k_ml_X12_161 (run_Mo_ahead  hc3) s_92 rfl (room_ok (Nat.le_of_ble_eq_true rfl) (Nat.le_of_ble_eq_true rfl)) ⟨Nat.le_refl _, Nat.le_refl _⟩ _ rfl (Nat.le_of_ble_eq_true rfl) dX12_wantSign_15 ?_
    show Go V Γ M_X12_wantSign (Zm V Γ 2 fin) 18 [(0, .ref (V.2.2.1 + 92)), (1, .int p1)] [] σ4
    refine g_iconst (v := 1) (pc := 18) X rfl dX12_wantSign_18 ?_
    cases h
    exact g_iret (pc := 19) X rfl nz1.1 (hr _ _ hA) dX12_wantSign_19
  · replace h := if_t c9 h
    refine g_aload_n (pc := 8) X 0 rfl dX12_wantSign_8 ?_
    refine g_iconst (v := 2) (pc := 9) X rfl dX12_wantSign_9 ?_
    obtain ⟨r6, σ7, hc5, h⟩ := bd2_e h
    refine g_callV (pc := 10) X k_ml_X12_167 (run_Mo_fails  hc5) s_92 rfl (room_ok (Nat.le_of_ble_eq_true rfl) (Nat.le_of_ble_eq_true rfl)) ⟨Nat.le_refl _, Nat.le_refl _⟩ _ rfl (Nat.le_of_ble_eq_true rfl) dX12_wantSign_10 ?_
    show Go V Γ M_X12_wantSign (Zm V Γ 2 fin) 13 [(0, .ref (V.2.2.1 + 92)), (1, .int p1)] [.int r6] σ7
    obtain ⟨c8, h⟩ := chk_e h
    cases h
    exact g_iret (pc := 13) X rfl (ckz_e c8).1 (hr _ _ hA) dX12_wantSign_13
set_option maxRecDepth 100000 in
theorem run_Mo_wantSign {V : Ev} {σ : St} {p1 : Int32} {o : (Int32 × St)}   (h : Mo_wantSign σ p1 = some o) : Rs V 2 M_X12_wantSign [.ref (V.2.2.1 + 92), .int p1] σ (some (.int o.1), o.2) := by
  refine Rs.of (by decide +kernel) (Nat.le_of_ble_eq_true rfl) (fun Γ X => ?_)
  exact tm_Mo_wantSign X (A := fun o1 => o1 = o)  (fun _ _ e => by rw [← e]) h rfl
theorem dX12_number_0 : decode cX12_number 0 = .ok (.aload_n 0, 1) := by decide +kernel
theorem dX12_number_1 : decode cX12_number 1 = .ok (.getfield 133, 3) := by decide +kernel
theorem dX12_number_4 : decode cX12_number 4 = .ok (.iconst 3, 1) := by decide +kernel
theorem dX12_number_5 : decode cX12_number 5 = .ok (.if_icmp .eq 9, 3) := by decide +kernel
theorem dX12_number_8 : decode cX12_number 8 = .ok (.aload_n 0, 1) := by decide +kernel
theorem dX12_number_9 : decode cX12_number 9 = .ok (.iconst 2, 1) := by decide +kernel
theorem dX12_number_10 : decode cX12_number 10 = .ok (.invokevirtual 167, 3) := by decide +kernel
theorem dX12_number_13 : decode cX12_number 13 = .ok (.ireturn, 1) := by decide +kernel
theorem dX12_number_14 : decode cX12_number 14 = .ok (.aload_n 0, 1) := by decide +kernel
theorem dX12_number_15 : decode cX12_number 15 = .ok (.getfield 130, 3) := by decide +kernel
theorem dX12_number_18 : decode cX12_number 18 = .ok (.iload_n 2, 1) := by decide +kernel
theorem dX12_number_19 : decode cX12_number 19 = .ok (.if_icmp .lt 11, 3) := by decide +kernel
theorem dX12_number_22 : decode cX12_number 22 = .ok (.aload_n 0, 1) := by decide +kernel
theorem dX12_number_23 : decode cX12_number 23 = .ok (.getfield 130, 3) := by decide +kernel
theorem dX12_number_26 : decode cX12_number 26 = .ok (.iload_n 3, 1) := by decide +kernel
theorem dX12_number_27 : decode cX12_number 27 = .ok (.if_icmp .le 9, 3) := by decide +kernel
theorem dX12_number_30 : decode cX12_number 30 = .ok (.aload_n 0, 1) := by decide +kernel
theorem dX12_number_31 : decode cX12_number 31 = .ok (.iconst 4, 1) := by decide +kernel
theorem dX12_number_32 : decode cX12_number 32 = .ok (.invokevirtual 167, 3) := by decide +kernel
theorem dX12_number_35 : decode cX12_number 35 = .ok (.ireturn, 1) := by decide +kernel
theorem dX12_number_36 : decode cX12_number 36 = .ok (.aload_n 0, 1) := by decide +kernel
theorem dX12_number_37 : decode cX12_number 37 = .ok (.getfield 7, 3) := by decide +kernel
theorem dX12_number_40 : decode cX12_number 40 = .ok (.iload_n 1, 1) := by decide +kernel
theorem dX12_number_41 : decode cX12_number 41 = .ok (.aload_n 0, 1) := by decide +kernel
theorem dX12_number_42 : decode cX12_number 42 = .ok (.getfield 130, 3) := by decide +kernel
theorem dX12_number_45 : decode cX12_number 45 = .ok (.iastore, 1) := by decide +kernel
theorem dX12_number_46 : decode cX12_number 46 = .ok (.aload_n 0, 1) := by decide +kernel
theorem dX12_number_47 : decode cX12_number 47 = .ok (.invokevirtual 161, 3) := by decide +kernel
theorem dX12_number_50 : decode cX12_number 50 = .ok (.iconst 1, 1) := by decide +kernel
theorem dX12_number_51 : decode cX12_number 51 = .ok (.ireturn, 1) := by decide +kernel
noncomputable def Mo_number (σ : St) (p1 : Int32) (p2 : Int32) (p3 : Int32) : Option (Int32 × St) :=
  if (σ.1 92 12) = 3 then (if (σ.1 92 15) < p2 then (bd2 (Mo_fails σ 4) (fun r2 σ3 => chk (ckz r2) (some (r2, σ3)))) else (if (σ.1 92 15) ≤ p3 then (chk (ix p1 2060) (bnd (wI σ 93 (tn p1) (σ.1 92 15)) (fun σ6 => bd (Mo_ahead σ6) (fun σ8 => some (1, σ8))))) else (bd2 (Mo_fails σ 4) (fun r10 σ11 => chk (ckz r10) (some (r10, σ11)))))) else (bd2 (Mo_fails σ 2) (fun r16 σ17 => chk (ckz r16) (some (r16, σ17))))
set_option maxRecDepth 100000 in
set_option maxHeartbeats 4000000 in
theorem tm_Mo_number {V : Ev} {Γ : Cn} {fin : Option Value × St} {σ : St} {p1 : Int32} {p2 : Int32} {p3 : Int32} {o : (Int32 × St)} (X : Cx V Γ M_X12_number) {A : (Int32 × St) → Prop}  (hr : ∀ (r : Int32) (σ9 : St), A (r, σ9) → (some (.int r), σ9) = fin) (h : Mo_number σ p1 p2 p3 = some o) (hA : A o) : Go V Γ M_X12_number (Zm V Γ 2 fin) 0 [(0, .ref (V.2.2.1 + 92)), (1, .int p1), (2, .int p2), (3, .int p3)] [] σ := by
  unfold Mo_number at h
  refine g_aload_n (pc := 0) X 0 rfl dX12_number_0 ?_
  refine g_getI (pc := 1) X k_fl_X12_133 s_92 rfl dX12_number_1 ?_
  refine g_iconst (v := 3) (pc := 4) X rfl dX12_number_4 ?_
  refine g_icmp_eq (pc := 5) (tgt := 14) X dX12_number_5 rfl (fun c19 => ?_) (fun c19 => ?_)
  · replace h := if_t c19 h
    refine g_aload_n (pc := 14) X 0 rfl dX12_number_14 ?_
    refine g_getI (pc := 15) X k_fl_X12_130 s_92 rfl dX12_number_15 ?_
    refine g_iload_n (pc := 18) X 2 rfl dX12_number_18 ?_
    refine g_icmp_lt (pc := 19) (tgt := 30) X dX12_number_19 rfl (fun c14 => ?_) (fun c14 => ?_)
    · replace h := if_t c14 h
      refine g_aload_n (pc := 30) X 0 rfl dX12_number_30 ?_
      refine g_iconst (v := 4) (pc := 31) X rfl dX12_number_31 ?_
      obtain ⟨r2, σ3, hc1, h⟩ := bd2_e h
      refine g_callV (pc := 32) X k_ml_X12_167 (run_Mo_fails  hc1) s_92 rfl (room_ok (Nat.le_of_ble_eq_true rfl) (Nat.le_of_ble_eq_true rfl)) ⟨Nat.le_refl _, Nat.le_refl _⟩ _ rfl (Nat.le_of_ble_eq_true rfl) dX12_number_32 ?_
      show Go V Γ M_X12_number (Zm V Γ 2 fin) 35 [(0, .ref (V.2.2.1 + 92)), (1, .int p1), (2, .int p2), (3, .int p3)] [.int r2] σ3
      obtain ⟨c4, h⟩ := chk_e h
      cases h
      exact g_iret (pc := 35) X rfl (ckz_e c4).1 (hr _ _ hA) dX12_number_35
    · replace h := if_f c14 h
      refine g_aload_n (pc := 22) X 0 rfl dX12_number_22 ?_
      refine g_getI (pc := 23) X k_fl_X12_130 s_92 rfl dX12_number_23 ?_
      refine g_iload_n (pc := 26) X 3 rfl dX12_number_26 ?_
      refine g_icmp_le (pc := 27) (tgt := 36) X dX12_number_27 rfl (fun c13 => ?_) (fun c13 => ?_)
      · replace h := if_t c13 h
        refine g_aload_n (pc := 36) X 0 rfl dX12_number_36 ?_
        refine g_getR (r := 93) (pc := 37) X k_fl_X12_7 s_92 rfl dX12_number_37 ?_
        refine g_iload_n (pc := 40) X 1 rfl dX12_number_40 ?_
        refine g_aload_n (pc := 41) X 0 rfl dX12_number_41 ?_
        refine g_getI (pc := 42) X k_fl_X12_130 s_92 rfl dX12_number_42 ?_
        obtain ⟨c5, h⟩ := chk_e h
        refine g_iast (pc := 45) X s_93 c5 dX12_number_45 ?_
        obtain ⟨σ6, e_σ6, h⟩ := bnd_e h
        refine g_nmS e_σ6 ?_
        refine g_aload_n (pc := 46) X 0 rfl dX12_number_46 ?_
        obtain ⟨σ8, hc7, h⟩ := bd_e h
        refine g_callV (pc := 47) X k_ml_X12_161 (run_Mo_ahead  hc7) s_92 rfl (room_ok (Nat.le_of_ble_eq_true rfl) (Nat.le_of_ble_eq_true rfl)) ⟨Nat.le_refl _, Nat.le_refl _⟩ _ rfl (Nat.le_of_ble_eq_true rfl) dX12_number_47 ?_
        show Go V Γ M_X12_number (Zm V Γ 2 fin) 50 [(0, .ref (V.2.2.1 + 92)), (1, .int p1), (2, .int p2), (3, .int p3)] [] σ8
        refine g_iconst (v := 1) (pc := 50) X rfl dX12_number_50 ?_
        cases h
        exact g_iret (pc := 51) X rfl nz1.1 (hr _ _ hA) dX12_number_51
      · replace h := if_f c13 h
        refine g_aload_n (pc := 30) X 0 rfl dX12_number_30 ?_
        refine g_iconst (v := 4) (pc := 31) X rfl dX12_number_31 ?_
        obtain ⟨r10, σ11, hc9, h⟩ := bd2_e h
        refine g_callV (pc := 32) X k_ml_X12_167 (run_Mo_fails  hc9) s_92 rfl (room_ok (Nat.le_of_ble_eq_true rfl) (Nat.le_of_ble_eq_true rfl)) ⟨Nat.le_refl _, Nat.le_refl _⟩ _ rfl (Nat.le_of_ble_eq_true rfl) dX12_number_32 ?_
        show Go V Γ M_X12_number (Zm V Γ 2 fin) 35 [(0, .ref (V.2.2.1 + 92)), (1, .int p1), (2, .int p2), (3, .int p3)] [.int r10] σ11
        obtain ⟨c12, h⟩ := chk_e h
        cases h
        exact g_iret (pc := 35) X rfl (ckz_e c12).1 (hr _ _ hA) dX12_number_35
  · replace h := if_f c19 h
    refine g_aload_n (pc := 8) X 0 rfl dX12_number_8 ?_
    refine g_iconst (v := 2) (pc := 9) X rfl dX12_number_9 ?_
    obtain ⟨r16, σ17, hc15, h⟩ := bd2_e h
    refine g_callV (pc := 10) X k_ml_X12_167 (run_Mo_fails  hc15) s_92 rfl (room_ok (Nat.le_of_ble_eq_true rfl) (Nat.le_of_ble_eq_true rfl)) ⟨Nat.le_refl _, Nat.le_refl _⟩ _ rfl (Nat.le_of_ble_eq_true rfl) dX12_number_10 ?_
    show Go V Γ M_X12_number (Zm V Γ 2 fin) 13 [(0, .ref (V.2.2.1 + 92)), (1, .int p1), (2, .int p2), (3, .int p3)] [.int r16] σ17
    obtain ⟨c18, h⟩ := chk_e h
    cases h
    exact g_iret (pc := 13) X rfl (ckz_e c18).1 (hr _ _ hA) dX12_number_13
set_option maxRecDepth 100000 in
theorem run_Mo_number {V : Ev} {σ : St} {p1 : Int32} {p2 : Int32} {p3 : Int32} {o : (Int32 × St)}   (h : Mo_number σ p1 p2 p3 = some o) : Rs V 2 M_X12_number [.ref (V.2.2.1 + 92), .int p1, .int p2, .int p3] σ (some (.int o.1), o.2) := by
  refine Rs.of (by decide +kernel) (Nat.le_of_ble_eq_true rfl) (fun Γ X => ?_)
  exact tm_Mo_number X (A := fun o1 => o1 = o)  (fun _ _ e => by rw [← e]) h rfl
theorem dX12_fault_0 : decode cX12_fault 0 = .ok (.iload_n 1, 1) := by decide +kernel
theorem dX12_fault_1 : decode cX12_fault 1 = .ok (.ifCond .ne 10, 3) := by decide +kernel
theorem dX12_fault_4 : decode cX12_fault 4 = .ok (.aload_n 0, 1) := by decide +kernel
theorem dX12_fault_5 : decode cX12_fault 5 = .ok (.getfield 37, 3) := by decide +kernel
theorem dX12_fault_8 : decode cX12_fault 8 = .ok (.goto 16, 3) := by decide +kernel
theorem dX12_fault_11 : decode cX12_fault 11 = .ok (.iload_n 1, 1) := by decide +kernel
theorem dX12_fault_12 : decode cX12_fault 12 = .ok (.iconst 1, 1) := by decide +kernel
theorem dX12_fault_13 : decode cX12_fault 13 = .ok (.if_icmp .ne 10, 3) := by decide +kernel
theorem dX12_fault_16 : decode cX12_fault 16 = .ok (.aload_n 0, 1) := by decide +kernel
theorem dX12_fault_17 : decode cX12_fault 17 = .ok (.getfield 41, 3) := by decide +kernel
theorem dX12_fault_20 : decode cX12_fault 20 = .ok (.goto 4, 3) := by decide +kernel
theorem dX12_fault_23 : decode cX12_fault 23 = .ok (.iconst (-1), 1) := by decide +kernel
theorem dX12_fault_24 : decode cX12_fault 24 = .ok (.ireturn, 1) := by decide +kernel
noncomputable def Mo_fault (σ : St) (p1 : Int32) : Option Int32 :=
  if p1 = 0 then (some (σ.1 92 16)) else (if p1 = 1 then (some (σ.1 92 17)) else (some (-1)))
set_option maxRecDepth 100000 in
set_option maxHeartbeats 4000000 in
theorem tm_Mo_fault {V : Ev} {Γ : Cn} {fin : Option Value × St} {σ : St} {p1 : Int32} {o : Int32} (X : Cx V Γ M_X12_fault) {A : Int32 → Prop}  (hr : ∀ (r : Int32), A r → (some (.int r), σ) = fin) (h : Mo_fault σ p1 = some o) (hA : A o) : Go V Γ M_X12_fault (Zm V Γ 0 fin) 0 [(0, .ref (V.2.2.1 + 92)), (1, .int p1)] [] σ := by
  unfold Mo_fault at h
  refine g_iload_n (pc := 0) X 1 rfl dX12_fault_0 ?_
  refine g_if_ne (pc := 1) (tgt := 11) X dX12_fault_1 rfl (fun c2 => ?_) (fun c2 => ?_)
  · replace h := if_f c2 h
    refine g_iload_n (pc := 11) X 1 rfl dX12_fault_11 ?_
    refine g_iconst (v := 1) (pc := 12) X rfl dX12_fault_12 ?_
    refine g_icmp_ne (pc := 13) (tgt := 23) X dX12_fault_13 rfl (fun c1 => ?_) (fun c1 => ?_)
    · replace h := if_f c1 h
      refine g_iconst (v := (-1)) (pc := 23) X rfl dX12_fault_23 ?_
      cases h
      exact g_iret (pc := 24) X rfl rfl (hr _ hA) dX12_fault_24
    · replace h := if_t c1 h
      refine g_aload_n (pc := 16) X 0 rfl dX12_fault_16 ?_
      refine g_getI (pc := 17) X k_fl_X12_41 s_92 rfl dX12_fault_17 ?_
      refine g_goto (pc := 20) (tgt := 24) X dX12_fault_20 rfl ?_
      cases h
      exact g_iret (pc := 24) X rfl rfl (hr _ hA) dX12_fault_24
  · replace h := if_t c2 h
    refine g_aload_n (pc := 4) X 0 rfl dX12_fault_4 ?_
    refine g_getI (pc := 5) X k_fl_X12_37 s_92 rfl dX12_fault_5 ?_
    refine g_goto (pc := 8) (tgt := 24) X dX12_fault_8 rfl ?_
    cases h
    exact g_iret (pc := 24) X rfl rfl (hr _ hA) dX12_fault_24
set_option maxRecDepth 100000 in
theorem run_Mo_fault {V : Ev} {σ : St} {p1 : Int32} {o : Int32}   (h : Mo_fault σ p1 = some o) : Rs V 0 M_X12_fault [.ref (V.2.2.1 + 92), .int p1] σ (some (.int o), σ) := by
  refine Rs.of (by decide +kernel) (Nat.le_of_ble_eq_true rfl) (fun Γ X => ?_)
  exact tm_Mo_fault X (A := fun o1 => o1 = o)  (fun _ e => by rw [e]) h rfl
theorem dX12_taken_0 : decode cX12_taken 0 = .ok (.aload_n 0, 1) := by decide +kernel
theorem dX12_taken_1 : decode cX12_taken 1 = .ok (.aload_n 0, 1) := by decide +kernel
theorem dX12_taken_2 : decode cX12_taken 2 = .ok (.getfield 158, 3) := by decide +kernel
theorem dX12_taken_5 : decode cX12_taken 5 = .ok (.putfield 37, 3) := by decide +kernel
theorem dX12_taken_8 : decode cX12_taken 8 = .ok (.aload_n 0, 1) := by decide +kernel
theorem dX12_taken_9 : decode cX12_taken 9 = .ok (.getfield 158, 3) := by decide +kernel
theorem dX12_taken_12 : decode cX12_taken 12 = .ok (.ifCond .le 12, 3) := by decide +kernel
theorem dX12_taken_15 : decode cX12_taken 15 = .ok (.aload_n 0, 1) := by decide +kernel
theorem dX12_taken_16 : decode cX12_taken 16 = .ok (.bipush 9, 2) := by decide +kernel
theorem dX12_taken_18 : decode cX12_taken 18 = .ok (.invokevirtual 88, 3) := by decide +kernel
theorem dX12_taken_21 : decode cX12_taken 21 = .ok (.goto 8, 3) := by decide +kernel
theorem dX12_taken_24 : decode cX12_taken 24 = .ok (.aload_n 0, 1) := by decide +kernel
theorem dX12_taken_25 : decode cX12_taken 25 = .ok (.iload_n 1, 1) := by decide +kernel
theorem dX12_taken_26 : decode cX12_taken 26 = .ok (.invokevirtual 92, 3) := by decide +kernel
theorem dX12_taken_29 : decode cX12_taken 29 = .ok (.ireturn, 1) := by decide +kernel
noncomputable def Mo_taken (σ : St) (p1 : Int32) : Option (Int32 × St) :=
  bnd (wI σ 92 16 (σ.1 92 18)) (fun σ1 => if (σ1.1 92 18) ≤ 0 then (bd2 (Mo_gives σ1 p1) (fun r3 σ4 => some (r3, σ4))) else (bd2 (Mo_refuse σ1 9) (fun r6 σ7 => some (r6, σ7))))
set_option maxRecDepth 100000 in
set_option maxHeartbeats 4000000 in
theorem tm_Mo_taken {V : Ev} {Γ : Cn} {fin : Option Value × St} {σ : St} {p1 : Int32} {o : (Int32 × St)} (X : Cx V Γ M_X12_taken) {A : (Int32 × St) → Prop}  (hr : ∀ (r : Int32) (σ9 : St), A (r, σ9) → (some (.int r), σ9) = fin) (h : Mo_taken σ p1 = some o) (hA : A o) : Go V Γ M_X12_taken (Zm V Γ 1 fin) 0 [(0, .ref (V.2.2.1 + 92)), (1, .int p1)] [] σ := by
  unfold Mo_taken at h
  refine g_aload_n (pc := 0) X 0 rfl dX12_taken_0 ?_
  refine g_aload_n (pc := 1) X 0 rfl dX12_taken_1 ?_
  refine g_getI (pc := 2) X k_fl_X12_158 s_92 rfl dX12_taken_2 ?_
  refine g_putI (pc := 5) X k_fl_X12_37 s_92 rfl rfl rfl dX12_taken_5 ?_
  obtain ⟨σ1, e_σ1, h⟩ := bnd_e h
  refine g_nmS e_σ1 ?_
  refine g_aload_n (pc := 8) X 0 rfl dX12_taken_8 ?_
  refine g_getI (pc := 9) X k_fl_X12_158 s_92 rfl dX12_taken_9 ?_
  refine g_if_le (pc := 12) (tgt := 24) X dX12_taken_12 rfl (fun c8 => ?_) (fun c8 => ?_)
  · replace h := if_t c8 h
    refine g_aload_n (pc := 24) X 0 rfl dX12_taken_24 ?_
    refine g_iload_n (pc := 25) X 1 rfl dX12_taken_25 ?_
    obtain ⟨r3, σ4, hc2, h⟩ := bd2_e h
    refine g_callV (pc := 26) X k_ml_X12_92 (run_Mo_gives  hc2) s_92 rfl (room_ok (Nat.le_of_ble_eq_true rfl) (Nat.le_of_ble_eq_true rfl)) ⟨Nat.le_refl _, Nat.le_refl _⟩ _ rfl (Nat.le_of_ble_eq_true rfl) dX12_taken_26 ?_
    show Go V Γ M_X12_taken (Zm V Γ 1 fin) 29 [(0, .ref (V.2.2.1 + 92)), (1, .int p1)] [.int r3] σ4
    cases h
    exact g_iret (pc := 29) X rfl rfl (hr _ _ hA) dX12_taken_29
  · replace h := if_f c8 h
    refine g_aload_n (pc := 15) X 0 rfl dX12_taken_15 ?_
    refine g_bipush (v := 9) (pc := 16) X (by decide) dX12_taken_16 ?_
    obtain ⟨r6, σ7, hc5, h⟩ := bd2_e h
    refine g_callV (pc := 18) X k_ml_X12_88 (run_Mo_refuse  hc5) s_92 rfl (room_ok (Nat.le_of_ble_eq_true rfl) (Nat.le_of_ble_eq_true rfl)) ⟨Nat.le_refl _, Nat.le_refl _⟩ _ rfl (Nat.le_of_ble_eq_true rfl) dX12_taken_18 ?_
    show Go V Γ M_X12_taken (Zm V Γ 1 fin) 21 [(0, .ref (V.2.2.1 + 92)), (1, .int p1)] [.int r6] σ7
    refine g_goto (pc := 21) (tgt := 29) X dX12_taken_21 rfl ?_
    cases h
    exact g_iret (pc := 29) X rfl rfl (hr _ _ hA) dX12_taken_29
set_option maxRecDepth 100000 in
theorem run_Mo_taken {V : Ev} {σ : St} {p1 : Int32} {o : (Int32 × St)}   (h : Mo_taken σ p1 = some o) : Rs V 1 M_X12_taken [.ref (V.2.2.1 + 92), .int p1] σ (some (.int o.1), o.2) := by
  refine Rs.of (by decide +kernel) (Nat.le_of_ble_eq_true rfl) (fun Γ X => ?_)
  exact tm_Mo_taken X (A := fun o1 => o1 = o)  (fun _ _ e => by rw [← e]) h rfl
theorem dX12_wantWord_0 : decode cX12_wantWord 0 = .ok (.aload_n 0, 1) := by decide +kernel
theorem dX12_wantWord_1 : decode cX12_wantWord 1 = .ok (.ldc 170, 2) := by decide +kernel
theorem dX12_wantWord_3 : decode cX12_wantWord 3 = .ok (.invokevirtual 172, 3) := by decide +kernel
theorem dX12_wantWord_6 : decode cX12_wantWord 6 = .ok (.iload_n 1, 1) := by decide +kernel
theorem dX12_wantWord_7 : decode cX12_wantWord 7 = .ok (.if_icmp .eq 9, 3) := by decide +kernel
theorem dX12_wantWord_10 : decode cX12_wantWord 10 = .ok (.aload_n 0, 1) := by decide +kernel
theorem dX12_wantWord_11 : decode cX12_wantWord 11 = .ok (.iconst 2, 1) := by decide +kernel
theorem dX12_wantWord_12 : decode cX12_wantWord 12 = .ok (.invokevirtual 167, 3) := by decide +kernel
theorem dX12_wantWord_15 : decode cX12_wantWord 15 = .ok (.ireturn, 1) := by decide +kernel
theorem dX12_wantWord_16 : decode cX12_wantWord 16 = .ok (.aload_n 0, 1) := by decide +kernel
theorem dX12_wantWord_17 : decode cX12_wantWord 17 = .ok (.invokevirtual 161, 3) := by decide +kernel
theorem dX12_wantWord_20 : decode cX12_wantWord 20 = .ok (.iconst 1, 1) := by decide +kernel
theorem dX12_wantWord_21 : decode cX12_wantWord 21 = .ok (.ireturn, 1) := by decide +kernel
noncomputable def Mo_wantWord (σ : St) (p1 : Int32) : Option (Int32 × St) :=
  bd (Mo_inWords σ) (fun r2 => if r2 = p1 then (bd (Mo_ahead σ) (fun σ4 => some (1, σ4))) else (bd2 (Mo_fails σ 2) (fun r6 σ7 => chk (ckz r6) (some (r6, σ7)))))
set_option maxRecDepth 100000 in
set_option maxHeartbeats 4000000 in
theorem tm_Mo_wantWord {V : Ev} {Γ : Cn} {fin : Option Value × St} {σ : St} {p1 : Int32} {o : (Int32 × St)} (X : Cx V Γ M_X12_wantWord) {A : (Int32 × St) → Prop}  (hr : ∀ (r : Int32) (σ9 : St), A (r, σ9) → (some (.int r), σ9) = fin) (h : Mo_wantWord σ p1 = some o) (hA : A o) : Go V Γ M_X12_wantWord (Zm V Γ 6 fin) 0 [(0, .ref (V.2.2.1 + 92)), (1, .int p1)] [] σ := by
  unfold Mo_wantWord at h
  refine g_aload_n (pc := 0) X 0 rfl dX12_wantWord_0 ?_
  refine g_ldcS1 (pc := 1) X rfl dX12_wantWord_1 ?_
  obtain ⟨r2, hc1, h⟩ := bd_e h
  refine g_callV (pc := 3) X k_ml_X12_172 (run_Mo_inWords  hc1) s_92 rfl (room_ok (Nat.le_of_ble_eq_true rfl) (Nat.le_of_ble_eq_true rfl)) ⟨Nat.le_refl _, Nat.le_refl _⟩ _ rfl (Nat.le_of_ble_eq_true rfl) dX12_wantWord_3 ?_
  show Go V Γ M_X12_wantWord (Zm V Γ 6 fin) 6 [(0, .ref (V.2.2.1 + 92)), (1, .int p1)] [.int r2] σ
  refine g_iload_n (pc := 6) X 1 rfl dX12_wantWord_6 ?_
  refine g_icmp_eq (pc := 7) (tgt := 16) X dX12_wantWord_7 rfl (fun c9 => ?_) (fun c9 => ?_)
  · replace h := if_t c9 h
    refine g_aload_n (pc := 16) X 0 rfl dX12_wantWord_16 ?_
    obtain ⟨σ4, hc3, h⟩ := bd_e h
    refine g_callV (pc := 17) X k_ml_X12_161 (run_Mo_ahead  hc3) s_92 rfl (room_ok (Nat.le_of_ble_eq_true rfl) (Nat.le_of_ble_eq_true rfl)) ⟨Nat.le_refl _, Nat.le_refl _⟩ _ rfl (Nat.le_of_ble_eq_true rfl) dX12_wantWord_17 ?_
    show Go V Γ M_X12_wantWord (Zm V Γ 6 fin) 20 [(0, .ref (V.2.2.1 + 92)), (1, .int p1)] [] σ4
    refine g_iconst (v := 1) (pc := 20) X rfl dX12_wantWord_20 ?_
    cases h
    exact g_iret (pc := 21) X rfl nz1.1 (hr _ _ hA) dX12_wantWord_21
  · replace h := if_f c9 h
    refine g_aload_n (pc := 10) X 0 rfl dX12_wantWord_10 ?_
    refine g_iconst (v := 2) (pc := 11) X rfl dX12_wantWord_11 ?_
    obtain ⟨r6, σ7, hc5, h⟩ := bd2_e h
    refine g_callV (pc := 12) X k_ml_X12_167 (run_Mo_fails  hc5) s_92 rfl (room_ok (Nat.le_of_ble_eq_true rfl) (Nat.le_of_ble_eq_true rfl)) ⟨Nat.le_refl _, Nat.le_refl _⟩ _ rfl (Nat.le_of_ble_eq_true rfl) dX12_wantWord_12 ?_
    show Go V Γ M_X12_wantWord (Zm V Γ 6 fin) 15 [(0, .ref (V.2.2.1 + 92)), (1, .int p1)] [.int r6] σ7
    obtain ⟨c8, h⟩ := chk_e h
    cases h
    exact g_iret (pc := 15) X rfl (ckz_e c8).1 (hr _ _ hA) dX12_wantWord_15
set_option maxRecDepth 100000 in
theorem run_Mo_wantWord {V : Ev} {σ : St} {p1 : Int32} {o : (Int32 × St)}   (h : Mo_wantWord σ p1 = some o) : Rs V 6 M_X12_wantWord [.ref (V.2.2.1 + 92), .int p1] σ (some (.int o.1), o.2) := by
  refine Rs.of (by decide +kernel) (Nat.le_of_ble_eq_true rfl) (fun Γ X => ?_)
  exact tm_Mo_wantWord X (A := fun o1 => o1 = o)  (fun _ _ e => by rw [← e]) h rfl
theorem dX12_isName_0 : decode cX12_isName 0 = .ok (.aload_n 0, 1) := by decide +kernel
theorem dX12_isName_1 : decode cX12_isName 1 = .ok (.getfield 133, 3) := by decide +kernel
theorem dX12_isName_4 : decode cX12_isName 4 = .ok (.iconst 2, 1) := by decide +kernel
theorem dX12_isName_5 : decode cX12_isName 5 = .ok (.if_icmp .ne 31, 3) := by decide +kernel
theorem dX12_isName_8 : decode cX12_isName 8 = .ok (.aload_n 0, 1) := by decide +kernel
theorem dX12_isName_9 : decode cX12_isName 9 = .ok (.getfield 121, 3) := by decide +kernel
theorem dX12_isName_12 : decode cX12_isName 12 = .ok (.aload_n 0, 1) := by decide +kernel
theorem dX12_isName_13 : decode cX12_isName 13 = .ok (.getfield 127, 3) := by decide +kernel
theorem dX12_isName_16 : decode cX12_isName 16 = .ok (.isub, 1) := by decide +kernel
theorem dX12_isName_17 : decode cX12_isName 17 = .ok (.bipush 8, 2) := by decide +kernel
theorem dX12_isName_19 : decode cX12_isName 19 = .ok (.if_icmp .gt 17, 3) := by decide +kernel
theorem dX12_isName_22 : decode cX12_isName 22 = .ok (.aload_n 0, 1) := by decide +kernel
theorem dX12_isName_23 : decode cX12_isName 23 = .ok (.ldc 170, 2) := by decide +kernel
theorem dX12_isName_25 : decode cX12_isName 25 = .ok (.invokevirtual 172, 3) := by decide +kernel
theorem dX12_isName_28 : decode cX12_isName 28 = .ok (.iconst (-1), 1) := by decide +kernel
theorem dX12_isName_29 : decode cX12_isName 29 = .ok (.if_icmp .ne 7, 3) := by decide +kernel
theorem dX12_isName_32 : decode cX12_isName 32 = .ok (.iconst 1, 1) := by decide +kernel
theorem dX12_isName_33 : decode cX12_isName 33 = .ok (.goto 4, 3) := by decide +kernel
theorem dX12_isName_36 : decode cX12_isName 36 = .ok (.iconst 0, 1) := by decide +kernel
theorem dX12_isName_37 : decode cX12_isName 37 = .ok (.ireturn, 1) := by decide +kernel
noncomputable def Mo_isName (σ : St) : Option Int32 :=
  if (σ.1 92 12) = 2 then (if 8 < ((σ.1 92 14) - (σ.1 92 13)) then (some 0) else (bd (Mo_inWords σ) (fun r2 => if r2 = (-1) then (some 1) else (some 0)))) else (some 0)
set_option maxRecDepth 100000 in
set_option maxHeartbeats 4000000 in
theorem tm_Mo_isName {V : Ev} {Γ : Cn} {fin : Option Value × St} {σ : St} {o : Int32} (X : Cx V Γ M_X12_isName) {A : Int32 → Prop}  (hr : ∀ (r : Int32), A r → (some (.int r), σ) = fin) (h : Mo_isName σ = some o) (hA : A o) : Go V Γ M_X12_isName (Zm V Γ 6 fin) 0 [(0, .ref (V.2.2.1 + 92))] [] σ := by
  unfold Mo_isName at h
  refine g_aload_n (pc := 0) X 0 rfl dX12_isName_0 ?_
  refine g_getI (pc := 1) X k_fl_X12_133 s_92 rfl dX12_isName_1 ?_
  refine g_iconst (v := 2) (pc := 4) X rfl dX12_isName_4 ?_
  refine g_icmp_ne (pc := 5) (tgt := 36) X dX12_isName_5 rfl (fun c5 => ?_) (fun c5 => ?_)
  · replace h := if_f c5 h
    refine g_iconst (v := 0) (pc := 36) X rfl dX12_isName_36 ?_
    cases h
    exact g_iret (pc := 37) X rfl nz0.1 (hr _ hA) dX12_isName_37
  · replace h := if_t c5 h
    refine g_aload_n (pc := 8) X 0 rfl dX12_isName_8 ?_
    refine g_getI (pc := 9) X k_fl_X12_121 s_92 rfl dX12_isName_9 ?_
    refine g_aload_n (pc := 12) X 0 rfl dX12_isName_12 ?_
    refine g_getI (pc := 13) X k_fl_X12_127 s_92 rfl dX12_isName_13 ?_
    refine g_isub (pc := 16) X dX12_isName_16 ?_
    refine g_bipush (v := 8) (pc := 17) X (by decide) dX12_isName_17 ?_
    refine g_icmp_gt (pc := 19) (tgt := 36) X dX12_isName_19 rfl (fun c4 => ?_) (fun c4 => ?_)
    · replace h := if_t c4 h
      refine g_iconst (v := 0) (pc := 36) X rfl dX12_isName_36 ?_
      cases h
      exact g_iret (pc := 37) X rfl nz0.1 (hr _ hA) dX12_isName_37
    · replace h := if_f c4 h
      refine g_aload_n (pc := 22) X 0 rfl dX12_isName_22 ?_
      refine g_ldcS1 (pc := 23) X rfl dX12_isName_23 ?_
      obtain ⟨r2, hc1, h⟩ := bd_e h
      refine g_callV (pc := 25) X k_ml_X12_172 (run_Mo_inWords  hc1) s_92 rfl (room_ok (Nat.le_of_ble_eq_true rfl) (Nat.le_of_ble_eq_true rfl)) ⟨Nat.le_refl _, Nat.le_refl _⟩ _ rfl (Nat.le_of_ble_eq_true rfl) dX12_isName_25 ?_
      show Go V Γ M_X12_isName (Zm V Γ 6 fin) 28 [(0, .ref (V.2.2.1 + 92))] [.int r2] σ
      refine g_iconst (v := (-1)) (pc := 28) X rfl dX12_isName_28 ?_
      refine g_icmp_ne (pc := 29) (tgt := 36) X dX12_isName_29 rfl (fun c3 => ?_) (fun c3 => ?_)
      · replace h := if_f c3 h
        refine g_iconst (v := 0) (pc := 36) X rfl dX12_isName_36 ?_
        cases h
        exact g_iret (pc := 37) X rfl nz0.1 (hr _ hA) dX12_isName_37
      · replace h := if_t c3 h
        refine g_iconst (v := 1) (pc := 32) X rfl dX12_isName_32 ?_
        refine g_goto (pc := 33) (tgt := 37) X dX12_isName_33 rfl ?_
        cases h
        exact g_iret (pc := 37) X rfl nz1.1 (hr _ hA) dX12_isName_37
set_option maxRecDepth 100000 in
theorem run_Mo_isName {V : Ev} {σ : St} {o : Int32}   (h : Mo_isName σ = some o) : Rs V 6 M_X12_isName [.ref (V.2.2.1 + 92)] σ (some (.int o), σ) := by
  refine Rs.of (by decide +kernel) (Nat.le_of_ble_eq_true rfl) (fun Γ X => ?_)
  exact tm_Mo_isName X (A := fun o1 => o1 = o)  (fun _ e => by rw [e]) h rfl
theorem dX12_nameHere_0 : decode cX12_nameHere 0 = .ok (.lconst 0, 1) := by decide +kernel
theorem dX12_nameHere_1 : decode cX12_nameHere 1 = .ok (.lstore_n 1, 1) := by decide +kernel
theorem dX12_nameHere_2 : decode cX12_nameHere 2 = .ok (.aload_n 0, 1) := by decide +kernel
theorem dX12_nameHere_3 : decode cX12_nameHere 3 = .ok (.getfield 127, 3) := by decide +kernel
theorem dX12_nameHere_6 : decode cX12_nameHere 6 = .ok (.istore_n 3, 1) := by decide +kernel
theorem dX12_nameHere_7 : decode cX12_nameHere 7 = .ok (.iload_n 3, 1) := by decide +kernel
theorem dX12_nameHere_8 : decode cX12_nameHere 8 = .ok (.aload_n 0, 1) := by decide +kernel
theorem dX12_nameHere_9 : decode cX12_nameHere 9 = .ok (.getfield 121, 3) := by decide +kernel
theorem dX12_nameHere_12 : decode cX12_nameHere 12 = .ok (.if_icmp .ge 21, 3) := by decide +kernel
theorem dX12_nameHere_15 : decode cX12_nameHere 15 = .ok (.lload_n 1, 1) := by decide +kernel
theorem dX12_nameHere_16 : decode cX12_nameHere 16 = .ok (.bipush 8, 2) := by decide +kernel
theorem dX12_nameHere_18 : decode cX12_nameHere 18 = .ok (.lshl, 1) := by decide +kernel
theorem dX12_nameHere_19 : decode cX12_nameHere 19 = .ok (.aload_n 0, 1) := by decide +kernel
theorem dX12_nameHere_20 : decode cX12_nameHere 20 = .ok (.iload_n 3, 1) := by decide +kernel
theorem dX12_nameHere_21 : decode cX12_nameHere 21 = .ok (.invokevirtual 124, 3) := by decide +kernel
theorem dX12_nameHere_24 : decode cX12_nameHere 24 = .ok (.i2l, 1) := by decide +kernel
theorem dX12_nameHere_25 : decode cX12_nameHere 25 = .ok (.lor, 1) := by decide +kernel
theorem dX12_nameHere_26 : decode cX12_nameHere 26 = .ok (.lstore_n 1, 1) := by decide +kernel
theorem dX12_nameHere_27 : decode cX12_nameHere 27 = .ok (.iinc 3 1, 3) := by decide +kernel
theorem dX12_nameHere_30 : decode cX12_nameHere 30 = .ok (.goto (-23), 3) := by decide +kernel
theorem dX12_nameHere_33 : decode cX12_nameHere 33 = .ok (.lload_n 1, 1) := by decide +kernel
theorem dX12_nameHere_34 : decode cX12_nameHere 34 = .ok (.lreturn, 1) := by decide +kernel
noncomputable def Mo_nameHere_L7 (σ : St) (x1 : Int64) (x3 : Int32) : Option ((Int64 × Int32) ⊕ Int64) :=
  if (σ.1 92 14) ≤ x3 then (some (.inr x1)) else (bd (Mo_byteAt σ x3) (fun r3 => bnd (((x1 <<< ((8 : Int32).toInt64 &&& 63)) ||| r3.toInt64)) (fun v4 => bnd (x3 + 1) (fun v5 => some (.inl (v4, v5))))))
set_option maxRecDepth 100000 in
set_option maxHeartbeats 4000000 in
theorem tb_Mo_nameHere_L7 {V : Ev} {Γ : Cn} {fin : Option Value × St} {σ : St} {x1 : Int64} {x3 : Int32} {o : ((Int64 × Int32) ⊕ Int64)} (X : Cx V Γ M_X12_nameHere) {A : ((Int64 × Int32) ⊕ Int64) → Prop}  (hb7 : ∀ (x1 : Int64) (x3 : Int32), A (.inl (x1, x3)) → Go V Γ M_X12_nameHere (Zm V Γ 1 fin) 7 [(0, .ref (V.2.2.1 + 92)), (1, .long x1), (3, .int x3)] [] σ) (hx7 : ∀ (x1 : Int64), A (.inr x1) → Go V Γ M_X12_nameHere (Zm V Γ 1 fin) 33 [(1, .long x1)] [] σ) (h : Mo_nameHere_L7 σ x1 x3 = some o) (hA : A o) : Go V Γ M_X12_nameHere (Zm V Γ 1 fin) 7 [(0, .ref (V.2.2.1 + 92)), (1, .long x1), (3, .int x3)] [] σ := by
  unfold Mo_nameHere_L7 at h
  refine g_iload_n (pc := 7) X 2 rfl dX12_nameHere_7 ?_
  refine g_aload_n (pc := 8) X 0 rfl dX12_nameHere_8 ?_
  refine g_getI (pc := 9) X k_fl_X12_121 s_92 rfl dX12_nameHere_9 ?_
  refine g_icmp_ge (pc := 12) (tgt := 33) X dX12_nameHere_12 rfl (fun c6 => ?_) (fun c6 => ?_)
  · replace h := if_t c6 h
    refine g_sub [1] rfl ?_
    cases h
    exact hx7 _ hA
  · replace h := if_f c6 h
    refine g_lload_n (pc := 15) X 1 rfl dX12_nameHere_15 ?_
    refine g_bipush (v := 8) (pc := 16) X (by decide) dX12_nameHere_16 ?_
    refine g_lshl (pc := 18) X dX12_nameHere_18 ?_
    refine g_aload_n (pc := 19) X 0 rfl dX12_nameHere_19 ?_
    refine g_iload_n (pc := 20) X 2 rfl dX12_nameHere_20 ?_
    obtain ⟨r3, hc2, h⟩ := bd_e h
    refine g_callV (pc := 21) X k_ml_X12_124 (run_Mo_byteAt  hc2) s_92 rfl (room_ok (Nat.le_of_ble_eq_true rfl) (Nat.le_of_ble_eq_true rfl)) ⟨Nat.le_refl _, Nat.le_refl _⟩ _ rfl (Nat.le_of_ble_eq_true rfl) dX12_nameHere_21 ?_
    show Go V Γ M_X12_nameHere (Zm V Γ 1 fin) 24 [(0, .ref (V.2.2.1 + 92)), (1, .long x1), (3, .int x3)] [.int r3, .long (x1 <<< ((8 : Int32).toInt64 &&& 63))] σ
    refine g_i2l (pc := 24) X dX12_nameHere_24 ?_
    refine g_lor (pc := 25) X dX12_nameHere_25 ?_
    obtain ⟨v4, e_v4, h⟩ := bnd_e h
    refine g_nmL e_v4 ?_
    refine g_lstore_n (pc := 26) X [(1, .long v4), (0, .ref (V.2.2.1 + 92)), (3, .int x3)] rfl (Nat.le_of_ble_eq_true rfl) rfl dX12_nameHere_26 ?_
    obtain ⟨v5, e_v5, h⟩ := bnd_e h
    refine g_iinc (pc := 27) (v := v5) X [(3, .int v5), (1, .long v4), (0, .ref (V.2.2.1 + 92))] 2 rfl (by rw [e_v5]; rfl) (Nat.le_of_ble_eq_true rfl) rfl dX12_nameHere_27 ?_
    refine g_goto (pc := 30) (tgt := 7) X dX12_nameHere_30 rfl ?_
    refine g_sub [2, 1, 0] rfl ?_
    cases h
    exact hb7 _ _ hA
set_option maxRecDepth 100000 in
theorem tl_Mo_nameHere_L7 {V : Ev} {Γ : Cn} {fin : Option Value × St} {σ : St} {x1 : Int64} {x3 : Int32} (X : Cx V Γ M_X12_nameHere)  {y1 : Int64} {n : Nat} (h : iter (fun s : (Int64 × Int32) => Mo_nameHere_L7 σ s.1 s.2) n (x1, x3) = some y1) (hK : Go V Γ M_X12_nameHere (Zm V Γ 1 fin) 33 [(1, .long y1)] [] σ) : Go V Γ M_X12_nameHere (Zm V Γ 1 fin) 7 [(0, .ref (V.2.2.1 + 92)), (1, .long x1), (3, .int x3)] [] σ := by
  refine iter_go (G := (fun s : (Int64 × Int32) => Go V Γ M_X12_nameHere (Zm V Γ 1 fin) 7 [(0, .ref (V.2.2.1 + 92)), (1, .long s.1), (3, .int s.2)] [] σ)) (fun s o ho hS => ?_) n (x1, x3) h
  exact tb_Mo_nameHere_L7 X  (fun _ _ h9 => h9) (fun _ he => by cases he; exact hK) ho hS
noncomputable def Mo_nameHere (σ : St) : Option Int64 :=
  bnd ((σ.1 92 13)) (fun v1 => bd (iter (fun s : (Int64 × Int32) => Mo_nameHere_L7 σ s.1 s.2) FUEL (0, v1)) (fun v7 => some v7))
set_option maxRecDepth 100000 in
set_option maxHeartbeats 4000000 in
theorem tm_Mo_nameHere {V : Ev} {Γ : Cn} {fin : Option Value × St} {σ : St} {o : Int64} (X : Cx V Γ M_X12_nameHere) {A : Int64 → Prop}  (hr : ∀ (r : Int64), A r → (some (.long r), σ) = fin) (h : Mo_nameHere σ = some o) (hA : A o) : Go V Γ M_X12_nameHere (Zm V Γ 1 fin) 0 [(0, .ref (V.2.2.1 + 92))] [] σ := by
  unfold Mo_nameHere at h
  refine g_lconst (v := 0) (pc := 0) X rfl dX12_nameHere_0 ?_
  refine g_lstore_n (pc := 1) X [(1, .long 0), (0, .ref (V.2.2.1 + 92))] rfl (Nat.le_of_ble_eq_true rfl) rfl dX12_nameHere_1 ?_
  refine g_aload_n (pc := 2) X 1 rfl dX12_nameHere_2 ?_
  refine g_getI (pc := 3) X k_fl_X12_127 s_92 rfl dX12_nameHere_3 ?_
  obtain ⟨v1, e_v1, h⟩ := bnd_e h
  refine g_nmI e_v1 ?_
  refine g_istore_n (pc := 6) X [(3, .int v1), (1, .long 0), (0, .ref (V.2.2.1 + 92))] rfl (Nat.le_of_ble_eq_true rfl) rfl dX12_nameHere_6 ?_
  refine g_sub [2, 1, 0] rfl ?_
  obtain ⟨v7, hi8, h⟩ := bd_e h
  refine tl_Mo_nameHere_L7 X  hi8 ?_
  refine g_lload_n (pc := 33) X 0 rfl dX12_nameHere_33 ?_
  cases h
  exact g_lret (pc := 34) X rfl (hr _ hA) dX12_nameHere_34
set_option maxRecDepth 100000 in
theorem run_Mo_nameHere {V : Ev} {σ : St} {o : Int64}   (h : Mo_nameHere σ = some o) : Rs V 1 M_X12_nameHere [.ref (V.2.2.1 + 92)] σ (some (.long o), σ) := by
  refine Rs.of (by decide +kernel) (Nat.le_of_ble_eq_true rfl) (fun Γ X => ?_)
  exact tm_Mo_nameHere X (A := fun o1 => o1 = o)  (fun _ e => by rw [e]) h rfl
theorem dX12_findHere_0 : decode cX12_findHere 0 = .ok (.iconst 0, 1) := by decide +kernel
theorem dX12_findHere_1 : decode cX12_findHere 1 = .ok (.istore_n 3, 1) := by decide +kernel
theorem dX12_findHere_2 : decode cX12_findHere 2 = .ok (.iload_n 3, 1) := by decide +kernel
theorem dX12_findHere_3 : decode cX12_findHere 3 = .ok (.iload_n 2, 1) := by decide +kernel
theorem dX12_findHere_4 : decode cX12_findHere 4 = .ok (.if_icmp .ge 27, 3) := by decide +kernel
theorem dX12_findHere_7 : decode cX12_findHere 7 = .ok (.aload_n 0, 1) := by decide +kernel
theorem dX12_findHere_8 : decode cX12_findHere 8 = .ok (.getfield 13, 3) := by decide +kernel
theorem dX12_findHere_11 : decode cX12_findHere 11 = .ok (.iload_n 1, 1) := by decide +kernel
theorem dX12_findHere_12 : decode cX12_findHere 12 = .ok (.iload_n 3, 1) := by decide +kernel
theorem dX12_findHere_13 : decode cX12_findHere 13 = .ok (.iadd, 1) := by decide +kernel
theorem dX12_findHere_14 : decode cX12_findHere 14 = .ok (.laload, 1) := by decide +kernel
theorem dX12_findHere_15 : decode cX12_findHere 15 = .ok (.aload_n 0, 1) := by decide +kernel
theorem dX12_findHere_16 : decode cX12_findHere 16 = .ok (.invokevirtual 176, 3) := by decide +kernel
theorem dX12_findHere_19 : decode cX12_findHere 19 = .ok (.lcmp, 1) := by decide +kernel
theorem dX12_findHere_20 : decode cX12_findHere 20 = .ok (.ifCond .ne 5, 3) := by decide +kernel
theorem dX12_findHere_23 : decode cX12_findHere 23 = .ok (.iload_n 3, 1) := by decide +kernel
theorem dX12_findHere_24 : decode cX12_findHere 24 = .ok (.ireturn, 1) := by decide +kernel
theorem dX12_findHere_25 : decode cX12_findHere 25 = .ok (.iinc 3 1, 3) := by decide +kernel
theorem dX12_findHere_28 : decode cX12_findHere 28 = .ok (.goto (-26), 3) := by decide +kernel
theorem dX12_findHere_31 : decode cX12_findHere 31 = .ok (.iconst (-1), 1) := by decide +kernel
theorem dX12_findHere_32 : decode cX12_findHere 32 = .ok (.ireturn, 1) := by decide +kernel
noncomputable def Mo_findHere_L2 (l1 : Int32) (l2 : Int32) (σ : St) (x3 : Int32) : Option (Int32 ⊕ Int32) :=
  if l2 ≤ x3 then (some (.inr (-1))) else (chk (ix (l1 + x3) 60) (bd (Mo_nameHere σ) (fun r3 => if (σ.2 94 (tn (l1 + x3))) = r3 then (some (.inr x3)) else (bnd (x3 + 1) (fun v4 => some (.inl v4))))))
set_option maxRecDepth 100000 in
set_option maxHeartbeats 4000000 in
theorem tb_Mo_findHere_L2 {V : Ev} {Γ : Cn} {fin : Option Value × St} {l1 : Int32} {l2 : Int32} {σ : St} {x3 : Int32} {o : (Int32 ⊕ Int32)} (X : Cx V Γ M_X12_findHere) {A : (Int32 ⊕ Int32) → Prop}  (hr : ∀ (r : Int32), A (.inr r) → (some (.int r), σ) = fin) (hb2 : ∀ (x3 : Int32), A (.inl x3) → Go V Γ M_X12_findHere (Zm V Γ 2 fin) 2 [(0, .ref (V.2.2.1 + 92)), (1, .int l1), (2, .int l2), (3, .int x3)] [] σ) (h : Mo_findHere_L2 l1 l2 σ x3 = some o) (hA : A o) : Go V Γ M_X12_findHere (Zm V Γ 2 fin) 2 [(0, .ref (V.2.2.1 + 92)), (1, .int l1), (2, .int l2), (3, .int x3)] [] σ := by
  unfold Mo_findHere_L2 at h
  refine g_iload_n (pc := 2) X 3 rfl dX12_findHere_2 ?_
  refine g_iload_n (pc := 3) X 2 rfl dX12_findHere_3 ?_
  refine g_icmp_ge (pc := 4) (tgt := 31) X dX12_findHere_4 rfl (fun c6 => ?_) (fun c6 => ?_)
  · replace h := if_t c6 h
    refine g_iconst (v := (-1)) (pc := 31) X rfl dX12_findHere_31 ?_
    cases h
    exact g_iret (pc := 32) X rfl rfl (hr _ hA) dX12_findHere_32
  · replace h := if_f c6 h
    refine g_aload_n (pc := 7) X 0 rfl dX12_findHere_7 ?_
    refine g_getR (r := 94) (pc := 8) X k_fl_X12_13 s_92 rfl dX12_findHere_8 ?_
    refine g_iload_n (pc := 11) X 1 rfl dX12_findHere_11 ?_
    refine g_iload_n (pc := 12) X 3 rfl dX12_findHere_12 ?_
    refine g_iadd (pc := 13) X dX12_findHere_13 ?_
    obtain ⟨c1, h⟩ := chk_e h
    refine g_lald (pc := 14) X s_94 c1 dX12_findHere_14 ?_
    refine g_aload_n (pc := 15) X 0 rfl dX12_findHere_15 ?_
    obtain ⟨r3, hc2, h⟩ := bd_e h
    refine g_callV (pc := 16) X k_ml_X12_176 (run_Mo_nameHere  hc2) s_92 rfl (room_ok (Nat.le_of_ble_eq_true rfl) (Nat.le_of_ble_eq_true rfl)) ⟨Nat.le_refl _, Nat.le_refl _⟩ _ rfl (Nat.le_of_ble_eq_true rfl) dX12_findHere_16 ?_
    show Go V Γ M_X12_findHere (Zm V Γ 2 fin) 19 [(0, .ref (V.2.2.1 + 92)), (1, .int l1), (2, .int l2), (3, .int x3)] [.long r3, .long (σ.2 94 (tn (l1 + x3)))] σ
    refine g_lcmp_ne (pc := 19) (tgt := 25) X dX12_findHere_19 dX12_findHere_20 rfl (fun c5 => ?_) (fun c5 => ?_)
    · replace h := if_f c5 h
      obtain ⟨v4, e_v4, h⟩ := bnd_e h
      refine g_iinc (pc := 25) (v := v4) X [(3, .int v4), (0, .ref (V.2.2.1 + 92)), (1, .int l1), (2, .int l2)] 3 rfl (by rw [e_v4]; rfl) (Nat.le_of_ble_eq_true rfl) rfl dX12_findHere_25 ?_
      refine g_goto (pc := 28) (tgt := 2) X dX12_findHere_28 rfl ?_
      refine g_sub [1, 2, 3, 0] rfl ?_
      cases h
      exact hb2 _ hA
    · replace h := if_t c5 h
      refine g_iload_n (pc := 23) X 3 rfl dX12_findHere_23 ?_
      cases h
      exact g_iret (pc := 24) X rfl rfl (hr _ hA) dX12_findHere_24
set_option maxRecDepth 100000 in
theorem tl_Mo_findHere_L2 {V : Ev} {Γ : Cn} {fin : Option Value × St} {l1 : Int32} {l2 : Int32} {σ : St} {x3 : Int32} (X : Cx V Γ M_X12_findHere)  {e : Int32} {A : Int32 → Prop} (hr : ∀ (r : Int32), A r → (some (.int r), σ) = fin) {n : Nat} (h : iter (fun s : Int32 => Mo_findHere_L2 l1 l2 σ s) n x3 = some e) (hA : A e) : Go V Γ M_X12_findHere (Zm V Γ 2 fin) 2 [(0, .ref (V.2.2.1 + 92)), (1, .int l1), (2, .int l2), (3, .int x3)] [] σ := by
  refine iter_go (G := (fun s : Int32 => Go V Γ M_X12_findHere (Zm V Γ 2 fin) 2 [(0, .ref (V.2.2.1 + 92)), (1, .int l1), (2, .int l2), (3, .int s)] [] σ)) (fun s o ho hS => ?_) n x3 h
  exact tb_Mo_findHere_L2 X  (fun z0 he => hr z0 (by rw [he]; exact hA)) (fun _ h9 => h9) ho hS
noncomputable def Mo_findHere (σ : St) (p1 : Int32) (p2 : Int32) : Option Int32 :=
  iter (fun s : Int32 => Mo_findHere_L2 p1 p2 σ s) FUEL 0
set_option maxRecDepth 100000 in
set_option maxHeartbeats 4000000 in
theorem tm_Mo_findHere {V : Ev} {Γ : Cn} {fin : Option Value × St} {σ : St} {p1 : Int32} {p2 : Int32} {o : Int32} (X : Cx V Γ M_X12_findHere) {A : Int32 → Prop}  (hr : ∀ (r : Int32), A r → (some (.int r), σ) = fin) (h : Mo_findHere σ p1 p2 = some o) (hA : A o) : Go V Γ M_X12_findHere (Zm V Γ 2 fin) 0 [(0, .ref (V.2.2.1 + 92)), (1, .int p1), (2, .int p2)] [] σ := by
  unfold Mo_findHere at h
  refine g_iconst (v := 0) (pc := 0) X rfl dX12_findHere_0 ?_
  refine g_istore_n (pc := 1) X [(3, .int 0), (0, .ref (V.2.2.1 + 92)), (1, .int p1), (2, .int p2)] rfl (Nat.le_of_ble_eq_true rfl) rfl dX12_findHere_1 ?_
  refine g_sub [1, 2, 3, 0] rfl ?_
  exact tl_Mo_findHere_L2 X  hr h hA
set_option maxRecDepth 100000 in
theorem run_Mo_findHere {V : Ev} {σ : St} {p1 : Int32} {p2 : Int32} {o : Int32}   (h : Mo_findHere σ p1 p2 = some o) : Rs V 2 M_X12_findHere [.ref (V.2.2.1 + 92), .int p1, .int p2] σ (some (.int o), σ) := by
  refine Rs.of (by decide +kernel) (Nat.le_of_ble_eq_true rfl) (fun Γ X => ?_)
  exact tm_Mo_findHere X (A := fun o1 => o1 = o)  (fun _ e => by rw [e]) h rfl
theorem dX12_rowOf_0 : decode cX12_rowOf 0 = .ok (.iconst 4, 1) := by decide +kernel
theorem dX12_rowOf_1 : decode cX12_rowOf 1 = .ok (.iconst 3, 1) := by decide +kernel
theorem dX12_rowOf_2 : decode cX12_rowOf 2 = .ok (.iload_n 0, 1) := by decide +kernel
theorem dX12_rowOf_3 : decode cX12_rowOf 3 = .ok (.imul, 1) := by decide +kernel
theorem dX12_rowOf_4 : decode cX12_rowOf 4 = .ok (.iadd, 1) := by decide +kernel
theorem dX12_rowOf_5 : decode cX12_rowOf 5 = .ok (.ireturn, 1) := by decide +kernel
noncomputable def Mo_rowOf (p0 : Int32) : Option Int32 :=
  some (4 + (3 * p0))
set_option maxRecDepth 100000 in
set_option maxHeartbeats 4000000 in
theorem tm_Mo_rowOf {V : Ev} {Γ : Cn} {fin : Option Value × St} {σ : St} {p0 : Int32} {o : Int32} (X : Cx V Γ M_X12_rowOf) {A : Int32 → Prop}  (hr : ∀ (r : Int32), A r → (some (.int r), σ) = fin) (h : Mo_rowOf p0 = some o) (hA : A o) : Go V Γ M_X12_rowOf (Zm V Γ 0 fin) 0 [(0, .int p0)] [] σ := by
  unfold Mo_rowOf at h
  refine g_iconst (v := 4) (pc := 0) X rfl dX12_rowOf_0 ?_
  refine g_iconst (v := 3) (pc := 1) X rfl dX12_rowOf_1 ?_
  refine g_iload_n (pc := 2) X 0 rfl dX12_rowOf_2 ?_
  refine g_imul (pc := 3) X dX12_rowOf_3 ?_
  refine g_iadd (pc := 4) X dX12_rowOf_4 ?_
  cases h
  exact g_iret (pc := 5) X rfl rfl (hr _ hA) dX12_rowOf_5
set_option maxRecDepth 100000 in
theorem run_Mo_rowOf {V : Ev} {σ : St} {p0 : Int32} {o : Int32}   (h : Mo_rowOf p0 = some o) : Rs V 0 M_X12_rowOf [.int p0] σ (some (.int o), σ) := by
  refine Rs.of (by decide +kernel) (Nat.le_of_ble_eq_true rfl) (fun Γ X => ?_)
  exact tm_Mo_rowOf X (A := fun o1 => o1 = o)  (fun _ e => by rw [e]) h rfl
theorem dX12_isIn_0 : decode cX12_isIn 0 = .ok (.iload_n 0, 1) := by decide +kernel
theorem dX12_isIn_1 : decode cX12_isIn 1 = .ok (.iload_n 1, 1) := by decide +kernel
theorem dX12_isIn_2 : decode cX12_isIn 2 = .ok (.ishr, 1) := by decide +kernel
theorem dX12_isIn_3 : decode cX12_isIn 3 = .ok (.iconst 1, 1) := by decide +kernel
theorem dX12_isIn_4 : decode cX12_isIn 4 = .ok (.iand, 1) := by decide +kernel
theorem dX12_isIn_5 : decode cX12_isIn 5 = .ok (.iconst 1, 1) := by decide +kernel
theorem dX12_isIn_6 : decode cX12_isIn 6 = .ok (.if_icmp .ne 7, 3) := by decide +kernel
theorem dX12_isIn_9 : decode cX12_isIn 9 = .ok (.iconst 1, 1) := by decide +kernel
theorem dX12_isIn_10 : decode cX12_isIn 10 = .ok (.goto 4, 3) := by decide +kernel
theorem dX12_isIn_13 : decode cX12_isIn 13 = .ok (.iconst 0, 1) := by decide +kernel
theorem dX12_isIn_14 : decode cX12_isIn 14 = .ok (.ireturn, 1) := by decide +kernel
noncomputable def Mo_isIn (p0 : Int32) (p1 : Int32) : Option Int32 :=
  if ((p0 >>> (p1 &&& 31)) &&& 1) = 1 then (some 1) else (some 0)
set_option maxRecDepth 100000 in
set_option maxHeartbeats 4000000 in
theorem tm_Mo_isIn {V : Ev} {Γ : Cn} {fin : Option Value × St} {σ : St} {p0 : Int32} {p1 : Int32} {o : Int32} (X : Cx V Γ M_X12_isIn) {A : Int32 → Prop}  (hr : ∀ (r : Int32), A r → (some (.int r), σ) = fin) (h : Mo_isIn p0 p1 = some o) (hA : A o) : Go V Γ M_X12_isIn (Zm V Γ 0 fin) 0 [(0, .int p0), (1, .int p1)] [] σ := by
  unfold Mo_isIn at h
  refine g_iload_n (pc := 0) X 0 rfl dX12_isIn_0 ?_
  refine g_iload_n (pc := 1) X 1 rfl dX12_isIn_1 ?_
  refine g_ishr (pc := 2) X dX12_isIn_2 ?_
  refine g_iconst (v := 1) (pc := 3) X rfl dX12_isIn_3 ?_
  refine g_iand (pc := 4) X dX12_isIn_4 ?_
  refine g_iconst (v := 1) (pc := 5) X rfl dX12_isIn_5 ?_
  refine g_icmp_ne (pc := 6) (tgt := 13) X dX12_isIn_6 rfl (fun c1 => ?_) (fun c1 => ?_)
  · replace h := if_f c1 h
    refine g_iconst (v := 0) (pc := 13) X rfl dX12_isIn_13 ?_
    cases h
    exact g_iret (pc := 14) X rfl nz0.1 (hr _ hA) dX12_isIn_14
  · replace h := if_t c1 h
    refine g_iconst (v := 1) (pc := 9) X rfl dX12_isIn_9 ?_
    refine g_goto (pc := 10) (tgt := 14) X dX12_isIn_10 rfl ?_
    cases h
    exact g_iret (pc := 14) X rfl nz1.1 (hr _ hA) dX12_isIn_14
set_option maxRecDepth 100000 in
theorem run_Mo_isIn {V : Ev} {σ : St} {p0 : Int32} {p1 : Int32} {o : Int32}   (h : Mo_isIn p0 p1 = some o) : Rs V 0 M_X12_isIn [.int p0, .int p1] σ (some (.int o), σ) := by
  refine Rs.of (by decide +kernel) (Nat.le_of_ble_eq_true rfl) (fun Γ X => ?_)
  exact tm_Mo_isIn X (A := fun o1 => o1 = o)  (fun _ e => by rw [e]) h rfl
theorem dX12_aClass_0 : decode cX12_aClass 0 = .ok (.aload_n 0, 1) := by decide +kernel
theorem dX12_aClass_1 : decode cX12_aClass 1 = .ok (.getfield 7, 3) := by decide +kernel
theorem dX12_aClass_4 : decode cX12_aClass 4 = .ok (.sipush 1616, 3) := by decide +kernel
theorem dX12_aClass_7 : decode cX12_aClass 7 = .ok (.iaload, 1) := by decide +kernel
theorem dX12_aClass_8 : decode cX12_aClass 8 = .ok (.istore_n 1, 1) := by decide +kernel
theorem dX12_aClass_9 : decode cX12_aClass 9 = .ok (.sipush 1616, 3) := by decide +kernel
theorem dX12_aClass_12 : decode cX12_aClass 12 = .ok (.iload_n 1, 1) := by decide +kernel
theorem dX12_aClass_13 : decode cX12_aClass 13 = .ok (.invokestatic 180, 3) := by decide +kernel
theorem dX12_aClass_16 : decode cX12_aClass 16 = .ok (.iadd, 1) := by decide +kernel
theorem dX12_aClass_17 : decode cX12_aClass 17 = .ok (.istore_n 2, 1) := by decide +kernel
theorem dX12_aClass_18 : decode cX12_aClass 18 = .ok (.iload_n 1, 1) := by decide +kernel
theorem dX12_aClass_19 : decode cX12_aClass 19 = .ok (.bipush 12, 2) := by decide +kernel
theorem dX12_aClass_21 : decode cX12_aClass 21 = .ok (.if_icmp .ne 10, 3) := by decide +kernel
theorem dX12_aClass_24 : decode cX12_aClass 24 = .ok (.aload_n 0, 1) := by decide +kernel
theorem dX12_aClass_25 : decode cX12_aClass 25 = .ok (.bipush 6, 2) := by decide +kernel
theorem dX12_aClass_27 : decode cX12_aClass 27 = .ok (.invokevirtual 167, 3) := by decide +kernel
theorem dX12_aClass_30 : decode cX12_aClass 30 = .ok (.ireturn, 1) := by decide +kernel
theorem dX12_aClass_31 : decode cX12_aClass 31 = .ok (.aload_n 0, 1) := by decide +kernel
theorem dX12_aClass_32 : decode cX12_aClass 32 = .ok (.invokevirtual 161, 3) := by decide +kernel
theorem dX12_aClass_35 : decode cX12_aClass 35 = .ok (.aload_n 0, 1) := by decide +kernel
theorem dX12_aClass_36 : decode cX12_aClass 36 = .ok (.invokevirtual 183, 3) := by decide +kernel
theorem dX12_aClass_39 : decode cX12_aClass 39 = .ok (.ifCond .ne 9, 3) := by decide +kernel
theorem dX12_aClass_42 : decode cX12_aClass 42 = .ok (.aload_n 0, 1) := by decide +kernel
theorem dX12_aClass_43 : decode cX12_aClass 43 = .ok (.iconst 2, 1) := by decide +kernel
theorem dX12_aClass_44 : decode cX12_aClass 44 = .ok (.invokevirtual 167, 3) := by decide +kernel
theorem dX12_aClass_47 : decode cX12_aClass 47 = .ok (.ireturn, 1) := by decide +kernel
theorem dX12_aClass_48 : decode cX12_aClass 48 = .ok (.aload_n 0, 1) := by decide +kernel
theorem dX12_aClass_49 : decode cX12_aClass 49 = .ok (.bipush 48, 2) := by decide +kernel
theorem dX12_aClass_51 : decode cX12_aClass 51 = .ok (.iload_n 1, 1) := by decide +kernel
theorem dX12_aClass_52 : decode cX12_aClass 52 = .ok (.invokevirtual 187, 3) := by decide +kernel
theorem dX12_aClass_55 : decode cX12_aClass 55 = .ok (.iconst (-1), 1) := by decide +kernel
theorem dX12_aClass_56 : decode cX12_aClass 56 = .ok (.if_icmp .eq 9, 3) := by decide +kernel
theorem dX12_aClass_59 : decode cX12_aClass 59 = .ok (.aload_n 0, 1) := by decide +kernel
theorem dX12_aClass_60 : decode cX12_aClass 60 = .ok (.iconst 3, 1) := by decide +kernel
theorem dX12_aClass_61 : decode cX12_aClass 61 = .ok (.invokevirtual 167, 3) := by decide +kernel
theorem dX12_aClass_64 : decode cX12_aClass 64 = .ok (.ireturn, 1) := by decide +kernel
theorem dX12_aClass_65 : decode cX12_aClass 65 = .ok (.aload_n 0, 1) := by decide +kernel
theorem dX12_aClass_66 : decode cX12_aClass 66 = .ok (.getfield 13, 3) := by decide +kernel
theorem dX12_aClass_69 : decode cX12_aClass 69 = .ok (.bipush 48, 2) := by decide +kernel
theorem dX12_aClass_71 : decode cX12_aClass 71 = .ok (.iload_n 1, 1) := by decide +kernel
theorem dX12_aClass_72 : decode cX12_aClass 72 = .ok (.iadd, 1) := by decide +kernel
theorem dX12_aClass_73 : decode cX12_aClass 73 = .ok (.aload_n 0, 1) := by decide +kernel
theorem dX12_aClass_74 : decode cX12_aClass 74 = .ok (.invokevirtual 176, 3) := by decide +kernel
theorem dX12_aClass_77 : decode cX12_aClass 77 = .ok (.lastore, 1) := by decide +kernel
theorem dX12_aClass_78 : decode cX12_aClass 78 = .ok (.aload_n 0, 1) := by decide +kernel
theorem dX12_aClass_79 : decode cX12_aClass 79 = .ok (.invokevirtual 161, 3) := by decide +kernel
theorem dX12_aClass_82 : decode cX12_aClass 82 = .ok (.aload_n 0, 1) := by decide +kernel
theorem dX12_aClass_83 : decode cX12_aClass 83 = .ok (.iconst 2, 1) := by decide +kernel
theorem dX12_aClass_84 : decode cX12_aClass 84 = .ok (.invokevirtual 190, 3) := by decide +kernel
theorem dX12_aClass_87 : decode cX12_aClass 87 = .ok (.ifCond .eq 35, 3) := by decide +kernel
theorem dX12_aClass_90 : decode cX12_aClass 90 = .ok (.aload_n 0, 1) := by decide +kernel
theorem dX12_aClass_91 : decode cX12_aClass 91 = .ok (.iload_n 2, 1) := by decide +kernel
theorem dX12_aClass_92 : decode cX12_aClass 92 = .ok (.iconst 0, 1) := by decide +kernel
theorem dX12_aClass_93 : decode cX12_aClass 93 = .ok (.bipush 59, 2) := by decide +kernel
theorem dX12_aClass_95 : decode cX12_aClass 95 = .ok (.invokevirtual 193, 3) := by decide +kernel
theorem dX12_aClass_98 : decode cX12_aClass 98 = .ok (.ifCond .eq 24, 3) := by decide +kernel
theorem dX12_aClass_101 : decode cX12_aClass 101 = .ok (.aload_n 0, 1) := by decide +kernel
theorem dX12_aClass_102 : decode cX12_aClass 102 = .ok (.iconst 3, 1) := by decide +kernel
theorem dX12_aClass_103 : decode cX12_aClass 103 = .ok (.invokevirtual 190, 3) := by decide +kernel
theorem dX12_aClass_106 : decode cX12_aClass 106 = .ok (.ifCond .eq 16, 3) := by decide +kernel
theorem dX12_aClass_109 : decode cX12_aClass 109 = .ok (.aload_n 0, 1) := by decide +kernel
theorem dX12_aClass_110 : decode cX12_aClass 110 = .ok (.iload_n 2, 1) := by decide +kernel
theorem dX12_aClass_111 : decode cX12_aClass 111 = .ok (.iconst 1, 1) := by decide +kernel
theorem dX12_aClass_112 : decode cX12_aClass 112 = .ok (.iadd, 1) := by decide +kernel
theorem dX12_aClass_113 : decode cX12_aClass 113 = .ok (.iconst 1, 1) := by decide +kernel
theorem dX12_aClass_114 : decode cX12_aClass 114 = .ok (.bipush 60, 2) := by decide +kernel
theorem dX12_aClass_116 : decode cX12_aClass 116 = .ok (.invokevirtual 193, 3) := by decide +kernel
theorem dX12_aClass_119 : decode cX12_aClass 119 = .ok (.ifCond .ne 5, 3) := by decide +kernel
theorem dX12_aClass_122 : decode cX12_aClass 122 = .ok (.iconst 0, 1) := by decide +kernel
theorem dX12_aClass_123 : decode cX12_aClass 123 = .ok (.ireturn, 1) := by decide +kernel
theorem dX12_aClass_124 : decode cX12_aClass 124 = .ok (.aload_n 0, 1) := by decide +kernel
theorem dX12_aClass_125 : decode cX12_aClass 125 = .ok (.getfield 7, 3) := by decide +kernel
theorem dX12_aClass_128 : decode cX12_aClass 128 = .ok (.iload_n 2, 1) := by decide +kernel
theorem dX12_aClass_129 : decode cX12_aClass 129 = .ok (.dup2, 1) := by decide +kernel
theorem dX12_aClass_130 : decode cX12_aClass 130 = .ok (.iaload, 1) := by decide +kernel
theorem dX12_aClass_131 : decode cX12_aClass 131 = .ok (.aload_n 0, 1) := by decide +kernel
theorem dX12_aClass_132 : decode cX12_aClass 132 = .ok (.getfield 7, 3) := by decide +kernel
theorem dX12_aClass_135 : decode cX12_aClass 135 = .ok (.iload_n 2, 1) := by decide +kernel
theorem dX12_aClass_136 : decode cX12_aClass 136 = .ok (.iconst 1, 1) := by decide +kernel
theorem dX12_aClass_137 : decode cX12_aClass 137 = .ok (.iadd, 1) := by decide +kernel
theorem dX12_aClass_138 : decode cX12_aClass 138 = .ok (.iaload, 1) := by decide +kernel
theorem dX12_aClass_139 : decode cX12_aClass 139 = .ok (.irem, 1) := by decide +kernel
theorem dX12_aClass_140 : decode cX12_aClass 140 = .ok (.iastore, 1) := by decide +kernel
theorem dX12_aClass_141 : decode cX12_aClass 141 = .ok (.aload_n 0, 1) := by decide +kernel
theorem dX12_aClass_142 : decode cX12_aClass 142 = .ok (.getfield 7, 3) := by decide +kernel
theorem dX12_aClass_145 : decode cX12_aClass 145 = .ok (.iload_n 2, 1) := by decide +kernel
theorem dX12_aClass_146 : decode cX12_aClass 146 = .ok (.iconst 2, 1) := by decide +kernel
theorem dX12_aClass_147 : decode cX12_aClass 147 = .ok (.iadd, 1) := by decide +kernel
theorem dX12_aClass_148 : decode cX12_aClass 148 = .ok (.iconst 1, 1) := by decide +kernel
theorem dX12_aClass_149 : decode cX12_aClass 149 = .ok (.iastore, 1) := by decide +kernel
theorem dX12_aClass_150 : decode cX12_aClass 150 = .ok (.aload_n 0, 1) := by decide +kernel
theorem dX12_aClass_151 : decode cX12_aClass 151 = .ok (.ldc 170, 2) := by decide +kernel
theorem dX12_aClass_153 : decode cX12_aClass 153 = .ok (.invokevirtual 172, 3) := by decide +kernel
theorem dX12_aClass_156 : decode cX12_aClass 156 = .ok (.iconst 4, 1) := by decide +kernel
theorem dX12_aClass_157 : decode cX12_aClass 157 = .ok (.if_icmp .ne 16, 3) := by decide +kernel
theorem dX12_aClass_160 : decode cX12_aClass 160 = .ok (.aload_n 0, 1) := by decide +kernel
theorem dX12_aClass_161 : decode cX12_aClass 161 = .ok (.getfield 7, 3) := by decide +kernel
theorem dX12_aClass_164 : decode cX12_aClass 164 = .ok (.iload_n 2, 1) := by decide +kernel
theorem dX12_aClass_165 : decode cX12_aClass 165 = .ok (.iconst 2, 1) := by decide +kernel
theorem dX12_aClass_166 : decode cX12_aClass 166 = .ok (.iadd, 1) := by decide +kernel
theorem dX12_aClass_167 : decode cX12_aClass 167 = .ok (.iconst 0, 1) := by decide +kernel
theorem dX12_aClass_168 : decode cX12_aClass 168 = .ok (.iastore, 1) := by decide +kernel
theorem dX12_aClass_169 : decode cX12_aClass 169 = .ok (.aload_n 0, 1) := by decide +kernel
theorem dX12_aClass_170 : decode cX12_aClass 170 = .ok (.invokevirtual 161, 3) := by decide +kernel
theorem dX12_aClass_173 : decode cX12_aClass 173 = .ok (.aload_n 0, 1) := by decide +kernel
theorem dX12_aClass_174 : decode cX12_aClass 174 = .ok (.getfield 7, 3) := by decide +kernel
theorem dX12_aClass_177 : decode cX12_aClass 177 = .ok (.sipush 1616, 3) := by decide +kernel
theorem dX12_aClass_180 : decode cX12_aClass 180 = .ok (.dup2, 1) := by decide +kernel
theorem dX12_aClass_181 : decode cX12_aClass 181 = .ok (.iaload, 1) := by decide +kernel
theorem dX12_aClass_182 : decode cX12_aClass 182 = .ok (.iconst 1, 1) := by decide +kernel
theorem dX12_aClass_183 : decode cX12_aClass 183 = .ok (.iadd, 1) := by decide +kernel
theorem dX12_aClass_184 : decode cX12_aClass 184 = .ok (.iastore, 1) := by decide +kernel
theorem dX12_aClass_185 : decode cX12_aClass 185 = .ok (.aload_n 0, 1) := by decide +kernel
theorem dX12_aClass_186 : decode cX12_aClass 186 = .ok (.bipush 59, 2) := by decide +kernel
theorem dX12_aClass_188 : decode cX12_aClass 188 = .ok (.invokevirtual 197, 3) := by decide +kernel
theorem dX12_aClass_191 : decode cX12_aClass 191 = .ok (.ireturn, 1) := by decide +kernel
noncomputable def Mo_aClass_J173 (σ : St) : Option ((Int32 × St)) :=
  chk (ix 1616 2060) (chk (ix 1616 2060) (bnd (wI σ 93 (tn 1616) ((σ.1 93 (tn 1616)) + 1)) (fun σ41 => bd2 (Mo_wantSign σ41 59) (fun r43 σ44 => chk (ckz r43) (some (r43, σ44))))))
set_option maxRecDepth 100000 in
set_option maxHeartbeats 4000000 in
theorem tj_Mo_aClass_J173 {V : Ev} {Γ : Cn} {fin : Option Value × St} {σ : St} {o : (Int32 × St)} (X : Cx V Γ M_X12_aClass) {A : (Int32 × St) → Prop}  (hr : ∀ (r : Int32) (σ9 : St), A (r, σ9) → (some (.int r), σ9) = fin) (h : Mo_aClass_J173 σ = some o) (hA : A o) : Go V Γ M_X12_aClass (Zm V Γ 7 fin) 173 [(0, .ref (V.2.2.1 + 92))] [] σ := by
  unfold Mo_aClass_J173 at h
  refine g_aload_n (pc := 173) X 0 rfl dX12_aClass_173 ?_
  refine g_getR (r := 93) (pc := 174) X k_fl_X12_7 s_92 rfl dX12_aClass_174 ?_
  refine g_sipush (v := 1616) (pc := 177) X (by decide) dX12_aClass_177 ?_
  refine g_dup2 (pc := 180) X rfl rfl dX12_aClass_180 ?_
  obtain ⟨c39, h⟩ := chk_e h
  refine g_iald (pc := 181) X s_93 c39 dX12_aClass_181 ?_
  refine g_iconst (v := 1) (pc := 182) X rfl dX12_aClass_182 ?_
  refine g_iadd (pc := 183) X dX12_aClass_183 ?_
  obtain ⟨c40, h⟩ := chk_e h
  refine g_iast (pc := 184) X s_93 c40 dX12_aClass_184 ?_
  obtain ⟨σ41, e_σ41, h⟩ := bnd_e h
  refine g_nmS e_σ41 ?_
  refine g_aload_n (pc := 185) X 0 rfl dX12_aClass_185 ?_
  refine g_bipush (v := 59) (pc := 186) X (by decide) dX12_aClass_186 ?_
  obtain ⟨r43, σ44, hc42, h⟩ := bd2_e h
  refine g_callV (pc := 188) X k_ml_X12_197 (run_Mo_wantSign  hc42) s_92 rfl (room_ok (Nat.le_of_ble_eq_true rfl) (Nat.le_of_ble_eq_true rfl)) ⟨Nat.le_refl _, Nat.le_refl _⟩ _ rfl (Nat.le_of_ble_eq_true rfl) dX12_aClass_188 ?_
  show Go V Γ M_X12_aClass (Zm V Γ 7 fin) 191 [(0, .ref (V.2.2.1 + 92))] [.int r43] σ44
  obtain ⟨c45, h⟩ := chk_e h
  cases h
  exact g_iret (pc := 191) X rfl (ckz_e c45).1 (hr _ _ hA) dX12_aClass_191
noncomputable def Mo_aClass (σ : St) : Option (Int32 × St) :=
  chk (ix 1616 2060) (bnd ((σ.1 93 (tn 1616))) (fun v2 => bd (Mo_rowOf v2) (fun r4 => bnd ((1616 + r4)) (fun v5 => if v2 = 12 then (bd2 (Mo_fails σ 6) (fun r66 σ67 => chk (ckz r66) (some (r66, σ67)))) else (bd (Mo_ahead σ) (fun σ7 => bd (Mo_isName σ7) (fun r9 => if r9 = 0 then (bd2 (Mo_fails σ7 2) (fun r61 σ62 => chk (ckz r61) (some (r61, σ62)))) else (bd (Mo_findHere σ7 48 v2) (fun r11 => if r11 = (-1) then (bd (Mo_nameHere σ7) (fun r13 => chk (ix (48 + v2) 60) (bnd (wL σ7 94 (tn (48 + v2)) r13) (fun σ15 => bd (Mo_ahead σ15) (fun σ17 => bd2 (Mo_wantWord σ17 2) (fun r19 σ20 => if r19 = 0 then (some (0, σ20)) else (bd2 (Mo_number σ20 v5 0 59) (fun r22 σ23 => if r22 = 0 then (some (0, σ23)) else (bd2 (Mo_wantWord σ23 3) (fun r25 σ26 => if r25 = 0 then (some (0, σ26)) else (bd2 (Mo_number σ26 (v5 + 1) 1 60) (fun r28 σ29 => if r28 = 0 then (some (0, σ29)) else (chk (ix v5 2060) (chk (ix (v5 + 1) 2060) (chk (nzI (σ29.1 93 (tn (v5 + 1)))) (chk (ix v5 2060) (bnd (wI σ29 93 (tn v5) (jrem (σ29.1 93 (tn v5)) (σ29.1 93 (tn (v5 + 1))))) (fun σ34 => chk (ix (v5 + 2) 2060) (bnd (wI σ34 93 (tn (v5 + 2)) 1) (fun σ36 => bd (Mo_inWords σ36) (fun r38 => if r38 = 4 then (chk (ix (v5 + 2) 2060) (bnd (wI σ36 93 (tn (v5 + 2)) 0) (fun σ47 => bd (Mo_ahead σ47) (fun σ49 => Mo_aClass_J173 σ49)))) else (Mo_aClass_J173 σ36)))))))))))))))))))))) else (bd2 (Mo_fails σ7 3) (fun r56 σ57 => chk (ckz r56) (some (r56, σ57)))))))))))))
set_option maxRecDepth 100000 in
set_option maxHeartbeats 4000000 in
theorem tm_Mo_aClass {V : Ev} {Γ : Cn} {fin : Option Value × St} {σ : St} {o : (Int32 × St)} (X : Cx V Γ M_X12_aClass) {A : (Int32 × St) → Prop}  (hr : ∀ (r : Int32) (σ9 : St), A (r, σ9) → (some (.int r), σ9) = fin) (h : Mo_aClass σ = some o) (hA : A o) : Go V Γ M_X12_aClass (Zm V Γ 7 fin) 0 [(0, .ref (V.2.2.1 + 92))] [] σ := by
  unfold Mo_aClass at h
  refine g_aload_n (pc := 0) X 0 rfl dX12_aClass_0 ?_
  refine g_getR (r := 93) (pc := 1) X k_fl_X12_7 s_92 rfl dX12_aClass_1 ?_
  refine g_sipush (v := 1616) (pc := 4) X (by decide) dX12_aClass_4 ?_
  obtain ⟨c1, h⟩ := chk_e h
  refine g_iald (pc := 7) X s_93 c1 dX12_aClass_7 ?_
  obtain ⟨v2, e_v2, h⟩ := bnd_e h
  refine g_nmI e_v2 ?_
  refine g_istore_n (pc := 8) X [(1, .int v2), (0, .ref (V.2.2.1 + 92))] rfl (Nat.le_of_ble_eq_true rfl) rfl dX12_aClass_8 ?_
  refine g_sipush (v := 1616) (pc := 9) X (by decide) dX12_aClass_9 ?_
  refine g_iload_n (pc := 12) X 0 rfl dX12_aClass_12 ?_
  obtain ⟨r4, hc3, h⟩ := bd_e h
  refine g_callS (pc := 13) X k_ml_X12_180 (run_Mo_rowOf  hc3) rfl (room_ok (Nat.le_of_ble_eq_true rfl) (Nat.le_of_ble_eq_true rfl)) ⟨Nat.le_refl _, Nat.le_refl _⟩ _ rfl (Nat.le_of_ble_eq_true rfl) dX12_aClass_13 ?_
  show Go V Γ M_X12_aClass (Zm V Γ 7 fin) 16 [(1, .int v2), (0, .ref (V.2.2.1 + 92))] [.int r4, .int 1616] σ
  refine g_iadd (pc := 16) X dX12_aClass_16 ?_
  obtain ⟨v5, e_v5, h⟩ := bnd_e h
  refine g_nmI e_v5 ?_
  refine g_istore_n (pc := 17) X [(2, .int v5), (1, .int v2), (0, .ref (V.2.2.1 + 92))] rfl (Nat.le_of_ble_eq_true rfl) rfl dX12_aClass_17 ?_
  refine g_iload_n (pc := 18) X 1 rfl dX12_aClass_18 ?_
  refine g_bipush (v := 12) (pc := 19) X (by decide) dX12_aClass_19 ?_
  refine g_icmp_ne (pc := 21) (tgt := 31) X dX12_aClass_21 rfl (fun c69 => ?_) (fun c69 => ?_)
  · replace h := if_f c69 h
    refine g_aload_n (pc := 31) X 2 rfl dX12_aClass_31 ?_
    obtain ⟨σ7, hc6, h⟩ := bd_e h
    refine g_callV (pc := 32) X k_ml_X12_161 (run_Mo_ahead  hc6) s_92 rfl (room_ok (Nat.le_of_ble_eq_true rfl) (Nat.le_of_ble_eq_true rfl)) ⟨Nat.le_refl _, Nat.le_refl _⟩ _ rfl (Nat.le_of_ble_eq_true rfl) dX12_aClass_32 ?_
    show Go V Γ M_X12_aClass (Zm V Γ 7 fin) 35 [(2, .int v5), (1, .int v2), (0, .ref (V.2.2.1 + 92))] [] σ7
    refine g_aload_n (pc := 35) X 2 rfl dX12_aClass_35 ?_
    obtain ⟨r9, hc8, h⟩ := bd_e h
    refine g_callV (pc := 36) X k_ml_X12_183 (run_Mo_isName  hc8) s_92 rfl (room_ok (Nat.le_of_ble_eq_true rfl) (Nat.le_of_ble_eq_true rfl)) ⟨Nat.le_refl _, Nat.le_refl _⟩ _ rfl (Nat.le_of_ble_eq_true rfl) dX12_aClass_36 ?_
    show Go V Γ M_X12_aClass (Zm V Γ 7 fin) 39 [(2, .int v5), (1, .int v2), (0, .ref (V.2.2.1 + 92))] [.int r9] σ7
    refine g_if_ne (pc := 39) (tgt := 48) X dX12_aClass_39 rfl (fun c64 => ?_) (fun c64 => ?_)
    · replace h := if_f c64 h
      refine g_aload_n (pc := 48) X 2 rfl dX12_aClass_48 ?_
      refine g_bipush (v := 48) (pc := 49) X (by decide) dX12_aClass_49 ?_
      refine g_iload_n (pc := 51) X 1 rfl dX12_aClass_51 ?_
      obtain ⟨r11, hc10, h⟩ := bd_e h
      refine g_callV (pc := 52) X k_ml_X12_187 (run_Mo_findHere  hc10) s_92 rfl (room_ok (Nat.le_of_ble_eq_true rfl) (Nat.le_of_ble_eq_true rfl)) ⟨Nat.le_refl _, Nat.le_refl _⟩ _ rfl (Nat.le_of_ble_eq_true rfl) dX12_aClass_52 ?_
      show Go V Γ M_X12_aClass (Zm V Γ 7 fin) 55 [(2, .int v5), (1, .int v2), (0, .ref (V.2.2.1 + 92))] [.int r11] σ7
      refine g_iconst (v := (-1)) (pc := 55) X rfl dX12_aClass_55 ?_
      refine g_icmp_eq (pc := 56) (tgt := 65) X dX12_aClass_56 rfl (fun c59 => ?_) (fun c59 => ?_)
      · replace h := if_t c59 h
        refine g_aload_n (pc := 65) X 2 rfl dX12_aClass_65 ?_
        refine g_getR (r := 94) (pc := 66) X k_fl_X12_13 s_92 rfl dX12_aClass_66 ?_
        refine g_bipush (v := 48) (pc := 69) X (by decide) dX12_aClass_69 ?_
        refine g_iload_n (pc := 71) X 1 rfl dX12_aClass_71 ?_
        refine g_iadd (pc := 72) X dX12_aClass_72 ?_
        refine g_aload_n (pc := 73) X 2 rfl dX12_aClass_73 ?_
        obtain ⟨r13, hc12, h⟩ := bd_e h
        refine g_callV (pc := 74) X k_ml_X12_176 (run_Mo_nameHere  hc12) s_92 rfl (room_ok (Nat.le_of_ble_eq_true rfl) (Nat.le_of_ble_eq_true rfl)) ⟨Nat.le_refl _, Nat.le_refl _⟩ _ rfl (Nat.le_of_ble_eq_true rfl) dX12_aClass_74 ?_
        show Go V Γ M_X12_aClass (Zm V Γ 7 fin) 77 [(2, .int v5), (1, .int v2), (0, .ref (V.2.2.1 + 92))] [.long r13, .int (48 + v2), .ref (V.2.2.1 + 94)] σ7
        obtain ⟨c14, h⟩ := chk_e h
        refine g_last (pc := 77) X s_94 c14 dX12_aClass_77 ?_
        obtain ⟨σ15, e_σ15, h⟩ := bnd_e h
        refine g_nmS e_σ15 ?_
        refine g_aload_n (pc := 78) X 2 rfl dX12_aClass_78 ?_
        obtain ⟨σ17, hc16, h⟩ := bd_e h
        refine g_callV (pc := 79) X k_ml_X12_161 (run_Mo_ahead  hc16) s_92 rfl (room_ok (Nat.le_of_ble_eq_true rfl) (Nat.le_of_ble_eq_true rfl)) ⟨Nat.le_refl _, Nat.le_refl _⟩ _ rfl (Nat.le_of_ble_eq_true rfl) dX12_aClass_79 ?_
        show Go V Γ M_X12_aClass (Zm V Γ 7 fin) 82 [(2, .int v5), (1, .int v2), (0, .ref (V.2.2.1 + 92))] [] σ17
        refine g_aload_n (pc := 82) X 2 rfl dX12_aClass_82 ?_
        refine g_iconst (v := 2) (pc := 83) X rfl dX12_aClass_83 ?_
        obtain ⟨r19, σ20, hc18, h⟩ := bd2_e h
        refine g_callV (pc := 84) X k_ml_X12_190 (run_Mo_wantWord  hc18) s_92 rfl (room_ok (Nat.le_of_ble_eq_true rfl) (Nat.le_of_ble_eq_true rfl)) ⟨Nat.le_refl _, Nat.le_refl _⟩ _ rfl (Nat.le_of_ble_eq_true rfl) dX12_aClass_84 ?_
        show Go V Γ M_X12_aClass (Zm V Γ 7 fin) 87 [(2, .int v5), (1, .int v2), (0, .ref (V.2.2.1 + 92))] [.int r19] σ20
        refine g_if_eq (pc := 87) (tgt := 122) X dX12_aClass_87 rfl (fun c54 => ?_) (fun c54 => ?_)
        · replace h := if_t c54 h
          refine g_iconst (v := 0) (pc := 122) X rfl dX12_aClass_122 ?_
          cases h
          exact g_iret (pc := 123) X rfl nz0.1 (hr _ _ hA) dX12_aClass_123
        · replace h := if_f c54 h
          refine g_aload_n (pc := 90) X 2 rfl dX12_aClass_90 ?_
          refine g_iload_n (pc := 91) X 0 rfl dX12_aClass_91 ?_
          refine g_iconst (v := 0) (pc := 92) X rfl dX12_aClass_92 ?_
          refine g_bipush (v := 59) (pc := 93) X (by decide) dX12_aClass_93 ?_
          obtain ⟨r22, σ23, hc21, h⟩ := bd2_e h
          refine g_callV (pc := 95) X k_ml_X12_193 (run_Mo_number  hc21) s_92 rfl (room_ok (Nat.le_of_ble_eq_true rfl) (Nat.le_of_ble_eq_true rfl)) ⟨Nat.le_refl _, Nat.le_refl _⟩ _ rfl (Nat.le_of_ble_eq_true rfl) dX12_aClass_95 ?_
          show Go V Γ M_X12_aClass (Zm V Γ 7 fin) 98 [(2, .int v5), (1, .int v2), (0, .ref (V.2.2.1 + 92))] [.int r22] σ23
          refine g_if_eq (pc := 98) (tgt := 122) X dX12_aClass_98 rfl (fun c53 => ?_) (fun c53 => ?_)
          · replace h := if_t c53 h
            refine g_iconst (v := 0) (pc := 122) X rfl dX12_aClass_122 ?_
            cases h
            exact g_iret (pc := 123) X rfl nz0.1 (hr _ _ hA) dX12_aClass_123
          · replace h := if_f c53 h
            refine g_aload_n (pc := 101) X 2 rfl dX12_aClass_101 ?_
            refine g_iconst (v := 3) (pc := 102) X rfl dX12_aClass_102 ?_
            obtain ⟨r25, σ26, hc24, h⟩ := bd2_e h
            refine g_callV (pc := 103) X k_ml_X12_190 (run_Mo_wantWord  hc24) s_92 rfl (room_ok (Nat.le_of_ble_eq_true rfl) (Nat.le_of_ble_eq_true rfl)) ⟨Nat.le_refl _, Nat.le_refl _⟩ _ rfl (Nat.le_of_ble_eq_true rfl) dX12_aClass_103 ?_
            show Go V Γ M_X12_aClass (Zm V Γ 7 fin) 106 [(2, .int v5), (1, .int v2), (0, .ref (V.2.2.1 + 92))] [.int r25] σ26
            refine g_if_eq (pc := 106) (tgt := 122) X dX12_aClass_106 rfl (fun c52 => ?_) (fun c52 => ?_)
            · replace h := if_t c52 h
              refine g_iconst (v := 0) (pc := 122) X rfl dX12_aClass_122 ?_
              cases h
              exact g_iret (pc := 123) X rfl nz0.1 (hr _ _ hA) dX12_aClass_123
            · replace h := if_f c52 h
              refine g_aload_n (pc := 109) X 2 rfl dX12_aClass_109 ?_
              refine g_iload_n (pc := 110) X 0 rfl dX12_aClass_110 ?_
              refine g_iconst (v := 1) (pc := 111) X rfl dX12_aClass_111 ?_
              refine g_iadd (pc := 112) X dX12_aClass_112 ?_
              refine g_iconst (v := 1) (pc := 113) X rfl dX12_aClass_113 ?_
              refine g_bipush (v := 60) (pc := 114) X (by decide) dX12_aClass_114 ?_
              obtain ⟨r28, σ29, hc27, h⟩ := bd2_e h
              refine g_callV (pc := 116) X k_ml_X12_193 (run_Mo_number  hc27) s_92 rfl (room_ok (Nat.le_of_ble_eq_true rfl) (Nat.le_of_ble_eq_true rfl)) ⟨Nat.le_refl _, Nat.le_refl _⟩ _ rfl (Nat.le_of_ble_eq_true rfl) dX12_aClass_116 ?_
              show Go V Γ M_X12_aClass (Zm V Γ 7 fin) 119 [(2, .int v5), (1, .int v2), (0, .ref (V.2.2.1 + 92))] [.int r28] σ29
              refine g_if_ne (pc := 119) (tgt := 124) X dX12_aClass_119 rfl (fun c51 => ?_) (fun c51 => ?_)
              · replace h := if_f c51 h
                refine g_aload_n (pc := 124) X 2 rfl dX12_aClass_124 ?_
                refine g_getR (r := 93) (pc := 125) X k_fl_X12_7 s_92 rfl dX12_aClass_125 ?_
                refine g_iload_n (pc := 128) X 0 rfl dX12_aClass_128 ?_
                refine g_dup2 (pc := 129) X rfl rfl dX12_aClass_129 ?_
                obtain ⟨c30, h⟩ := chk_e h
                refine g_iald (pc := 130) X s_93 c30 dX12_aClass_130 ?_
                refine g_aload_n (pc := 131) X 2 rfl dX12_aClass_131 ?_
                refine g_getR (r := 93) (pc := 132) X k_fl_X12_7 s_92 rfl dX12_aClass_132 ?_
                refine g_iload_n (pc := 135) X 0 rfl dX12_aClass_135 ?_
                refine g_iconst (v := 1) (pc := 136) X rfl dX12_aClass_136 ?_
                refine g_iadd (pc := 137) X dX12_aClass_137 ?_
                obtain ⟨c31, h⟩ := chk_e h
                refine g_iald (pc := 138) X s_93 c31 dX12_aClass_138 ?_
                obtain ⟨c32, h⟩ := chk_e h
                refine g_irem (pc := 139) X (nzI_e c32) dX12_aClass_139 ?_
                obtain ⟨c33, h⟩ := chk_e h
                refine g_iast (pc := 140) X s_93 c33 dX12_aClass_140 ?_
                obtain ⟨σ34, e_σ34, h⟩ := bnd_e h
                refine g_nmS e_σ34 ?_
                refine g_aload_n (pc := 141) X 2 rfl dX12_aClass_141 ?_
                refine g_getR (r := 93) (pc := 142) X k_fl_X12_7 s_92 rfl dX12_aClass_142 ?_
                refine g_iload_n (pc := 145) X 0 rfl dX12_aClass_145 ?_
                refine g_iconst (v := 2) (pc := 146) X rfl dX12_aClass_146 ?_
                refine g_iadd (pc := 147) X dX12_aClass_147 ?_
                refine g_iconst (v := 1) (pc := 148) X rfl dX12_aClass_148 ?_
                obtain ⟨c35, h⟩ := chk_e h
                refine g_iast (pc := 149) X s_93 c35 dX12_aClass_149 ?_
                obtain ⟨σ36, e_σ36, h⟩ := bnd_e h
                refine g_nmS e_σ36 ?_
                refine g_aload_n (pc := 150) X 2 rfl dX12_aClass_150 ?_
                refine g_ldcS1 (pc := 151) X rfl dX12_aClass_151 ?_
                obtain ⟨r38, hc37, h⟩ := bd_e h
                refine g_callV (pc := 153) X k_ml_X12_172 (run_Mo_inWords  hc37) s_92 rfl (room_ok (Nat.le_of_ble_eq_true rfl) (Nat.le_of_ble_eq_true rfl)) ⟨Nat.le_refl _, Nat.le_refl _⟩ _ rfl (Nat.le_of_ble_eq_true rfl) dX12_aClass_153 ?_
                show Go V Γ M_X12_aClass (Zm V Γ 7 fin) 156 [(2, .int v5), (1, .int v2), (0, .ref (V.2.2.1 + 92))] [.int r38] σ36
                refine g_iconst (v := 4) (pc := 156) X rfl dX12_aClass_156 ?_
                refine g_icmp_ne (pc := 157) (tgt := 173) X dX12_aClass_157 rfl (fun c50 => ?_) (fun c50 => ?_)
                · replace h := if_f c50 h
                  refine g_sub [2] rfl ?_
                  exact tj_Mo_aClass_J173 X  hr h hA
                · replace h := if_t c50 h
                  refine g_aload_n (pc := 160) X 2 rfl dX12_aClass_160 ?_
                  refine g_getR (r := 93) (pc := 161) X k_fl_X12_7 s_92 rfl dX12_aClass_161 ?_
                  refine g_iload_n (pc := 164) X 0 rfl dX12_aClass_164 ?_
                  refine g_iconst (v := 2) (pc := 165) X rfl dX12_aClass_165 ?_
                  refine g_iadd (pc := 166) X dX12_aClass_166 ?_
                  refine g_iconst (v := 0) (pc := 167) X rfl dX12_aClass_167 ?_
                  obtain ⟨c46, h⟩ := chk_e h
                  refine g_iast (pc := 168) X s_93 c46 dX12_aClass_168 ?_
                  obtain ⟨σ47, e_σ47, h⟩ := bnd_e h
                  refine g_nmS e_σ47 ?_
                  refine g_aload_n (pc := 169) X 2 rfl dX12_aClass_169 ?_
                  obtain ⟨σ49, hc48, h⟩ := bd_e h
                  refine g_callV (pc := 170) X k_ml_X12_161 (run_Mo_ahead  hc48) s_92 rfl (room_ok (Nat.le_of_ble_eq_true rfl) (Nat.le_of_ble_eq_true rfl)) ⟨Nat.le_refl _, Nat.le_refl _⟩ _ rfl (Nat.le_of_ble_eq_true rfl) dX12_aClass_170 ?_
                  show Go V Γ M_X12_aClass (Zm V Γ 7 fin) 173 [(2, .int v5), (1, .int v2), (0, .ref (V.2.2.1 + 92))] [] σ49
                  refine g_sub [2] rfl ?_
                  exact tj_Mo_aClass_J173 X  hr h hA
              · replace h := if_t c51 h
                refine g_iconst (v := 0) (pc := 122) X rfl dX12_aClass_122 ?_
                cases h
                exact g_iret (pc := 123) X rfl nz0.1 (hr _ _ hA) dX12_aClass_123
      · replace h := if_f c59 h
        refine g_aload_n (pc := 59) X 2 rfl dX12_aClass_59 ?_
        refine g_iconst (v := 3) (pc := 60) X rfl dX12_aClass_60 ?_
        obtain ⟨r56, σ57, hc55, h⟩ := bd2_e h
        refine g_callV (pc := 61) X k_ml_X12_167 (run_Mo_fails  hc55) s_92 rfl (room_ok (Nat.le_of_ble_eq_true rfl) (Nat.le_of_ble_eq_true rfl)) ⟨Nat.le_refl _, Nat.le_refl _⟩ _ rfl (Nat.le_of_ble_eq_true rfl) dX12_aClass_61 ?_
        show Go V Γ M_X12_aClass (Zm V Γ 7 fin) 64 [(2, .int v5), (1, .int v2), (0, .ref (V.2.2.1 + 92))] [.int r56] σ57
        obtain ⟨c58, h⟩ := chk_e h
        cases h
        exact g_iret (pc := 64) X rfl (ckz_e c58).1 (hr _ _ hA) dX12_aClass_64
    · replace h := if_t c64 h
      refine g_aload_n (pc := 42) X 2 rfl dX12_aClass_42 ?_
      refine g_iconst (v := 2) (pc := 43) X rfl dX12_aClass_43 ?_
      obtain ⟨r61, σ62, hc60, h⟩ := bd2_e h
      refine g_callV (pc := 44) X k_ml_X12_167 (run_Mo_fails  hc60) s_92 rfl (room_ok (Nat.le_of_ble_eq_true rfl) (Nat.le_of_ble_eq_true rfl)) ⟨Nat.le_refl _, Nat.le_refl _⟩ _ rfl (Nat.le_of_ble_eq_true rfl) dX12_aClass_44 ?_
      show Go V Γ M_X12_aClass (Zm V Γ 7 fin) 47 [(2, .int v5), (1, .int v2), (0, .ref (V.2.2.1 + 92))] [.int r61] σ62
      obtain ⟨c63, h⟩ := chk_e h
      cases h
      exact g_iret (pc := 47) X rfl (ckz_e c63).1 (hr _ _ hA) dX12_aClass_47
  · replace h := if_t c69 h
    refine g_aload_n (pc := 24) X 2 rfl dX12_aClass_24 ?_
    refine g_bipush (v := 6) (pc := 25) X (by decide) dX12_aClass_25 ?_
    obtain ⟨r66, σ67, hc65, h⟩ := bd2_e h
    refine g_callV (pc := 27) X k_ml_X12_167 (run_Mo_fails  hc65) s_92 rfl (room_ok (Nat.le_of_ble_eq_true rfl) (Nat.le_of_ble_eq_true rfl)) ⟨Nat.le_refl _, Nat.le_refl _⟩ _ rfl (Nat.le_of_ble_eq_true rfl) dX12_aClass_27 ?_
    show Go V Γ M_X12_aClass (Zm V Γ 7 fin) 30 [(2, .int v5), (1, .int v2), (0, .ref (V.2.2.1 + 92))] [.int r66] σ67
    obtain ⟨c68, h⟩ := chk_e h
    cases h
    exact g_iret (pc := 30) X rfl (ckz_e c68).1 (hr _ _ hA) dX12_aClass_30
set_option maxRecDepth 100000 in
theorem run_Mo_aClass {V : Ev} {σ : St} {o : (Int32 × St)}   (h : Mo_aClass σ = some o) : Rs V 7 M_X12_aClass [.ref (V.2.2.1 + 92)] σ (some (.int o.1), o.2) := by
  refine Rs.of (by decide +kernel) (Nat.le_of_ble_eq_true rfl) (fun Γ X => ?_)
  exact tm_Mo_aClass X (A := fun o1 => o1 = o)  (fun _ _ e => by rw [← e]) h rfl
theorem dX12_systemPart_0 : decode cX12_systemPart 0 = .ok (.aload_n 0, 1) := by decide +kernel
theorem dX12_systemPart_1 : decode cX12_systemPart 1 = .ok (.ldc 170, 2) := by decide +kernel
theorem dX12_systemPart_3 : decode cX12_systemPart 3 = .ok (.invokevirtual 172, 3) := by decide +kernel
theorem dX12_systemPart_6 : decode cX12_systemPart 6 = .ok (.istore_n 1, 1) := by decide +kernel
theorem dX12_systemPart_7 : decode cX12_systemPart 7 = .ok (.iload_n 1, 1) := by decide +kernel
theorem dX12_systemPart_8 : decode cX12_systemPart 8 = .ok (.iconst 1, 1) := by decide +kernel
theorem dX12_systemPart_9 : decode cX12_systemPart 9 = .ok (.if_icmp .ne 8, 3) := by decide +kernel
theorem dX12_systemPart_12 : decode cX12_systemPart 12 = .ok (.aload_n 0, 1) := by decide +kernel
theorem dX12_systemPart_13 : decode cX12_systemPart 13 = .ok (.invokevirtual 200, 3) := by decide +kernel
theorem dX12_systemPart_16 : decode cX12_systemPart 16 = .ok (.ireturn, 1) := by decide +kernel
theorem dX12_systemPart_17 : decode cX12_systemPart 17 = .ok (.iload_n 1, 1) := by decide +kernel
theorem dX12_systemPart_18 : decode cX12_systemPart 18 = .ok (.ifCond .eq 9, 3) := by decide +kernel
theorem dX12_systemPart_21 : decode cX12_systemPart 21 = .ok (.aload_n 0, 1) := by decide +kernel
theorem dX12_systemPart_22 : decode cX12_systemPart 22 = .ok (.iconst 2, 1) := by decide +kernel
theorem dX12_systemPart_23 : decode cX12_systemPart 23 = .ok (.invokevirtual 167, 3) := by decide +kernel
theorem dX12_systemPart_26 : decode cX12_systemPart 26 = .ok (.ireturn, 1) := by decide +kernel
theorem dX12_systemPart_27 : decode cX12_systemPart 27 = .ok (.aload_n 0, 1) := by decide +kernel
theorem dX12_systemPart_28 : decode cX12_systemPart 28 = .ok (.getfield 203, 3) := by decide +kernel
theorem dX12_systemPart_31 : decode cX12_systemPart 31 = .ok (.ifCond .eq 9, 3) := by decide +kernel
theorem dX12_systemPart_34 : decode cX12_systemPart 34 = .ok (.aload_n 0, 1) := by decide +kernel
theorem dX12_systemPart_35 : decode cX12_systemPart 35 = .ok (.iconst 5, 1) := by decide +kernel
theorem dX12_systemPart_36 : decode cX12_systemPart 36 = .ok (.invokevirtual 167, 3) := by decide +kernel
theorem dX12_systemPart_39 : decode cX12_systemPart 39 = .ok (.ireturn, 1) := by decide +kernel
theorem dX12_systemPart_40 : decode cX12_systemPart 40 = .ok (.aload_n 0, 1) := by decide +kernel
theorem dX12_systemPart_41 : decode cX12_systemPart 41 = .ok (.iconst 1, 1) := by decide +kernel
theorem dX12_systemPart_42 : decode cX12_systemPart 42 = .ok (.putfield 203, 3) := by decide +kernel
theorem dX12_systemPart_45 : decode cX12_systemPart 45 = .ok (.aload_n 0, 1) := by decide +kernel
theorem dX12_systemPart_46 : decode cX12_systemPart 46 = .ok (.invokevirtual 161, 3) := by decide +kernel
theorem dX12_systemPart_49 : decode cX12_systemPart 49 = .ok (.aload_n 0, 1) := by decide +kernel
theorem dX12_systemPart_50 : decode cX12_systemPart 50 = .ok (.sipush 1617, 3) := by decide +kernel
theorem dX12_systemPart_53 : decode cX12_systemPart 53 = .ok (.iconst 0, 1) := by decide +kernel
theorem dX12_systemPart_54 : decode cX12_systemPart 54 = .ok (.bipush 16, 2) := by decide +kernel
theorem dX12_systemPart_56 : decode cX12_systemPart 56 = .ok (.invokevirtual 193, 3) := by decide +kernel
theorem dX12_systemPart_59 : decode cX12_systemPart 59 = .ok (.ifCond .eq 16, 3) := by decide +kernel
theorem dX12_systemPart_62 : decode cX12_systemPart 62 = .ok (.aload_n 0, 1) := by decide +kernel
theorem dX12_systemPart_63 : decode cX12_systemPart 63 = .ok (.bipush 59, 2) := by decide +kernel
theorem dX12_systemPart_65 : decode cX12_systemPart 65 = .ok (.invokevirtual 197, 3) := by decide +kernel
theorem dX12_systemPart_68 : decode cX12_systemPart 68 = .ok (.ifCond .eq 7, 3) := by decide +kernel
theorem dX12_systemPart_71 : decode cX12_systemPart 71 = .ok (.iconst 1, 1) := by decide +kernel
theorem dX12_systemPart_72 : decode cX12_systemPart 72 = .ok (.goto 4, 3) := by decide +kernel
theorem dX12_systemPart_75 : decode cX12_systemPart 75 = .ok (.iconst 0, 1) := by decide +kernel
theorem dX12_systemPart_76 : decode cX12_systemPart 76 = .ok (.ireturn, 1) := by decide +kernel
noncomputable def Mo_systemPart (σ : St) : Option (Int32 × St) :=
  bd (Mo_inWords σ) (fun r2 => if r2 = 1 then (bd2 (Mo_aClass σ) (fun r25 σ26 => chk (ckz r25) (some (r25, σ26)))) else (if r2 = 0 then (if (σ.1 92 19) = 0 then (bnd (wI σ 92 19 1) (fun σ3 => bd (Mo_ahead σ3) (fun σ5 => bd2 (Mo_number σ5 1617 0 16) (fun r7 σ8 => if r7 = 0 then (some (0, σ8)) else (bd2 (Mo_wantSign σ8 59) (fun r10 σ11 => if r10 = 0 then (some (0, σ11)) else (some (1, σ11)))))))) else (bd2 (Mo_fails σ 5) (fun r15 σ16 => chk (ckz r15) (some (r15, σ16))))) else (bd2 (Mo_fails σ 2) (fun r20 σ21 => chk (ckz r20) (some (r20, σ21))))))
set_option maxRecDepth 100000 in
set_option maxHeartbeats 4000000 in
theorem tm_Mo_systemPart {V : Ev} {Γ : Cn} {fin : Option Value × St} {σ : St} {o : (Int32 × St)} (X : Cx V Γ M_X12_systemPart) {A : (Int32 × St) → Prop}  (hr : ∀ (r : Int32) (σ9 : St), A (r, σ9) → (some (.int r), σ9) = fin) (h : Mo_systemPart σ = some o) (hA : A o) : Go V Γ M_X12_systemPart (Zm V Γ 8 fin) 0 [(0, .ref (V.2.2.1 + 92))] [] σ := by
  unfold Mo_systemPart at h
  refine g_aload_n (pc := 0) X 0 rfl dX12_systemPart_0 ?_
  refine g_ldcS1 (pc := 1) X rfl dX12_systemPart_1 ?_
  obtain ⟨r2, hc1, h⟩ := bd_e h
  refine g_callV (pc := 3) X k_ml_X12_172 (run_Mo_inWords  hc1) s_92 rfl (room_ok (Nat.le_of_ble_eq_true rfl) (Nat.le_of_ble_eq_true rfl)) ⟨Nat.le_refl _, Nat.le_refl _⟩ _ rfl (Nat.le_of_ble_eq_true rfl) dX12_systemPart_3 ?_
  show Go V Γ M_X12_systemPart (Zm V Γ 8 fin) 6 [(0, .ref (V.2.2.1 + 92))] [.int r2] σ
  refine g_istore_n (pc := 6) X [(1, .int r2), (0, .ref (V.2.2.1 + 92))] rfl (Nat.le_of_ble_eq_true rfl) rfl dX12_systemPart_6 ?_
  refine g_iload_n (pc := 7) X 0 rfl dX12_systemPart_7 ?_
  refine g_iconst (v := 1) (pc := 8) X rfl dX12_systemPart_8 ?_
  refine g_icmp_ne (pc := 9) (tgt := 17) X dX12_systemPart_9 rfl (fun c28 => ?_) (fun c28 => ?_)
  · replace h := if_f c28 h
    refine g_iload_n (pc := 17) X 0 rfl dX12_systemPart_17 ?_
    refine g_if_eq (pc := 18) (tgt := 27) X dX12_systemPart_18 rfl (fun c23 => ?_) (fun c23 => ?_)
    · replace h := if_t c23 h
      refine g_aload_n (pc := 27) X 1 rfl dX12_systemPart_27 ?_
      refine g_getI (pc := 28) X k_fl_X12_203 s_92 rfl dX12_systemPart_28 ?_
      refine g_if_eq (pc := 31) (tgt := 40) X dX12_systemPart_31 rfl (fun c18 => ?_) (fun c18 => ?_)
      · replace h := if_t c18 h
        refine g_aload_n (pc := 40) X 1 rfl dX12_systemPart_40 ?_
        refine g_iconst (v := 1) (pc := 41) X rfl dX12_systemPart_41 ?_
        refine g_putI (pc := 42) X k_fl_X12_203 s_92 rfl nz1.1 nz1.2 dX12_systemPart_42 ?_
        obtain ⟨σ3, e_σ3, h⟩ := bnd_e h
        refine g_nmS e_σ3 ?_
        refine g_aload_n (pc := 45) X 1 rfl dX12_systemPart_45 ?_
        obtain ⟨σ5, hc4, h⟩ := bd_e h
        refine g_callV (pc := 46) X k_ml_X12_161 (run_Mo_ahead  hc4) s_92 rfl (room_ok (Nat.le_of_ble_eq_true rfl) (Nat.le_of_ble_eq_true rfl)) ⟨Nat.le_refl _, Nat.le_refl _⟩ _ rfl (Nat.le_of_ble_eq_true rfl) dX12_systemPart_46 ?_
        show Go V Γ M_X12_systemPart (Zm V Γ 8 fin) 49 [(1, .int r2), (0, .ref (V.2.2.1 + 92))] [] σ5
        refine g_aload_n (pc := 49) X 1 rfl dX12_systemPart_49 ?_
        refine g_sipush (v := 1617) (pc := 50) X (by decide) dX12_systemPart_50 ?_
        refine g_iconst (v := 0) (pc := 53) X rfl dX12_systemPart_53 ?_
        refine g_bipush (v := 16) (pc := 54) X (by decide) dX12_systemPart_54 ?_
        obtain ⟨r7, σ8, hc6, h⟩ := bd2_e h
        refine g_callV (pc := 56) X k_ml_X12_193 (run_Mo_number  hc6) s_92 rfl (room_ok (Nat.le_of_ble_eq_true rfl) (Nat.le_of_ble_eq_true rfl)) ⟨Nat.le_refl _, Nat.le_refl _⟩ _ rfl (Nat.le_of_ble_eq_true rfl) dX12_systemPart_56 ?_
        show Go V Γ M_X12_systemPart (Zm V Γ 8 fin) 59 [(1, .int r2), (0, .ref (V.2.2.1 + 92))] [.int r7] σ8
        refine g_if_eq (pc := 59) (tgt := 75) X dX12_systemPart_59 rfl (fun c13 => ?_) (fun c13 => ?_)
        · replace h := if_t c13 h
          refine g_iconst (v := 0) (pc := 75) X rfl dX12_systemPart_75 ?_
          cases h
          exact g_iret (pc := 76) X rfl nz0.1 (hr _ _ hA) dX12_systemPart_76
        · replace h := if_f c13 h
          refine g_aload_n (pc := 62) X 1 rfl dX12_systemPart_62 ?_
          refine g_bipush (v := 59) (pc := 63) X (by decide) dX12_systemPart_63 ?_
          obtain ⟨r10, σ11, hc9, h⟩ := bd2_e h
          refine g_callV (pc := 65) X k_ml_X12_197 (run_Mo_wantSign  hc9) s_92 rfl (room_ok (Nat.le_of_ble_eq_true rfl) (Nat.le_of_ble_eq_true rfl)) ⟨Nat.le_refl _, Nat.le_refl _⟩ _ rfl (Nat.le_of_ble_eq_true rfl) dX12_systemPart_65 ?_
          show Go V Γ M_X12_systemPart (Zm V Γ 8 fin) 68 [(1, .int r2), (0, .ref (V.2.2.1 + 92))] [.int r10] σ11
          refine g_if_eq (pc := 68) (tgt := 75) X dX12_systemPart_68 rfl (fun c12 => ?_) (fun c12 => ?_)
          · replace h := if_t c12 h
            refine g_iconst (v := 0) (pc := 75) X rfl dX12_systemPart_75 ?_
            cases h
            exact g_iret (pc := 76) X rfl nz0.1 (hr _ _ hA) dX12_systemPart_76
          · replace h := if_f c12 h
            refine g_iconst (v := 1) (pc := 71) X rfl dX12_systemPart_71 ?_
            refine g_goto (pc := 72) (tgt := 76) X dX12_systemPart_72 rfl ?_
            cases h
            exact g_iret (pc := 76) X rfl nz1.1 (hr _ _ hA) dX12_systemPart_76
      · replace h := if_f c18 h
        refine g_aload_n (pc := 34) X 1 rfl dX12_systemPart_34 ?_
        refine g_iconst (v := 5) (pc := 35) X rfl dX12_systemPart_35 ?_
        obtain ⟨r15, σ16, hc14, h⟩ := bd2_e h
        refine g_callV (pc := 36) X k_ml_X12_167 (run_Mo_fails  hc14) s_92 rfl (room_ok (Nat.le_of_ble_eq_true rfl) (Nat.le_of_ble_eq_true rfl)) ⟨Nat.le_refl _, Nat.le_refl _⟩ _ rfl (Nat.le_of_ble_eq_true rfl) dX12_systemPart_36 ?_
        show Go V Γ M_X12_systemPart (Zm V Γ 8 fin) 39 [(1, .int r2), (0, .ref (V.2.2.1 + 92))] [.int r15] σ16
        obtain ⟨c17, h⟩ := chk_e h
        cases h
        exact g_iret (pc := 39) X rfl (ckz_e c17).1 (hr _ _ hA) dX12_systemPart_39
    · replace h := if_f c23 h
      refine g_aload_n (pc := 21) X 1 rfl dX12_systemPart_21 ?_
      refine g_iconst (v := 2) (pc := 22) X rfl dX12_systemPart_22 ?_
      obtain ⟨r20, σ21, hc19, h⟩ := bd2_e h
      refine g_callV (pc := 23) X k_ml_X12_167 (run_Mo_fails  hc19) s_92 rfl (room_ok (Nat.le_of_ble_eq_true rfl) (Nat.le_of_ble_eq_true rfl)) ⟨Nat.le_refl _, Nat.le_refl _⟩ _ rfl (Nat.le_of_ble_eq_true rfl) dX12_systemPart_23 ?_
      show Go V Γ M_X12_systemPart (Zm V Γ 8 fin) 26 [(1, .int r2), (0, .ref (V.2.2.1 + 92))] [.int r20] σ21
      obtain ⟨c22, h⟩ := chk_e h
      cases h
      exact g_iret (pc := 26) X rfl (ckz_e c22).1 (hr _ _ hA) dX12_systemPart_26
  · replace h := if_t c28 h
    refine g_aload_n (pc := 12) X 1 rfl dX12_systemPart_12 ?_
    obtain ⟨r25, σ26, hc24, h⟩ := bd2_e h
    refine g_callV (pc := 13) X k_ml_X12_200 (run_Mo_aClass  hc24) s_92 rfl (room_ok (Nat.le_of_ble_eq_true rfl) (Nat.le_of_ble_eq_true rfl)) ⟨Nat.le_refl _, Nat.le_refl _⟩ _ rfl (Nat.le_of_ble_eq_true rfl) dX12_systemPart_13 ?_
    show Go V Γ M_X12_systemPart (Zm V Γ 8 fin) 16 [(1, .int r2), (0, .ref (V.2.2.1 + 92))] [.int r25] σ26
    obtain ⟨c27, h⟩ := chk_e h
    cases h
    exact g_iret (pc := 16) X rfl (ckz_e c27).1 (hr _ _ hA) dX12_systemPart_16
set_option maxRecDepth 100000 in
theorem run_Mo_systemPart {V : Ev} {σ : St} {o : (Int32 × St)}   (h : Mo_systemPart σ = some o) : Rs V 8 M_X12_systemPart [.ref (V.2.2.1 + 92)] σ (some (.int o.1), o.2) := by
  refine Rs.of (by decide +kernel) (Nat.le_of_ble_eq_true rfl) (fun Γ X => ?_)
  exact tm_Mo_systemPart X (A := fun o1 => o1 = o)  (fun _ _ e => by rw [← e]) h rfl
theorem dX12_system_0 : decode cX12_system 0 = .ok (.aload_n 0, 1) := by decide +kernel
theorem dX12_system_1 : decode cX12_system 1 = .ok (.iload_n 1, 1) := by decide +kernel
theorem dX12_system_2 : decode cX12_system 2 = .ok (.sipush 900, 3) := by decide +kernel
theorem dX12_system_5 : decode cX12_system 5 = .ok (.invokevirtual 207, 3) := by decide +kernel
theorem dX12_system_8 : decode cX12_system 8 = .ok (.ifCond .ne 9, 3) := by decide +kernel
theorem dX12_system_11 : decode cX12_system 11 = .ok (.aload_n 0, 1) := by decide +kernel
theorem dX12_system_12 : decode cX12_system 12 = .ok (.iconst 1, 1) := by decide +kernel
theorem dX12_system_13 : decode cX12_system 13 = .ok (.invokevirtual 88, 3) := by decide +kernel
theorem dX12_system_16 : decode cX12_system 16 = .ok (.ireturn, 1) := by decide +kernel
theorem dX12_system_17 : decode cX12_system 17 = .ok (.aload_n 0, 1) := by decide +kernel
theorem dX12_system_18 : decode cX12_system 18 = .ok (.sipush 1616, 3) := by decide +kernel
theorem dX12_system_21 : decode cX12_system 21 = .ok (.invokevirtual 78, 3) := by decide +kernel
theorem dX12_system_24 : decode cX12_system 24 = .ok (.aload_n 0, 1) := by decide +kernel
theorem dX12_system_25 : decode cX12_system 25 = .ok (.iconst 0, 1) := by decide +kernel
theorem dX12_system_26 : decode cX12_system 26 = .ok (.putfield 203, 3) := by decide +kernel
theorem dX12_system_29 : decode cX12_system 29 = .ok (.iconst 1, 1) := by decide +kernel
theorem dX12_system_30 : decode cX12_system 30 = .ok (.istore_n 2, 1) := by decide +kernel
theorem dX12_system_31 : decode cX12_system 31 = .ok (.iload_n 2, 1) := by decide +kernel
theorem dX12_system_32 : decode cX12_system 32 = .ok (.ifCond .eq 18, 3) := by decide +kernel
theorem dX12_system_35 : decode cX12_system 35 = .ok (.aload_n 0, 1) := by decide +kernel
theorem dX12_system_36 : decode cX12_system 36 = .ok (.getfield 133, 3) := by decide +kernel
theorem dX12_system_39 : decode cX12_system 39 = .ok (.ifCond .eq 11, 3) := by decide +kernel
theorem dX12_system_42 : decode cX12_system 42 = .ok (.aload_n 0, 1) := by decide +kernel
theorem dX12_system_43 : decode cX12_system 43 = .ok (.invokevirtual 211, 3) := by decide +kernel
theorem dX12_system_46 : decode cX12_system 46 = .ok (.istore_n 2, 1) := by decide +kernel
theorem dX12_system_47 : decode cX12_system 47 = .ok (.goto (-16), 3) := by decide +kernel
theorem dX12_system_50 : decode cX12_system 50 = .ok (.aload_n 0, 1) := by decide +kernel
theorem dX12_system_51 : decode cX12_system 51 = .ok (.getfield 158, 3) := by decide +kernel
theorem dX12_system_54 : decode cX12_system 54 = .ok (.ifCond .ne 77, 3) := by decide +kernel
theorem dX12_system_57 : decode cX12_system 57 = .ok (.iconst 0, 1) := by decide +kernel
theorem dX12_system_58 : decode cX12_system 58 = .ok (.istore_n 3, 1) := by decide +kernel
theorem dX12_system_59 : decode cX12_system 59 = .ok (.iload_n 3, 1) := by decide +kernel
theorem dX12_system_60 : decode cX12_system 60 = .ok (.sipush 404, 3) := by decide +kernel
theorem dX12_system_63 : decode cX12_system 63 = .ok (.if_icmp .ge 25, 3) := by decide +kernel
theorem dX12_system_66 : decode cX12_system 66 = .ok (.aload_n 0, 1) := by decide +kernel
theorem dX12_system_67 : decode cX12_system 67 = .ok (.getfield 7, 3) := by decide +kernel
theorem dX12_system_70 : decode cX12_system 70 = .ok (.iload_n 3, 1) := by decide +kernel
theorem dX12_system_71 : decode cX12_system 71 = .ok (.aload_n 0, 1) := by decide +kernel
theorem dX12_system_72 : decode cX12_system 72 = .ok (.getfield 7, 3) := by decide +kernel
theorem dX12_system_75 : decode cX12_system 75 = .ok (.sipush 1616, 3) := by decide +kernel
theorem dX12_system_78 : decode cX12_system 78 = .ok (.iload_n 3, 1) := by decide +kernel
theorem dX12_system_79 : decode cX12_system 79 = .ok (.iadd, 1) := by decide +kernel
theorem dX12_system_80 : decode cX12_system 80 = .ok (.iaload, 1) := by decide +kernel
theorem dX12_system_81 : decode cX12_system 81 = .ok (.iastore, 1) := by decide +kernel
theorem dX12_system_82 : decode cX12_system 82 = .ok (.iinc 3 1, 3) := by decide +kernel
theorem dX12_system_85 : decode cX12_system 85 = .ok (.goto (-26), 3) := by decide +kernel
theorem dX12_system_88 : decode cX12_system 88 = .ok (.iconst 0, 1) := by decide +kernel
theorem dX12_system_89 : decode cX12_system 89 = .ok (.istore_n 3, 1) := by decide +kernel
theorem dX12_system_90 : decode cX12_system 90 = .ok (.iload_n 3, 1) := by decide +kernel
theorem dX12_system_91 : decode cX12_system 91 = .ok (.bipush 12, 2) := by decide +kernel
theorem dX12_system_93 : decode cX12_system 93 = .ok (.if_icmp .ge 38, 3) := by decide +kernel
theorem dX12_system_96 : decode cX12_system 96 = .ok (.aload_n 0, 1) := by decide +kernel
theorem dX12_system_97 : decode cX12_system 97 = .ok (.getfield 13, 3) := by decide +kernel
theorem dX12_system_100 : decode cX12_system 100 = .ok (.iload_n 3, 1) := by decide +kernel
theorem dX12_system_101 : decode cX12_system 101 = .ok (.iload_n 3, 1) := by decide +kernel
theorem dX12_system_102 : decode cX12_system 102 = .ok (.aload_n 0, 1) := by decide +kernel
theorem dX12_system_103 : decode cX12_system 103 = .ok (.getfield 7, 3) := by decide +kernel
theorem dX12_system_106 : decode cX12_system 106 = .ok (.iconst 0, 1) := by decide +kernel
theorem dX12_system_107 : decode cX12_system 107 = .ok (.iaload, 1) := by decide +kernel
theorem dX12_system_108 : decode cX12_system 108 = .ok (.if_icmp .ge 15, 3) := by decide +kernel
theorem dX12_system_111 : decode cX12_system 111 = .ok (.aload_n 0, 1) := by decide +kernel
theorem dX12_system_112 : decode cX12_system 112 = .ok (.getfield 13, 3) := by decide +kernel
theorem dX12_system_115 : decode cX12_system 115 = .ok (.bipush 48, 2) := by decide +kernel
theorem dX12_system_117 : decode cX12_system 117 = .ok (.iload_n 3, 1) := by decide +kernel
theorem dX12_system_118 : decode cX12_system 118 = .ok (.iadd, 1) := by decide +kernel
theorem dX12_system_119 : decode cX12_system 119 = .ok (.laload, 1) := by decide +kernel
theorem dX12_system_120 : decode cX12_system 120 = .ok (.goto 4, 3) := by decide +kernel
theorem dX12_system_123 : decode cX12_system 123 = .ok (.lconst 0, 1) := by decide +kernel
theorem dX12_system_124 : decode cX12_system 124 = .ok (.lastore, 1) := by decide +kernel
theorem dX12_system_125 : decode cX12_system 125 = .ok (.iinc 3 1, 3) := by decide +kernel
theorem dX12_system_128 : decode cX12_system 128 = .ok (.goto (-38), 3) := by decide +kernel
theorem dX12_system_131 : decode cX12_system 131 = .ok (.aload_n 0, 1) := by decide +kernel
theorem dX12_system_132 : decode cX12_system 132 = .ok (.aload_n 0, 1) := by decide +kernel
theorem dX12_system_133 : decode cX12_system 133 = .ok (.getfield 7, 3) := by decide +kernel
theorem dX12_system_136 : decode cX12_system 136 = .ok (.iconst 0, 1) := by decide +kernel
theorem dX12_system_137 : decode cX12_system 137 = .ok (.iaload, 1) := by decide +kernel
theorem dX12_system_138 : decode cX12_system 138 = .ok (.invokevirtual 214, 3) := by decide +kernel
theorem dX12_system_141 : decode cX12_system 141 = .ok (.ireturn, 1) := by decide +kernel
noncomputable def Mo_system_L31 (σ : St) (x2 : Int32) : Option ((Int32 × St) ⊕ St) :=
  if x2 = 0 then (some (.inr σ)) else (if (σ.1 92 12) = 0 then (some (.inr σ)) else (bd2 (Mo_systemPart σ) (fun r8 σ9 => some (.inl (r8, σ9)))))
set_option maxRecDepth 100000 in
set_option maxHeartbeats 4000000 in
theorem tb_Mo_system_L31 {V : Ev} {Γ : Cn} {fin : Option Value × St} {σ : St} {x2 : Int32} {o : ((Int32 × St) ⊕ St)} (X : Cx V Γ M_X12_system) {A : ((Int32 × St) ⊕ St) → Prop}  (hb31 : ∀ (x2 : Int32) (σ9 : St), A (.inl (x2, σ9)) → Go V Γ M_X12_system (Zm V Γ 9 fin) 31 [(0, .ref (V.2.2.1 + 92)), (2, .int x2)] [] σ9) (hx31 : ∀ (σ9 : St), A (.inr σ9) → Go V Γ M_X12_system (Zm V Γ 9 fin) 50 [(0, .ref (V.2.2.1 + 92))] [] σ9) (h : Mo_system_L31 σ x2 = some o) (hA : A o) : Go V Γ M_X12_system (Zm V Γ 9 fin) 31 [(0, .ref (V.2.2.1 + 92)), (2, .int x2)] [] σ := by
  unfold Mo_system_L31 at h
  refine g_iload_n (pc := 31) X 1 rfl dX12_system_31 ?_
  refine g_if_eq (pc := 32) (tgt := 50) X dX12_system_32 rfl (fun c11 => ?_) (fun c11 => ?_)
  · replace h := if_t c11 h
    refine g_sub [0] rfl ?_
    cases h
    exact hx31 _ hA
  · replace h := if_f c11 h
    refine g_aload_n (pc := 35) X 0 rfl dX12_system_35 ?_
    refine g_getI (pc := 36) X k_fl_X12_133 s_92 rfl dX12_system_36 ?_
    refine g_if_eq (pc := 39) (tgt := 50) X dX12_system_39 rfl (fun c10 => ?_) (fun c10 => ?_)
    · replace h := if_t c10 h
      refine g_sub [0] rfl ?_
      cases h
      exact hx31 _ hA
    · replace h := if_f c10 h
      refine g_aload_n (pc := 42) X 0 rfl dX12_system_42 ?_
      obtain ⟨r8, σ9, hc7, h⟩ := bd2_e h
      refine g_callV (pc := 43) X k_ml_X12_211 (run_Mo_systemPart  hc7) s_92 rfl (room_ok (Nat.le_of_ble_eq_true rfl) (Nat.le_of_ble_eq_true rfl)) ⟨Nat.le_refl _, Nat.le_refl _⟩ _ rfl (Nat.le_of_ble_eq_true rfl) dX12_system_43 ?_
      show Go V Γ M_X12_system (Zm V Γ 9 fin) 46 [(0, .ref (V.2.2.1 + 92)), (2, .int x2)] [.int r8] σ9
      refine g_istore_n (pc := 46) X [(2, .int r8), (0, .ref (V.2.2.1 + 92))] rfl (Nat.le_of_ble_eq_true rfl) rfl dX12_system_46 ?_
      refine g_goto (pc := 47) (tgt := 31) X dX12_system_47 rfl ?_
      refine g_sub [1, 0] rfl ?_
      cases h
      exact hb31 _ _ hA
set_option maxRecDepth 100000 in
theorem tl_Mo_system_L31 {V : Ev} {Γ : Cn} {fin : Option Value × St} {x2 : Int32} {σ9 : St} (X : Cx V Γ M_X12_system)  {σ8 : St} {n : Nat} (h : iter (fun s : (Int32 × St) => Mo_system_L31 s.2 s.1) n (x2, σ9) = some σ8) (hK : Go V Γ M_X12_system (Zm V Γ 9 fin) 50 [(0, .ref (V.2.2.1 + 92))] [] σ8) : Go V Γ M_X12_system (Zm V Γ 9 fin) 31 [(0, .ref (V.2.2.1 + 92)), (2, .int x2)] [] σ9 := by
  refine iter_go (G := (fun s : (Int32 × St) => Go V Γ M_X12_system (Zm V Γ 9 fin) 31 [(0, .ref (V.2.2.1 + 92)), (2, .int s.1)] [] s.2)) (fun s o ho hS => ?_) n (x2, σ9) h
  exact tb_Mo_system_L31 X  (fun _ _ h9 => h9) (fun _ he => by cases he; exact hK) ho hS
noncomputable def Mo_system_L59 (σ : St) (x3 : Int32) : Option ((Int32 × St) ⊕ St) :=
  if 404 ≤ x3 then (some (.inr σ)) else (chk (ix (1616 + x3) 2060) (chk (ix x3 2060) (bnd (wI σ 93 (tn x3) (σ.1 93 (tn (1616 + x3)))) (fun σ20 => bnd (x3 + 1) (fun v21 => some (.inl (v21, σ20)))))))
set_option maxRecDepth 100000 in
set_option maxHeartbeats 4000000 in
theorem tb_Mo_system_L59 {V : Ev} {Γ : Cn} {fin : Option Value × St} {σ : St} {x3 : Int32} {o : ((Int32 × St) ⊕ St)} (X : Cx V Γ M_X12_system) {A : ((Int32 × St) ⊕ St) → Prop}  (hb59 : ∀ (x3 : Int32) (σ9 : St), A (.inl (x3, σ9)) → Go V Γ M_X12_system (Zm V Γ 9 fin) 59 [(0, .ref (V.2.2.1 + 92)), (3, .int x3)] [] σ9) (hx59 : ∀ (σ9 : St), A (.inr σ9) → Go V Γ M_X12_system (Zm V Γ 9 fin) 88 [(0, .ref (V.2.2.1 + 92))] [] σ9) (h : Mo_system_L59 σ x3 = some o) (hA : A o) : Go V Γ M_X12_system (Zm V Γ 9 fin) 59 [(0, .ref (V.2.2.1 + 92)), (3, .int x3)] [] σ := by
  unfold Mo_system_L59 at h
  refine g_iload_n (pc := 59) X 1 rfl dX12_system_59 ?_
  refine g_sipush (v := 404) (pc := 60) X (by decide) dX12_system_60 ?_
  refine g_icmp_ge (pc := 63) (tgt := 88) X dX12_system_63 rfl (fun c22 => ?_) (fun c22 => ?_)
  · replace h := if_t c22 h
    refine g_sub [0] rfl ?_
    cases h
    exact hx59 _ hA
  · replace h := if_f c22 h
    refine g_aload_n (pc := 66) X 0 rfl dX12_system_66 ?_
    refine g_getR (r := 93) (pc := 67) X k_fl_X12_7 s_92 rfl dX12_system_67 ?_
    refine g_iload_n (pc := 70) X 1 rfl dX12_system_70 ?_
    refine g_aload_n (pc := 71) X 0 rfl dX12_system_71 ?_
    refine g_getR (r := 93) (pc := 72) X k_fl_X12_7 s_92 rfl dX12_system_72 ?_
    refine g_sipush (v := 1616) (pc := 75) X (by decide) dX12_system_75 ?_
    refine g_iload_n (pc := 78) X 1 rfl dX12_system_78 ?_
    refine g_iadd (pc := 79) X dX12_system_79 ?_
    obtain ⟨c18, h⟩ := chk_e h
    refine g_iald (pc := 80) X s_93 c18 dX12_system_80 ?_
    obtain ⟨c19, h⟩ := chk_e h
    refine g_iast (pc := 81) X s_93 c19 dX12_system_81 ?_
    obtain ⟨σ20, e_σ20, h⟩ := bnd_e h
    refine g_nmS e_σ20 ?_
    obtain ⟨v21, e_v21, h⟩ := bnd_e h
    refine g_iinc (pc := 82) (v := v21) X [(3, .int v21), (0, .ref (V.2.2.1 + 92))] 1 rfl (by rw [e_v21]; rfl) (Nat.le_of_ble_eq_true rfl) rfl dX12_system_82 ?_
    refine g_goto (pc := 85) (tgt := 59) X dX12_system_85 rfl ?_
    refine g_sub [1, 0] rfl ?_
    cases h
    exact hb59 _ _ hA
set_option maxRecDepth 100000 in
theorem tl_Mo_system_L59 {V : Ev} {Γ : Cn} {fin : Option Value × St} {x3 : Int32} {σ9 : St} (X : Cx V Γ M_X12_system)  {σ8 : St} {n : Nat} (h : iter (fun s : (Int32 × St) => Mo_system_L59 s.2 s.1) n (x3, σ9) = some σ8) (hK : Go V Γ M_X12_system (Zm V Γ 9 fin) 88 [(0, .ref (V.2.2.1 + 92))] [] σ8) : Go V Γ M_X12_system (Zm V Γ 9 fin) 59 [(0, .ref (V.2.2.1 + 92)), (3, .int x3)] [] σ9 := by
  refine iter_go (G := (fun s : (Int32 × St) => Go V Γ M_X12_system (Zm V Γ 9 fin) 59 [(0, .ref (V.2.2.1 + 92)), (3, .int s.1)] [] s.2)) (fun s o ho hS => ?_) n (x3, σ9) h
  exact tb_Mo_system_L59 X  (fun _ _ h9 => h9) (fun _ he => by cases he; exact hK) ho hS
noncomputable def Mo_system_L90 (σ : St) (x3 : Int32) : Option ((Int32 × St) ⊕ St) :=
  if 12 ≤ x3 then (some (.inr σ)) else (chk (ix 0 2060) (if (σ.1 93 (tn 0)) ≤ x3 then (chk (ix x3 60) (bnd (wL σ 94 (tn x3) 0) (fun σ27 => bnd (x3 + 1) (fun v28 => some (.inl (v28, σ27)))))) else (chk (ix (48 + x3) 60) (chk (ix x3 60) (bnd (wL σ 94 (tn x3) (σ.2 94 (tn (48 + x3)))) (fun σ31 => bnd (x3 + 1) (fun v32 => some (.inl (v32, σ31)))))))))
set_option maxRecDepth 100000 in
set_option maxHeartbeats 4000000 in
theorem tb_Mo_system_L90 {V : Ev} {Γ : Cn} {fin : Option Value × St} {σ : St} {x3 : Int32} {o : ((Int32 × St) ⊕ St)} (X : Cx V Γ M_X12_system) {A : ((Int32 × St) ⊕ St) → Prop}  (hb90 : ∀ (x3 : Int32) (σ9 : St), A (.inl (x3, σ9)) → Go V Γ M_X12_system (Zm V Γ 9 fin) 90 [(0, .ref (V.2.2.1 + 92)), (3, .int x3)] [] σ9) (hx90 : ∀ (σ9 : St), A (.inr σ9) → Go V Γ M_X12_system (Zm V Γ 9 fin) 131 [(0, .ref (V.2.2.1 + 92))] [] σ9) (h : Mo_system_L90 σ x3 = some o) (hA : A o) : Go V Γ M_X12_system (Zm V Γ 9 fin) 90 [(0, .ref (V.2.2.1 + 92)), (3, .int x3)] [] σ := by
  unfold Mo_system_L90 at h
  refine g_iload_n (pc := 90) X 1 rfl dX12_system_90 ?_
  refine g_bipush (v := 12) (pc := 91) X (by decide) dX12_system_91 ?_
  refine g_icmp_ge (pc := 93) (tgt := 131) X dX12_system_93 rfl (fun c34 => ?_) (fun c34 => ?_)
  · replace h := if_t c34 h
    refine g_sub [0] rfl ?_
    cases h
    exact hx90 _ hA
  · replace h := if_f c34 h
    refine g_aload_n (pc := 96) X 0 rfl dX12_system_96 ?_
    refine g_getR (r := 94) (pc := 97) X k_fl_X12_13 s_92 rfl dX12_system_97 ?_
    refine g_iload_n (pc := 100) X 1 rfl dX12_system_100 ?_
    refine g_iload_n (pc := 101) X 1 rfl dX12_system_101 ?_
    refine g_aload_n (pc := 102) X 0 rfl dX12_system_102 ?_
    refine g_getR (r := 93) (pc := 103) X k_fl_X12_7 s_92 rfl dX12_system_103 ?_
    refine g_iconst (v := 0) (pc := 106) X rfl dX12_system_106 ?_
    obtain ⟨c25, h⟩ := chk_e h
    refine g_iald (pc := 107) X s_93 c25 dX12_system_107 ?_
    refine g_icmp_ge (pc := 108) (tgt := 123) X dX12_system_108 rfl (fun c33 => ?_) (fun c33 => ?_)
    · replace h := if_t c33 h
      refine g_lconst (v := 0) (pc := 123) X rfl dX12_system_123 ?_
      obtain ⟨c26, h⟩ := chk_e h
      refine g_last (pc := 124) X s_94 c26 dX12_system_124 ?_
      obtain ⟨σ27, e_σ27, h⟩ := bnd_e h
      refine g_nmS e_σ27 ?_
      obtain ⟨v28, e_v28, h⟩ := bnd_e h
      refine g_iinc (pc := 125) (v := v28) X [(3, .int v28), (0, .ref (V.2.2.1 + 92))] 1 rfl (by rw [e_v28]; rfl) (Nat.le_of_ble_eq_true rfl) rfl dX12_system_125 ?_
      refine g_goto (pc := 128) (tgt := 90) X dX12_system_128 rfl ?_
      refine g_sub [1, 0] rfl ?_
      cases h
      exact hb90 _ _ hA
    · replace h := if_f c33 h
      refine g_aload_n (pc := 111) X 0 rfl dX12_system_111 ?_
      refine g_getR (r := 94) (pc := 112) X k_fl_X12_13 s_92 rfl dX12_system_112 ?_
      refine g_bipush (v := 48) (pc := 115) X (by decide) dX12_system_115 ?_
      refine g_iload_n (pc := 117) X 1 rfl dX12_system_117 ?_
      refine g_iadd (pc := 118) X dX12_system_118 ?_
      obtain ⟨c29, h⟩ := chk_e h
      refine g_lald (pc := 119) X s_94 c29 dX12_system_119 ?_
      refine g_goto (pc := 120) (tgt := 124) X dX12_system_120 rfl ?_
      obtain ⟨c30, h⟩ := chk_e h
      refine g_last (pc := 124) X s_94 c30 dX12_system_124 ?_
      obtain ⟨σ31, e_σ31, h⟩ := bnd_e h
      refine g_nmS e_σ31 ?_
      obtain ⟨v32, e_v32, h⟩ := bnd_e h
      refine g_iinc (pc := 125) (v := v32) X [(3, .int v32), (0, .ref (V.2.2.1 + 92))] 1 rfl (by rw [e_v32]; rfl) (Nat.le_of_ble_eq_true rfl) rfl dX12_system_125 ?_
      refine g_goto (pc := 128) (tgt := 90) X dX12_system_128 rfl ?_
      refine g_sub [1, 0] rfl ?_
      cases h
      exact hb90 _ _ hA
set_option maxRecDepth 100000 in
theorem tl_Mo_system_L90 {V : Ev} {Γ : Cn} {fin : Option Value × St} {x3 : Int32} {σ9 : St} (X : Cx V Γ M_X12_system)  {σ8 : St} {n : Nat} (h : iter (fun s : (Int32 × St) => Mo_system_L90 s.2 s.1) n (x3, σ9) = some σ8) (hK : Go V Γ M_X12_system (Zm V Γ 9 fin) 131 [(0, .ref (V.2.2.1 + 92))] [] σ8) : Go V Γ M_X12_system (Zm V Γ 9 fin) 90 [(0, .ref (V.2.2.1 + 92)), (3, .int x3)] [] σ9 := by
  refine iter_go (G := (fun s : (Int32 × St) => Go V Γ M_X12_system (Zm V Γ 9 fin) 90 [(0, .ref (V.2.2.1 + 92)), (3, .int s.1)] [] s.2)) (fun s o ho hS => ?_) n (x3, σ9) h
  exact tb_Mo_system_L90 X  (fun _ _ h9 => h9) (fun _ he => by cases he; exact hK) ho hS
noncomputable def Mo_system_J50 (σ : St) : Option ((Int32 × St)) :=
  if (σ.1 92 18) = 0 then (bd (iter (fun s : (Int32 × St) => Mo_system_L59 s.2 s.1) FUEL (0, σ)) (fun σ23 => bd (iter (fun s : (Int32 × St) => Mo_system_L90 s.2 s.1) FUEL (0, σ23)) (fun σ35 => chk (ix 0 2060) (bd2 (Mo_taken σ35 (σ35.1 93 (tn 0))) (fun r39 σ40 => some (r39, σ40)))))) else (chk (ix 0 2060) (bd2 (Mo_taken σ (σ.1 93 (tn 0))) (fun r16 σ17 => some (r16, σ17))))
set_option maxRecDepth 100000 in
set_option maxHeartbeats 4000000 in
theorem tj_Mo_system_J50 {V : Ev} {Γ : Cn} {fin : Option Value × St} {σ : St} {o : (Int32 × St)} (X : Cx V Γ M_X12_system) {A : (Int32 × St) → Prop}  (hr : ∀ (r : Int32) (σ9 : St), A (r, σ9) → (some (.int r), σ9) = fin) (h : Mo_system_J50 σ = some o) (hA : A o) : Go V Γ M_X12_system (Zm V Γ 9 fin) 50 [(0, .ref (V.2.2.1 + 92))] [] σ := by
  unfold Mo_system_J50 at h
  refine g_aload_n (pc := 50) X 0 rfl dX12_system_50 ?_
  refine g_getI (pc := 51) X k_fl_X12_158 s_92 rfl dX12_system_51 ?_
  refine g_if_ne (pc := 54) (tgt := 131) X dX12_system_54 rfl (fun c41 => ?_) (fun c41 => ?_)
  · replace h := if_f c41 h
    refine g_aload_n (pc := 131) X 0 rfl dX12_system_131 ?_
    refine g_aload_n (pc := 132) X 0 rfl dX12_system_132 ?_
    refine g_getR (r := 93) (pc := 133) X k_fl_X12_7 s_92 rfl dX12_system_133 ?_
    refine g_iconst (v := 0) (pc := 136) X rfl dX12_system_136 ?_
    obtain ⟨c14, h⟩ := chk_e h
    refine g_iald (pc := 137) X s_93 c14 dX12_system_137 ?_
    obtain ⟨r16, σ17, hc15, h⟩ := bd2_e h
    refine g_callV (pc := 138) X k_ml_X12_214 (run_Mo_taken  hc15) s_92 rfl (room_ok (Nat.le_of_ble_eq_true rfl) (Nat.le_of_ble_eq_true rfl)) ⟨Nat.le_refl _, Nat.le_refl _⟩ _ rfl (Nat.le_of_ble_eq_true rfl) dX12_system_138 ?_
    show Go V Γ M_X12_system (Zm V Γ 9 fin) 141 [(0, .ref (V.2.2.1 + 92))] [.int r16] σ17
    cases h
    exact g_iret (pc := 141) X rfl rfl (hr _ _ hA) dX12_system_141
  · replace h := if_t c41 h
    refine g_iconst (v := 0) (pc := 57) X rfl dX12_system_57 ?_
    refine g_istore_n (pc := 58) X [(3, .int 0), (0, .ref (V.2.2.1 + 92))] rfl (Nat.le_of_ble_eq_true rfl) rfl dX12_system_58 ?_
    refine g_sub [1, 0] rfl ?_
    obtain ⟨σ23, hi24, h⟩ := bd_e h
    refine tl_Mo_system_L59 X  hi24 ?_
    refine g_iconst (v := 0) (pc := 88) X rfl dX12_system_88 ?_
    refine g_istore_n (pc := 89) X [(3, .int 0), (0, .ref (V.2.2.1 + 92))] rfl (Nat.le_of_ble_eq_true rfl) rfl dX12_system_89 ?_
    refine g_sub [1, 0] rfl ?_
    obtain ⟨σ35, hi36, h⟩ := bd_e h
    refine tl_Mo_system_L90 X  hi36 ?_
    refine g_aload_n (pc := 131) X 0 rfl dX12_system_131 ?_
    refine g_aload_n (pc := 132) X 0 rfl dX12_system_132 ?_
    refine g_getR (r := 93) (pc := 133) X k_fl_X12_7 s_92 rfl dX12_system_133 ?_
    refine g_iconst (v := 0) (pc := 136) X rfl dX12_system_136 ?_
    obtain ⟨c37, h⟩ := chk_e h
    refine g_iald (pc := 137) X s_93 c37 dX12_system_137 ?_
    obtain ⟨r39, σ40, hc38, h⟩ := bd2_e h
    refine g_callV (pc := 138) X k_ml_X12_214 (run_Mo_taken  hc38) s_92 rfl (room_ok (Nat.le_of_ble_eq_true rfl) (Nat.le_of_ble_eq_true rfl)) ⟨Nat.le_refl _, Nat.le_refl _⟩ _ rfl (Nat.le_of_ble_eq_true rfl) dX12_system_138 ?_
    show Go V Γ M_X12_system (Zm V Γ 9 fin) 141 [(0, .ref (V.2.2.1 + 92))] [.int r39] σ40
    cases h
    exact g_iret (pc := 141) X rfl rfl (hr _ _ hA) dX12_system_141
noncomputable def Mo_system (σ : St) (p1 : Int32) : Option (Int32 × St) :=
  bd2 (Mo_begins σ p1 900) (fun r2 σ3 => if r2 = 0 then (bd2 (Mo_refuse σ3 1) (fun r43 σ44 => some (r43, σ44))) else (bd (Mo_plain σ3 1616) (fun σ5 => bnd (wI σ5 92 19 0) (fun σ6 => bd (iter (fun s : (Int32 × St) => Mo_system_L31 s.2 s.1) FUEL (1, σ6)) (fun σ12 => Mo_system_J50 σ12)))))
set_option maxRecDepth 100000 in
set_option maxHeartbeats 4000000 in
theorem tm_Mo_system {V : Ev} {Γ : Cn} {fin : Option Value × St} {σ : St} {p1 : Int32} {o : (Int32 × St)} (X : Cx V Γ M_X12_system) {A : (Int32 × St) → Prop}  (hr : ∀ (r : Int32) (σ9 : St), A (r, σ9) → (some (.int r), σ9) = fin) (h : Mo_system σ p1 = some o) (hA : A o) : Go V Γ M_X12_system (Zm V Γ 9 fin) 0 [(0, .ref (V.2.2.1 + 92)), (1, .int p1)] [] σ := by
  unfold Mo_system at h
  refine g_aload_n (pc := 0) X 0 rfl dX12_system_0 ?_
  refine g_iload_n (pc := 1) X 1 rfl dX12_system_1 ?_
  refine g_sipush (v := 900) (pc := 2) X (by decide) dX12_system_2 ?_
  obtain ⟨r2, σ3, hc1, h⟩ := bd2_e h
  refine g_callV (pc := 5) X k_ml_X12_207 (run_Mo_begins  hc1) s_92 rfl (room_ok (Nat.le_of_ble_eq_true rfl) (Nat.le_of_ble_eq_true rfl)) ⟨Nat.le_refl _, Nat.le_refl _⟩ _ rfl (Nat.le_of_ble_eq_true rfl) dX12_system_5 ?_
  show Go V Γ M_X12_system (Zm V Γ 9 fin) 8 [(0, .ref (V.2.2.1 + 92)), (1, .int p1)] [.int r2] σ3
  refine g_if_ne (pc := 8) (tgt := 17) X dX12_system_8 rfl (fun c45 => ?_) (fun c45 => ?_)
  · replace h := if_f c45 h
    refine g_aload_n (pc := 17) X 0 rfl dX12_system_17 ?_
    refine g_sipush (v := 1616) (pc := 18) X (by decide) dX12_system_18 ?_
    obtain ⟨σ5, hc4, h⟩ := bd_e h
    refine g_callV (pc := 21) X k_ml_X12_78 (run_Mo_plain  hc4) s_92 rfl (room_ok (Nat.le_of_ble_eq_true rfl) (Nat.le_of_ble_eq_true rfl)) ⟨Nat.le_refl _, Nat.le_refl _⟩ _ rfl (Nat.le_of_ble_eq_true rfl) dX12_system_21 ?_
    show Go V Γ M_X12_system (Zm V Γ 9 fin) 24 [(0, .ref (V.2.2.1 + 92)), (1, .int p1)] [] σ5
    refine g_aload_n (pc := 24) X 0 rfl dX12_system_24 ?_
    refine g_iconst (v := 0) (pc := 25) X rfl dX12_system_25 ?_
    refine g_putI (pc := 26) X k_fl_X12_203 s_92 rfl nz0.1 nz0.2 dX12_system_26 ?_
    obtain ⟨σ6, e_σ6, h⟩ := bnd_e h
    refine g_nmS e_σ6 ?_
    refine g_iconst (v := 1) (pc := 29) X rfl dX12_system_29 ?_
    refine g_istore_n (pc := 30) X [(2, .int 1), (0, .ref (V.2.2.1 + 92)), (1, .int p1)] rfl (Nat.le_of_ble_eq_true rfl) rfl dX12_system_30 ?_
    refine g_sub [1, 0] rfl ?_
    obtain ⟨σ12, hi13, h⟩ := bd_e h
    refine tl_Mo_system_L31 X  hi13 ?_
    refine g_sub [0] rfl ?_
    exact tj_Mo_system_J50 X  hr h hA
  · replace h := if_t c45 h
    refine g_aload_n (pc := 11) X 0 rfl dX12_system_11 ?_
    refine g_iconst (v := 1) (pc := 12) X rfl dX12_system_12 ?_
    obtain ⟨r43, σ44, hc42, h⟩ := bd2_e h
    refine g_callV (pc := 13) X k_ml_X12_88 (run_Mo_refuse  hc42) s_92 rfl (room_ok (Nat.le_of_ble_eq_true rfl) (Nat.le_of_ble_eq_true rfl)) ⟨Nat.le_refl _, Nat.le_refl _⟩ _ rfl (Nat.le_of_ble_eq_true rfl) dX12_system_13 ?_
    show Go V Γ M_X12_system (Zm V Γ 9 fin) 16 [(0, .ref (V.2.2.1 + 92)), (1, .int p1)] [.int r43] σ44
    cases h
    exact g_iret (pc := 16) X rfl rfl (hr _ _ hA) dX12_system_16
set_option maxRecDepth 100000 in
theorem run_Mo_system {V : Ev} {σ : St} {p1 : Int32} {o : (Int32 × St)}   (h : Mo_system σ p1 = some o) : Rs V 9 M_X12_system [.ref (V.2.2.1 + 92), .int p1] σ (some (.int o.1), o.2) := by
  refine Rs.of (by decide +kernel) (Nat.le_of_ble_eq_true rfl) (fun Γ X => ?_)
  exact tm_Mo_system X (A := fun o1 => o1 = o)  (fun _ _ e => by rw [← e]) h rfl
theorem dX12_classTo_0 : decode cX12_classTo 0 = .ok (.aload_n 0, 1) := by decide +kernel
theorem dX12_classTo_1 : decode cX12_classTo 1 = .ok (.invokevirtual 183, 3) := by decide +kernel
theorem dX12_classTo_4 : decode cX12_classTo 4 = .ok (.ifCond .ne 9, 3) := by decide +kernel
theorem dX12_classTo_7 : decode cX12_classTo 7 = .ok (.aload_n 0, 1) := by decide +kernel
theorem dX12_classTo_8 : decode cX12_classTo 8 = .ok (.iconst 2, 1) := by decide +kernel
theorem dX12_classTo_9 : decode cX12_classTo 9 = .ok (.invokevirtual 167, 3) := by decide +kernel
theorem dX12_classTo_12 : decode cX12_classTo 12 = .ok (.ireturn, 1) := by decide +kernel
theorem dX12_classTo_13 : decode cX12_classTo 13 = .ok (.aload_n 0, 1) := by decide +kernel
theorem dX12_classTo_14 : decode cX12_classTo 14 = .ok (.getfield 7, 3) := by decide +kernel
theorem dX12_classTo_17 : decode cX12_classTo 17 = .ok (.iload_n 1, 1) := by decide +kernel
theorem dX12_classTo_18 : decode cX12_classTo 18 = .ok (.aload_n 0, 1) := by decide +kernel
theorem dX12_classTo_19 : decode cX12_classTo 19 = .ok (.iconst 0, 1) := by decide +kernel
theorem dX12_classTo_20 : decode cX12_classTo 20 = .ok (.aload_n 0, 1) := by decide +kernel
theorem dX12_classTo_21 : decode cX12_classTo 21 = .ok (.getfield 7, 3) := by decide +kernel
theorem dX12_classTo_24 : decode cX12_classTo 24 = .ok (.iconst 0, 1) := by decide +kernel
theorem dX12_classTo_25 : decode cX12_classTo 25 = .ok (.iaload, 1) := by decide +kernel
theorem dX12_classTo_26 : decode cX12_classTo 26 = .ok (.invokevirtual 187, 3) := by decide +kernel
theorem dX12_classTo_29 : decode cX12_classTo 29 = .ok (.iastore, 1) := by decide +kernel
theorem dX12_classTo_30 : decode cX12_classTo 30 = .ok (.aload_n 0, 1) := by decide +kernel
theorem dX12_classTo_31 : decode cX12_classTo 31 = .ok (.getfield 7, 3) := by decide +kernel
theorem dX12_classTo_34 : decode cX12_classTo 34 = .ok (.iload_n 1, 1) := by decide +kernel
theorem dX12_classTo_35 : decode cX12_classTo 35 = .ok (.iaload, 1) := by decide +kernel
theorem dX12_classTo_36 : decode cX12_classTo 36 = .ok (.iconst (-1), 1) := by decide +kernel
theorem dX12_classTo_37 : decode cX12_classTo 37 = .ok (.if_icmp .ne 9, 3) := by decide +kernel
theorem dX12_classTo_40 : decode cX12_classTo 40 = .ok (.aload_n 0, 1) := by decide +kernel
theorem dX12_classTo_41 : decode cX12_classTo 41 = .ok (.iconst 3, 1) := by decide +kernel
theorem dX12_classTo_42 : decode cX12_classTo 42 = .ok (.invokevirtual 167, 3) := by decide +kernel
theorem dX12_classTo_45 : decode cX12_classTo 45 = .ok (.ireturn, 1) := by decide +kernel
theorem dX12_classTo_46 : decode cX12_classTo 46 = .ok (.aload_n 0, 1) := by decide +kernel
theorem dX12_classTo_47 : decode cX12_classTo 47 = .ok (.invokevirtual 161, 3) := by decide +kernel
theorem dX12_classTo_50 : decode cX12_classTo 50 = .ok (.iconst 1, 1) := by decide +kernel
theorem dX12_classTo_51 : decode cX12_classTo 51 = .ok (.ireturn, 1) := by decide +kernel
noncomputable def Mo_classTo (σ : St) (p1 : Int32) : Option (Int32 × St) :=
  bd (Mo_isName σ) (fun r2 => if r2 = 0 then (bd2 (Mo_fails σ 2) (fun r17 σ18 => chk (ckz r17) (some (r17, σ18)))) else (chk (ix 0 2060) (bd (Mo_findHere σ 0 (σ.1 93 (tn 0))) (fun r5 => chk (ix p1 2060) (bnd (wI σ 93 (tn p1) r5) (fun σ7 => chk (ix p1 2060) (if (σ7.1 93 (tn p1)) = (-1) then (bd2 (Mo_fails σ7 3) (fun r12 σ13 => chk (ckz r12) (some (r12, σ13)))) else (bd (Mo_ahead σ7) (fun σ10 => some (1, σ10))))))))))
set_option maxRecDepth 100000 in
set_option maxHeartbeats 4000000 in
theorem tm_Mo_classTo {V : Ev} {Γ : Cn} {fin : Option Value × St} {σ : St} {p1 : Int32} {o : (Int32 × St)} (X : Cx V Γ M_X12_classTo) {A : (Int32 × St) → Prop}  (hr : ∀ (r : Int32) (σ9 : St), A (r, σ9) → (some (.int r), σ9) = fin) (h : Mo_classTo σ p1 = some o) (hA : A o) : Go V Γ M_X12_classTo (Zm V Γ 7 fin) 0 [(0, .ref (V.2.2.1 + 92)), (1, .int p1)] [] σ := by
  unfold Mo_classTo at h
  refine g_aload_n (pc := 0) X 0 rfl dX12_classTo_0 ?_
  obtain ⟨r2, hc1, h⟩ := bd_e h
  refine g_callV (pc := 1) X k_ml_X12_183 (run_Mo_isName  hc1) s_92 rfl (room_ok (Nat.le_of_ble_eq_true rfl) (Nat.le_of_ble_eq_true rfl)) ⟨Nat.le_refl _, Nat.le_refl _⟩ _ rfl (Nat.le_of_ble_eq_true rfl) dX12_classTo_1 ?_
  show Go V Γ M_X12_classTo (Zm V Γ 7 fin) 4 [(0, .ref (V.2.2.1 + 92)), (1, .int p1)] [.int r2] σ
  refine g_if_ne (pc := 4) (tgt := 13) X dX12_classTo_4 rfl (fun c20 => ?_) (fun c20 => ?_)
  · replace h := if_f c20 h
    refine g_aload_n (pc := 13) X 0 rfl dX12_classTo_13 ?_
    refine g_getR (r := 93) (pc := 14) X k_fl_X12_7 s_92 rfl dX12_classTo_14 ?_
    refine g_iload_n (pc := 17) X 1 rfl dX12_classTo_17 ?_
    refine g_aload_n (pc := 18) X 0 rfl dX12_classTo_18 ?_
    refine g_iconst (v := 0) (pc := 19) X rfl dX12_classTo_19 ?_
    refine g_aload_n (pc := 20) X 0 rfl dX12_classTo_20 ?_
    refine g_getR (r := 93) (pc := 21) X k_fl_X12_7 s_92 rfl dX12_classTo_21 ?_
    refine g_iconst (v := 0) (pc := 24) X rfl dX12_classTo_24 ?_
    obtain ⟨c3, h⟩ := chk_e h
    refine g_iald (pc := 25) X s_93 c3 dX12_classTo_25 ?_
    obtain ⟨r5, hc4, h⟩ := bd_e h
    refine g_callV (pc := 26) X k_ml_X12_187 (run_Mo_findHere  hc4) s_92 rfl (room_ok (Nat.le_of_ble_eq_true rfl) (Nat.le_of_ble_eq_true rfl)) ⟨Nat.le_refl _, Nat.le_refl _⟩ _ rfl (Nat.le_of_ble_eq_true rfl) dX12_classTo_26 ?_
    show Go V Γ M_X12_classTo (Zm V Γ 7 fin) 29 [(0, .ref (V.2.2.1 + 92)), (1, .int p1)] [.int r5, .int p1, .ref (V.2.2.1 + 93)] σ
    obtain ⟨c6, h⟩ := chk_e h
    refine g_iast (pc := 29) X s_93 c6 dX12_classTo_29 ?_
    obtain ⟨σ7, e_σ7, h⟩ := bnd_e h
    refine g_nmS e_σ7 ?_
    refine g_aload_n (pc := 30) X 0 rfl dX12_classTo_30 ?_
    refine g_getR (r := 93) (pc := 31) X k_fl_X12_7 s_92 rfl dX12_classTo_31 ?_
    refine g_iload_n (pc := 34) X 1 rfl dX12_classTo_34 ?_
    obtain ⟨c8, h⟩ := chk_e h
    refine g_iald (pc := 35) X s_93 c8 dX12_classTo_35 ?_
    refine g_iconst (v := (-1)) (pc := 36) X rfl dX12_classTo_36 ?_
    refine g_icmp_ne (pc := 37) (tgt := 46) X dX12_classTo_37 rfl (fun c15 => ?_) (fun c15 => ?_)
    · replace h := if_f c15 h
      refine g_aload_n (pc := 46) X 0 rfl dX12_classTo_46 ?_
      obtain ⟨σ10, hc9, h⟩ := bd_e h
      refine g_callV (pc := 47) X k_ml_X12_161 (run_Mo_ahead  hc9) s_92 rfl (room_ok (Nat.le_of_ble_eq_true rfl) (Nat.le_of_ble_eq_true rfl)) ⟨Nat.le_refl _, Nat.le_refl _⟩ _ rfl (Nat.le_of_ble_eq_true rfl) dX12_classTo_47 ?_
      show Go V Γ M_X12_classTo (Zm V Γ 7 fin) 50 [(0, .ref (V.2.2.1 + 92)), (1, .int p1)] [] σ10
      refine g_iconst (v := 1) (pc := 50) X rfl dX12_classTo_50 ?_
      cases h
      exact g_iret (pc := 51) X rfl nz1.1 (hr _ _ hA) dX12_classTo_51
    · replace h := if_t c15 h
      refine g_aload_n (pc := 40) X 0 rfl dX12_classTo_40 ?_
      refine g_iconst (v := 3) (pc := 41) X rfl dX12_classTo_41 ?_
      obtain ⟨r12, σ13, hc11, h⟩ := bd2_e h
      refine g_callV (pc := 42) X k_ml_X12_167 (run_Mo_fails  hc11) s_92 rfl (room_ok (Nat.le_of_ble_eq_true rfl) (Nat.le_of_ble_eq_true rfl)) ⟨Nat.le_refl _, Nat.le_refl _⟩ _ rfl (Nat.le_of_ble_eq_true rfl) dX12_classTo_42 ?_
      show Go V Γ M_X12_classTo (Zm V Γ 7 fin) 45 [(0, .ref (V.2.2.1 + 92)), (1, .int p1)] [.int r12] σ13
      obtain ⟨c14, h⟩ := chk_e h
      cases h
      exact g_iret (pc := 45) X rfl (ckz_e c14).1 (hr _ _ hA) dX12_classTo_45
  · replace h := if_t c20 h
    refine g_aload_n (pc := 7) X 0 rfl dX12_classTo_7 ?_
    refine g_iconst (v := 2) (pc := 8) X rfl dX12_classTo_8 ?_
    obtain ⟨r17, σ18, hc16, h⟩ := bd2_e h
    refine g_callV (pc := 9) X k_ml_X12_167 (run_Mo_fails  hc16) s_92 rfl (room_ok (Nat.le_of_ble_eq_true rfl) (Nat.le_of_ble_eq_true rfl)) ⟨Nat.le_refl _, Nat.le_refl _⟩ _ rfl (Nat.le_of_ble_eq_true rfl) dX12_classTo_9 ?_
    show Go V Γ M_X12_classTo (Zm V Γ 7 fin) 12 [(0, .ref (V.2.2.1 + 92)), (1, .int p1)] [.int r17] σ18
    obtain ⟨c19, h⟩ := chk_e h
    cases h
    exact g_iret (pc := 12) X rfl (ckz_e c19).1 (hr _ _ hA) dX12_classTo_12
set_option maxRecDepth 100000 in
theorem run_Mo_classTo {V : Ev} {σ : St} {p1 : Int32} {o : (Int32 × St)}   (h : Mo_classTo σ p1 = some o) : Rs V 7 M_X12_classTo [.ref (V.2.2.1 + 92), .int p1] σ (some (.int o.1), o.2) := by
  refine Rs.of (by decide +kernel) (Nat.le_of_ble_eq_true rfl) (fun Γ X => ?_)
  exact tm_Mo_classTo X (A := fun o1 => o1 = o)  (fun _ _ e => by rw [← e]) h rfl
theorem dX12_test_0 : decode cX12_test 0 = .ok (.aload_n 0, 1) := by decide +kernel
theorem dX12_test_1 : decode cX12_test 1 = .ok (.ldc 170, 2) := by decide +kernel
theorem dX12_test_3 : decode cX12_test 3 = .ok (.invokevirtual 172, 3) := by decide +kernel
theorem dX12_test_6 : decode cX12_test 6 = .ok (.istore_n 2, 1) := by decide +kernel
theorem dX12_test_7 : decode cX12_test 7 = .ok (.iload_n 2, 1) := by decide +kernel
theorem dX12_test_8 : decode cX12_test 8 = .ok (.iconst 5, 1) := by decide +kernel
theorem dX12_test_9 : decode cX12_test 9 = .ok (.if_icmp .eq 27, 3) := by decide +kernel
theorem dX12_test_12 : decode cX12_test 12 = .ok (.iload_n 2, 1) := by decide +kernel
theorem dX12_test_13 : decode cX12_test 13 = .ok (.bipush 10, 2) := by decide +kernel
theorem dX12_test_15 : decode cX12_test 15 = .ok (.if_icmp .eq 21, 3) := by decide +kernel
theorem dX12_test_18 : decode cX12_test 18 = .ok (.iload_n 2, 1) := by decide +kernel
theorem dX12_test_19 : decode cX12_test 19 = .ok (.bipush 11, 2) := by decide +kernel
theorem dX12_test_21 : decode cX12_test 21 = .ok (.if_icmp .eq 15, 3) := by decide +kernel
theorem dX12_test_24 : decode cX12_test 24 = .ok (.iload_n 2, 1) := by decide +kernel
theorem dX12_test_25 : decode cX12_test 25 = .ok (.bipush 12, 2) := by decide +kernel
theorem dX12_test_27 : decode cX12_test 27 = .ok (.if_icmp .eq 9, 3) := by decide +kernel
theorem dX12_test_30 : decode cX12_test 30 = .ok (.aload_n 0, 1) := by decide +kernel
theorem dX12_test_31 : decode cX12_test 31 = .ok (.iconst 2, 1) := by decide +kernel
theorem dX12_test_32 : decode cX12_test 32 = .ok (.invokevirtual 167, 3) := by decide +kernel
theorem dX12_test_35 : decode cX12_test 35 = .ok (.ireturn, 1) := by decide +kernel
theorem dX12_test_36 : decode cX12_test 36 = .ok (.aload_n 0, 1) := by decide +kernel
theorem dX12_test_37 : decode cX12_test 37 = .ok (.getfield 7, 3) := by decide +kernel
theorem dX12_test_40 : decode cX12_test 40 = .ok (.iload_n 1, 1) := by decide +kernel
theorem dX12_test_41 : decode cX12_test 41 = .ok (.sipush 900, 3) := by decide +kernel
theorem dX12_test_44 : decode cX12_test 44 = .ok (.iload_n 2, 1) := by decide +kernel
theorem dX12_test_45 : decode cX12_test 45 = .ok (.iadd, 1) := by decide +kernel
theorem dX12_test_46 : decode cX12_test 46 = .ok (.iastore, 1) := by decide +kernel
theorem dX12_test_47 : decode cX12_test 47 = .ok (.aload_n 0, 1) := by decide +kernel
theorem dX12_test_48 : decode cX12_test 48 = .ok (.invokevirtual 161, 3) := by decide +kernel
theorem dX12_test_51 : decode cX12_test 51 = .ok (.iload_n 2, 1) := by decide +kernel
theorem dX12_test_52 : decode cX12_test 52 = .ok (.bipush 10, 2) := by decide +kernel
theorem dX12_test_54 : decode cX12_test 54 = .ok (.if_icmp .ne 5, 3) := by decide +kernel
theorem dX12_test_57 : decode cX12_test 57 = .ok (.iconst 1, 1) := by decide +kernel
theorem dX12_test_58 : decode cX12_test 58 = .ok (.ireturn, 1) := by decide +kernel
theorem dX12_test_59 : decode cX12_test 59 = .ok (.iload_n 2, 1) := by decide +kernel
theorem dX12_test_60 : decode cX12_test 60 = .ok (.iconst 5, 1) := by decide +kernel
theorem dX12_test_61 : decode cX12_test 61 = .ok (.if_icmp .ne 11, 3) := by decide +kernel
theorem dX12_test_64 : decode cX12_test 64 = .ok (.aload_n 0, 1) := by decide +kernel
theorem dX12_test_65 : decode cX12_test 65 = .ok (.iload_n 1, 1) := by decide +kernel
theorem dX12_test_66 : decode cX12_test 66 = .ok (.iconst 1, 1) := by decide +kernel
theorem dX12_test_67 : decode cX12_test 67 = .ok (.iadd, 1) := by decide +kernel
theorem dX12_test_68 : decode cX12_test 68 = .ok (.invokevirtual 217, 3) := by decide +kernel
theorem dX12_test_71 : decode cX12_test 71 = .ok (.ireturn, 1) := by decide +kernel
theorem dX12_test_72 : decode cX12_test 72 = .ok (.iload_n 2, 1) := by decide +kernel
theorem dX12_test_73 : decode cX12_test 73 = .ok (.bipush 11, 2) := by decide +kernel
theorem dX12_test_75 : decode cX12_test 75 = .ok (.if_icmp .ne 15, 3) := by decide +kernel
theorem dX12_test_78 : decode cX12_test 78 = .ok (.aload_n 0, 1) := by decide +kernel
theorem dX12_test_79 : decode cX12_test 79 = .ok (.iload_n 1, 1) := by decide +kernel
theorem dX12_test_80 : decode cX12_test 80 = .ok (.iconst 2, 1) := by decide +kernel
theorem dX12_test_81 : decode cX12_test 81 = .ok (.iadd, 1) := by decide +kernel
theorem dX12_test_82 : decode cX12_test 82 = .ok (.iconst 0, 1) := by decide +kernel
theorem dX12_test_83 : decode cX12_test 83 = .ok (.sipush 9999, 3) := by decide +kernel
theorem dX12_test_86 : decode cX12_test 86 = .ok (.invokevirtual 193, 3) := by decide +kernel
theorem dX12_test_89 : decode cX12_test 89 = .ok (.ireturn, 1) := by decide +kernel
theorem dX12_test_90 : decode cX12_test 90 = .ok (.aload_n 0, 1) := by decide +kernel
theorem dX12_test_91 : decode cX12_test 91 = .ok (.bipush 60, 2) := by decide +kernel
theorem dX12_test_93 : decode cX12_test 93 = .ok (.invokevirtual 164, 3) := by decide +kernel
theorem dX12_test_96 : decode cX12_test 96 = .ok (.ifCond .ne 27, 3) := by decide +kernel
theorem dX12_test_99 : decode cX12_test 99 = .ok (.aload_n 0, 1) := by decide +kernel
theorem dX12_test_100 : decode cX12_test 100 = .ok (.bipush 62, 2) := by decide +kernel
theorem dX12_test_102 : decode cX12_test 102 = .ok (.invokevirtual 164, 3) := by decide +kernel
theorem dX12_test_105 : decode cX12_test 105 = .ok (.ifCond .ne 18, 3) := by decide +kernel
theorem dX12_test_108 : decode cX12_test 108 = .ok (.aload_n 0, 1) := by decide +kernel
theorem dX12_test_109 : decode cX12_test 109 = .ok (.bipush 61, 2) := by decide +kernel
theorem dX12_test_111 : decode cX12_test 111 = .ok (.invokevirtual 164, 3) := by decide +kernel
theorem dX12_test_114 : decode cX12_test 114 = .ok (.ifCond .ne 9, 3) := by decide +kernel
theorem dX12_test_117 : decode cX12_test 117 = .ok (.aload_n 0, 1) := by decide +kernel
theorem dX12_test_118 : decode cX12_test 118 = .ok (.iconst 2, 1) := by decide +kernel
theorem dX12_test_119 : decode cX12_test 119 = .ok (.invokevirtual 167, 3) := by decide +kernel
theorem dX12_test_122 : decode cX12_test 122 = .ok (.ireturn, 1) := by decide +kernel
theorem dX12_test_123 : decode cX12_test 123 = .ok (.aload_n 0, 1) := by decide +kernel
theorem dX12_test_124 : decode cX12_test 124 = .ok (.getfield 7, 3) := by decide +kernel
theorem dX12_test_127 : decode cX12_test 127 = .ok (.iload_n 1, 1) := by decide +kernel
theorem dX12_test_128 : decode cX12_test 128 = .ok (.iconst 5, 1) := by decide +kernel
theorem dX12_test_129 : decode cX12_test 129 = .ok (.iadd, 1) := by decide +kernel
theorem dX12_test_130 : decode cX12_test 130 = .ok (.aload_n 0, 1) := by decide +kernel
theorem dX12_test_131 : decode cX12_test 131 = .ok (.getfield 130, 3) := by decide +kernel
theorem dX12_test_134 : decode cX12_test 134 = .ok (.iastore, 1) := by decide +kernel
theorem dX12_test_135 : decode cX12_test 135 = .ok (.aload_n 0, 1) := by decide +kernel
theorem dX12_test_136 : decode cX12_test 136 = .ok (.invokevirtual 161, 3) := by decide +kernel
theorem dX12_test_139 : decode cX12_test 139 = .ok (.aload_n 0, 1) := by decide +kernel
theorem dX12_test_140 : decode cX12_test 140 = .ok (.iload_n 1, 1) := by decide +kernel
theorem dX12_test_141 : decode cX12_test 141 = .ok (.iconst 2, 1) := by decide +kernel
theorem dX12_test_142 : decode cX12_test 142 = .ok (.iadd, 1) := by decide +kernel
theorem dX12_test_143 : decode cX12_test 143 = .ok (.iconst 0, 1) := by decide +kernel
theorem dX12_test_144 : decode cX12_test 144 = .ok (.sipush 5040, 3) := by decide +kernel
theorem dX12_test_147 : decode cX12_test 147 = .ok (.invokevirtual 193, 3) := by decide +kernel
theorem dX12_test_150 : decode cX12_test 150 = .ok (.ireturn, 1) := by decide +kernel
noncomputable def Mo_test_J123 (σ : St) (l1 : Int32) : Option ((Int32 × St)) :=
  chk (ix (l1 + 5) 2060) (bnd (wI σ 93 (tn (l1 + 5)) (σ.1 92 15)) (fun σ10 => bd (Mo_ahead σ10) (fun σ12 => bd2 (Mo_number σ12 (l1 + 2) 0 5040) (fun r14 σ15 => chk (ckz r14) (some (r14, σ15))))))
set_option maxRecDepth 100000 in
set_option maxHeartbeats 4000000 in
theorem tj_Mo_test_J123 {V : Ev} {Γ : Cn} {fin : Option Value × St} {σ : St} {l1 : Int32} {o : (Int32 × St)} (X : Cx V Γ M_X12_test) {A : (Int32 × St) → Prop}  (hr : ∀ (r : Int32) (σ9 : St), A (r, σ9) → (some (.int r), σ9) = fin) (h : Mo_test_J123 σ l1 = some o) (hA : A o) : Go V Γ M_X12_test (Zm V Γ 8 fin) 123 [(0, .ref (V.2.2.1 + 92)), (1, .int l1)] [] σ := by
  unfold Mo_test_J123 at h
  refine g_aload_n (pc := 123) X 0 rfl dX12_test_123 ?_
  refine g_getR (r := 93) (pc := 124) X k_fl_X12_7 s_92 rfl dX12_test_124 ?_
  refine g_iload_n (pc := 127) X 1 rfl dX12_test_127 ?_
  refine g_iconst (v := 5) (pc := 128) X rfl dX12_test_128 ?_
  refine g_iadd (pc := 129) X dX12_test_129 ?_
  refine g_aload_n (pc := 130) X 0 rfl dX12_test_130 ?_
  refine g_getI (pc := 131) X k_fl_X12_130 s_92 rfl dX12_test_131 ?_
  obtain ⟨c9, h⟩ := chk_e h
  refine g_iast (pc := 134) X s_93 c9 dX12_test_134 ?_
  obtain ⟨σ10, e_σ10, h⟩ := bnd_e h
  refine g_nmS e_σ10 ?_
  refine g_aload_n (pc := 135) X 0 rfl dX12_test_135 ?_
  obtain ⟨σ12, hc11, h⟩ := bd_e h
  refine g_callV (pc := 136) X k_ml_X12_161 (run_Mo_ahead  hc11) s_92 rfl (room_ok (Nat.le_of_ble_eq_true rfl) (Nat.le_of_ble_eq_true rfl)) ⟨Nat.le_refl _, Nat.le_refl _⟩ _ rfl (Nat.le_of_ble_eq_true rfl) dX12_test_136 ?_
  show Go V Γ M_X12_test (Zm V Γ 8 fin) 139 [(0, .ref (V.2.2.1 + 92)), (1, .int l1)] [] σ12
  refine g_aload_n (pc := 139) X 0 rfl dX12_test_139 ?_
  refine g_iload_n (pc := 140) X 1 rfl dX12_test_140 ?_
  refine g_iconst (v := 2) (pc := 141) X rfl dX12_test_141 ?_
  refine g_iadd (pc := 142) X dX12_test_142 ?_
  refine g_iconst (v := 0) (pc := 143) X rfl dX12_test_143 ?_
  refine g_sipush (v := 5040) (pc := 144) X (by decide) dX12_test_144 ?_
  obtain ⟨r14, σ15, hc13, h⟩ := bd2_e h
  refine g_callV (pc := 147) X k_ml_X12_193 (run_Mo_number  hc13) s_92 rfl (room_ok (Nat.le_of_ble_eq_true rfl) (Nat.le_of_ble_eq_true rfl)) ⟨Nat.le_refl _, Nat.le_refl _⟩ _ rfl (Nat.le_of_ble_eq_true rfl) dX12_test_147 ?_
  show Go V Γ M_X12_test (Zm V Γ 8 fin) 150 [(0, .ref (V.2.2.1 + 92)), (1, .int l1)] [.int r14] σ15
  obtain ⟨c16, h⟩ := chk_e h
  cases h
  exact g_iret (pc := 150) X rfl (ckz_e c16).1 (hr _ _ hA) dX12_test_150
noncomputable def Mo_test_J36 (σ : St) (l1 : Int32) (l2 : Int32) : Option ((Int32 × St)) :=
  chk (ix l1 2060) (bnd (wI σ 93 (tn l1) (900 + l2)) (fun σ4 => bd (Mo_ahead σ4) (fun σ6 => if l2 = 10 then (some (1, σ6)) else (if l2 = 5 then (bd2 (Mo_classTo σ6 (l1 + 1)) (fun r34 σ35 => chk (ckz r34) (some (r34, σ35)))) else (if l2 = 11 then (bd2 (Mo_number σ6 (l1 + 2) 0 9999) (fun r29 σ30 => chk (ckz r29) (some (r29, σ30)))) else (bd (Mo_isSign σ6 60) (fun r8 => if r8 = 0 then (bd (Mo_isSign σ6 62) (fun r18 => if r18 = 0 then (bd (Mo_isSign σ6 61) (fun r20 => if r20 = 0 then (bd2 (Mo_fails σ6 2) (fun r22 σ23 => chk (ckz r22) (some (r22, σ23)))) else (Mo_test_J123 σ6 l1))) else (Mo_test_J123 σ6 l1))) else (Mo_test_J123 σ6 l1))))))))
set_option maxRecDepth 100000 in
set_option maxHeartbeats 4000000 in
theorem tj_Mo_test_J36 {V : Ev} {Γ : Cn} {fin : Option Value × St} {σ : St} {l1 : Int32} {l2 : Int32} {o : (Int32 × St)} (X : Cx V Γ M_X12_test) {A : (Int32 × St) → Prop}  (hr : ∀ (r : Int32) (σ9 : St), A (r, σ9) → (some (.int r), σ9) = fin) (h : Mo_test_J36 σ l1 l2 = some o) (hA : A o) : Go V Γ M_X12_test (Zm V Γ 8 fin) 36 [(0, .ref (V.2.2.1 + 92)), (1, .int l1), (2, .int l2)] [] σ := by
  unfold Mo_test_J36 at h
  refine g_aload_n (pc := 36) X 0 rfl dX12_test_36 ?_
  refine g_getR (r := 93) (pc := 37) X k_fl_X12_7 s_92 rfl dX12_test_37 ?_
  refine g_iload_n (pc := 40) X 1 rfl dX12_test_40 ?_
  refine g_sipush (v := 900) (pc := 41) X (by decide) dX12_test_41 ?_
  refine g_iload_n (pc := 44) X 2 rfl dX12_test_44 ?_
  refine g_iadd (pc := 45) X dX12_test_45 ?_
  obtain ⟨c3, h⟩ := chk_e h
  refine g_iast (pc := 46) X s_93 c3 dX12_test_46 ?_
  obtain ⟨σ4, e_σ4, h⟩ := bnd_e h
  refine g_nmS e_σ4 ?_
  refine g_aload_n (pc := 47) X 0 rfl dX12_test_47 ?_
  obtain ⟨σ6, hc5, h⟩ := bd_e h
  refine g_callV (pc := 48) X k_ml_X12_161 (run_Mo_ahead  hc5) s_92 rfl (room_ok (Nat.le_of_ble_eq_true rfl) (Nat.le_of_ble_eq_true rfl)) ⟨Nat.le_refl _, Nat.le_refl _⟩ _ rfl (Nat.le_of_ble_eq_true rfl) dX12_test_48 ?_
  show Go V Γ M_X12_test (Zm V Γ 8 fin) 51 [(0, .ref (V.2.2.1 + 92)), (1, .int l1), (2, .int l2)] [] σ6
  refine g_iload_n (pc := 51) X 2 rfl dX12_test_51 ?_
  refine g_bipush (v := 10) (pc := 52) X (by decide) dX12_test_52 ?_
  refine g_icmp_ne (pc := 54) (tgt := 59) X dX12_test_54 rfl (fun c38 => ?_) (fun c38 => ?_)
  · replace h := if_f c38 h
    refine g_iload_n (pc := 59) X 2 rfl dX12_test_59 ?_
    refine g_iconst (v := 5) (pc := 60) X rfl dX12_test_60 ?_
    refine g_icmp_ne (pc := 61) (tgt := 72) X dX12_test_61 rfl (fun c37 => ?_) (fun c37 => ?_)
    · replace h := if_f c37 h
      refine g_iload_n (pc := 72) X 2 rfl dX12_test_72 ?_
      refine g_bipush (v := 11) (pc := 73) X (by decide) dX12_test_73 ?_
      refine g_icmp_ne (pc := 75) (tgt := 90) X dX12_test_75 rfl (fun c32 => ?_) (fun c32 => ?_)
      · replace h := if_f c32 h
        refine g_aload_n (pc := 90) X 0 rfl dX12_test_90 ?_
        refine g_bipush (v := 60) (pc := 91) X (by decide) dX12_test_91 ?_
        obtain ⟨r8, hc7, h⟩ := bd_e h
        refine g_callV (pc := 93) X k_ml_X12_164 (run_Mo_isSign  hc7) s_92 rfl (room_ok (Nat.le_of_ble_eq_true rfl) (Nat.le_of_ble_eq_true rfl)) ⟨Nat.le_refl _, Nat.le_refl _⟩ _ rfl (Nat.le_of_ble_eq_true rfl) dX12_test_93 ?_
        show Go V Γ M_X12_test (Zm V Γ 8 fin) 96 [(0, .ref (V.2.2.1 + 92)), (1, .int l1), (2, .int l2)] [.int r8] σ6
        refine g_if_ne (pc := 96) (tgt := 123) X dX12_test_96 rfl (fun c27 => ?_) (fun c27 => ?_)
        · replace h := if_f c27 h
          refine g_sub [0, 1] rfl ?_
          exact tj_Mo_test_J123 X  hr h hA
        · replace h := if_t c27 h
          refine g_aload_n (pc := 99) X 0 rfl dX12_test_99 ?_
          refine g_bipush (v := 62) (pc := 100) X (by decide) dX12_test_100 ?_
          obtain ⟨r18, hc17, h⟩ := bd_e h
          refine g_callV (pc := 102) X k_ml_X12_164 (run_Mo_isSign  hc17) s_92 rfl (room_ok (Nat.le_of_ble_eq_true rfl) (Nat.le_of_ble_eq_true rfl)) ⟨Nat.le_refl _, Nat.le_refl _⟩ _ rfl (Nat.le_of_ble_eq_true rfl) dX12_test_102 ?_
          show Go V Γ M_X12_test (Zm V Γ 8 fin) 105 [(0, .ref (V.2.2.1 + 92)), (1, .int l1), (2, .int l2)] [.int r18] σ6
          refine g_if_ne (pc := 105) (tgt := 123) X dX12_test_105 rfl (fun c26 => ?_) (fun c26 => ?_)
          · replace h := if_f c26 h
            refine g_sub [0, 1] rfl ?_
            exact tj_Mo_test_J123 X  hr h hA
          · replace h := if_t c26 h
            refine g_aload_n (pc := 108) X 0 rfl dX12_test_108 ?_
            refine g_bipush (v := 61) (pc := 109) X (by decide) dX12_test_109 ?_
            obtain ⟨r20, hc19, h⟩ := bd_e h
            refine g_callV (pc := 111) X k_ml_X12_164 (run_Mo_isSign  hc19) s_92 rfl (room_ok (Nat.le_of_ble_eq_true rfl) (Nat.le_of_ble_eq_true rfl)) ⟨Nat.le_refl _, Nat.le_refl _⟩ _ rfl (Nat.le_of_ble_eq_true rfl) dX12_test_111 ?_
            show Go V Γ M_X12_test (Zm V Γ 8 fin) 114 [(0, .ref (V.2.2.1 + 92)), (1, .int l1), (2, .int l2)] [.int r20] σ6
            refine g_if_ne (pc := 114) (tgt := 123) X dX12_test_114 rfl (fun c25 => ?_) (fun c25 => ?_)
            · replace h := if_f c25 h
              refine g_sub [0, 1] rfl ?_
              exact tj_Mo_test_J123 X  hr h hA
            · replace h := if_t c25 h
              refine g_aload_n (pc := 117) X 0 rfl dX12_test_117 ?_
              refine g_iconst (v := 2) (pc := 118) X rfl dX12_test_118 ?_
              obtain ⟨r22, σ23, hc21, h⟩ := bd2_e h
              refine g_callV (pc := 119) X k_ml_X12_167 (run_Mo_fails  hc21) s_92 rfl (room_ok (Nat.le_of_ble_eq_true rfl) (Nat.le_of_ble_eq_true rfl)) ⟨Nat.le_refl _, Nat.le_refl _⟩ _ rfl (Nat.le_of_ble_eq_true rfl) dX12_test_119 ?_
              show Go V Γ M_X12_test (Zm V Γ 8 fin) 122 [(0, .ref (V.2.2.1 + 92)), (1, .int l1), (2, .int l2)] [.int r22] σ23
              obtain ⟨c24, h⟩ := chk_e h
              cases h
              exact g_iret (pc := 122) X rfl (ckz_e c24).1 (hr _ _ hA) dX12_test_122
      · replace h := if_t c32 h
        refine g_aload_n (pc := 78) X 0 rfl dX12_test_78 ?_
        refine g_iload_n (pc := 79) X 1 rfl dX12_test_79 ?_
        refine g_iconst (v := 2) (pc := 80) X rfl dX12_test_80 ?_
        refine g_iadd (pc := 81) X dX12_test_81 ?_
        refine g_iconst (v := 0) (pc := 82) X rfl dX12_test_82 ?_
        refine g_sipush (v := 9999) (pc := 83) X (by decide) dX12_test_83 ?_
        obtain ⟨r29, σ30, hc28, h⟩ := bd2_e h
        refine g_callV (pc := 86) X k_ml_X12_193 (run_Mo_number  hc28) s_92 rfl (room_ok (Nat.le_of_ble_eq_true rfl) (Nat.le_of_ble_eq_true rfl)) ⟨Nat.le_refl _, Nat.le_refl _⟩ _ rfl (Nat.le_of_ble_eq_true rfl) dX12_test_86 ?_
        show Go V Γ M_X12_test (Zm V Γ 8 fin) 89 [(0, .ref (V.2.2.1 + 92)), (1, .int l1), (2, .int l2)] [.int r29] σ30
        obtain ⟨c31, h⟩ := chk_e h
        cases h
        exact g_iret (pc := 89) X rfl (ckz_e c31).1 (hr _ _ hA) dX12_test_89
    · replace h := if_t c37 h
      refine g_aload_n (pc := 64) X 0 rfl dX12_test_64 ?_
      refine g_iload_n (pc := 65) X 1 rfl dX12_test_65 ?_
      refine g_iconst (v := 1) (pc := 66) X rfl dX12_test_66 ?_
      refine g_iadd (pc := 67) X dX12_test_67 ?_
      obtain ⟨r34, σ35, hc33, h⟩ := bd2_e h
      refine g_callV (pc := 68) X k_ml_X12_217 (run_Mo_classTo  hc33) s_92 rfl (room_ok (Nat.le_of_ble_eq_true rfl) (Nat.le_of_ble_eq_true rfl)) ⟨Nat.le_refl _, Nat.le_refl _⟩ _ rfl (Nat.le_of_ble_eq_true rfl) dX12_test_68 ?_
      show Go V Γ M_X12_test (Zm V Γ 8 fin) 71 [(0, .ref (V.2.2.1 + 92)), (1, .int l1), (2, .int l2)] [.int r34] σ35
      obtain ⟨c36, h⟩ := chk_e h
      cases h
      exact g_iret (pc := 71) X rfl (ckz_e c36).1 (hr _ _ hA) dX12_test_71
  · replace h := if_t c38 h
    refine g_iconst (v := 1) (pc := 57) X rfl dX12_test_57 ?_
    cases h
    exact g_iret (pc := 58) X rfl nz1.1 (hr _ _ hA) dX12_test_58
noncomputable def Mo_test (σ : St) (p1 : Int32) : Option (Int32 × St) :=
  bd (Mo_inWords σ) (fun r2 => if r2 = 5 then (Mo_test_J36 σ p1 r2) else (if r2 = 10 then (Mo_test_J36 σ p1 r2) else (if r2 = 11 then (Mo_test_J36 σ p1 r2) else (if r2 = 12 then (Mo_test_J36 σ p1 r2) else (bd2 (Mo_fails σ 2) (fun r40 σ41 => chk (ckz r40) (some (r40, σ41))))))))
set_option maxRecDepth 100000 in
set_option maxHeartbeats 4000000 in
theorem tm_Mo_test {V : Ev} {Γ : Cn} {fin : Option Value × St} {σ : St} {p1 : Int32} {o : (Int32 × St)} (X : Cx V Γ M_X12_test) {A : (Int32 × St) → Prop}  (hr : ∀ (r : Int32) (σ9 : St), A (r, σ9) → (some (.int r), σ9) = fin) (h : Mo_test σ p1 = some o) (hA : A o) : Go V Γ M_X12_test (Zm V Γ 8 fin) 0 [(0, .ref (V.2.2.1 + 92)), (1, .int p1)] [] σ := by
  unfold Mo_test at h
  refine g_aload_n (pc := 0) X 0 rfl dX12_test_0 ?_
  refine g_ldcS1 (pc := 1) X rfl dX12_test_1 ?_
  obtain ⟨r2, hc1, h⟩ := bd_e h
  refine g_callV (pc := 3) X k_ml_X12_172 (run_Mo_inWords  hc1) s_92 rfl (room_ok (Nat.le_of_ble_eq_true rfl) (Nat.le_of_ble_eq_true rfl)) ⟨Nat.le_refl _, Nat.le_refl _⟩ _ rfl (Nat.le_of_ble_eq_true rfl) dX12_test_3 ?_
  show Go V Γ M_X12_test (Zm V Γ 8 fin) 6 [(0, .ref (V.2.2.1 + 92)), (1, .int p1)] [.int r2] σ
  refine g_istore_n (pc := 6) X [(2, .int r2), (0, .ref (V.2.2.1 + 92)), (1, .int p1)] rfl (Nat.le_of_ble_eq_true rfl) rfl dX12_test_6 ?_
  refine g_iload_n (pc := 7) X 0 rfl dX12_test_7 ?_
  refine g_iconst (v := 5) (pc := 8) X rfl dX12_test_8 ?_
  refine g_icmp_eq (pc := 9) (tgt := 36) X dX12_test_9 rfl (fun c46 => ?_) (fun c46 => ?_)
  · replace h := if_t c46 h
    refine g_sub [1, 2, 0] rfl ?_
    exact tj_Mo_test_J36 X  hr h hA
  · replace h := if_f c46 h
    refine g_iload_n (pc := 12) X 0 rfl dX12_test_12 ?_
    refine g_bipush (v := 10) (pc := 13) X (by decide) dX12_test_13 ?_
    refine g_icmp_eq (pc := 15) (tgt := 36) X dX12_test_15 rfl (fun c45 => ?_) (fun c45 => ?_)
    · replace h := if_t c45 h
      refine g_sub [1, 2, 0] rfl ?_
      exact tj_Mo_test_J36 X  hr h hA
    · replace h := if_f c45 h
      refine g_iload_n (pc := 18) X 0 rfl dX12_test_18 ?_
      refine g_bipush (v := 11) (pc := 19) X (by decide) dX12_test_19 ?_
      refine g_icmp_eq (pc := 21) (tgt := 36) X dX12_test_21 rfl (fun c44 => ?_) (fun c44 => ?_)
      · replace h := if_t c44 h
        refine g_sub [1, 2, 0] rfl ?_
        exact tj_Mo_test_J36 X  hr h hA
      · replace h := if_f c44 h
        refine g_iload_n (pc := 24) X 0 rfl dX12_test_24 ?_
        refine g_bipush (v := 12) (pc := 25) X (by decide) dX12_test_25 ?_
        refine g_icmp_eq (pc := 27) (tgt := 36) X dX12_test_27 rfl (fun c43 => ?_) (fun c43 => ?_)
        · replace h := if_t c43 h
          refine g_sub [1, 2, 0] rfl ?_
          exact tj_Mo_test_J36 X  hr h hA
        · replace h := if_f c43 h
          refine g_aload_n (pc := 30) X 1 rfl dX12_test_30 ?_
          refine g_iconst (v := 2) (pc := 31) X rfl dX12_test_31 ?_
          obtain ⟨r40, σ41, hc39, h⟩ := bd2_e h
          refine g_callV (pc := 32) X k_ml_X12_167 (run_Mo_fails  hc39) s_92 rfl (room_ok (Nat.le_of_ble_eq_true rfl) (Nat.le_of_ble_eq_true rfl)) ⟨Nat.le_refl _, Nat.le_refl _⟩ _ rfl (Nat.le_of_ble_eq_true rfl) dX12_test_32 ?_
          show Go V Γ M_X12_test (Zm V Γ 8 fin) 35 [(2, .int r2), (0, .ref (V.2.2.1 + 92)), (1, .int p1)] [.int r40] σ41
          obtain ⟨c42, h⟩ := chk_e h
          cases h
          exact g_iret (pc := 35) X rfl (ckz_e c42).1 (hr _ _ hA) dX12_test_35
set_option maxRecDepth 100000 in
theorem run_Mo_test {V : Ev} {σ : St} {p1 : Int32} {o : (Int32 × St)}   (h : Mo_test σ p1 = some o) : Rs V 8 M_X12_test [.ref (V.2.2.1 + 92), .int p1] σ (some (.int o.1), o.2) := by
  refine Rs.of (by decide +kernel) (Nat.le_of_ble_eq_true rfl) (fun Γ X => ?_)
  exact tm_Mo_test X (A := fun o1 => o1 = o)  (fun _ _ e => by rw [← e]) h rfl
theorem dX12_dayOrder_0 : decode cX12_dayOrder 0 = .ok (.iload_n 1, 1) := by decide +kernel
theorem dX12_dayOrder_1 : decode cX12_dayOrder 1 = .ok (.tableswitch 120 4 13 #[55, 55, 63, 74, 120, 114, 120, 120, 120, 103], 55) := by decide +kernel
theorem dX12_dayOrder_56 : decode cX12_dayOrder 56 = .ok (.aload_n 0, 1) := by decide +kernel
theorem dX12_dayOrder_57 : decode cX12_dayOrder 57 = .ok (.iload_n 2, 1) := by decide +kernel
theorem dX12_dayOrder_58 : decode cX12_dayOrder 58 = .ok (.iconst 1, 1) := by decide +kernel
theorem dX12_dayOrder_59 : decode cX12_dayOrder 59 = .ok (.iadd, 1) := by decide +kernel
theorem dX12_dayOrder_60 : decode cX12_dayOrder 60 = .ok (.invokevirtual 217, 3) := by decide +kernel
theorem dX12_dayOrder_63 : decode cX12_dayOrder 63 = .ok (.ireturn, 1) := by decide +kernel
theorem dX12_dayOrder_64 : decode cX12_dayOrder 64 = .ok (.aload_n 0, 1) := by decide +kernel
theorem dX12_dayOrder_65 : decode cX12_dayOrder 65 = .ok (.iload_n 2, 1) := by decide +kernel
theorem dX12_dayOrder_66 : decode cX12_dayOrder 66 = .ok (.iconst 2, 1) := by decide +kernel
theorem dX12_dayOrder_67 : decode cX12_dayOrder 67 = .ok (.iadd, 1) := by decide +kernel
theorem dX12_dayOrder_68 : decode cX12_dayOrder 68 = .ok (.iconst 0, 1) := by decide +kernel
theorem dX12_dayOrder_69 : decode cX12_dayOrder 69 = .ok (.bipush 59, 2) := by decide +kernel
theorem dX12_dayOrder_71 : decode cX12_dayOrder 71 = .ok (.invokevirtual 193, 3) := by decide +kernel
theorem dX12_dayOrder_74 : decode cX12_dayOrder 74 = .ok (.ireturn, 1) := by decide +kernel
theorem dX12_dayOrder_75 : decode cX12_dayOrder 75 = .ok (.aload_n 0, 1) := by decide +kernel
theorem dX12_dayOrder_76 : decode cX12_dayOrder 76 = .ok (.iload_n 2, 1) := by decide +kernel
theorem dX12_dayOrder_77 : decode cX12_dayOrder 77 = .ok (.iconst 1, 1) := by decide +kernel
theorem dX12_dayOrder_78 : decode cX12_dayOrder 78 = .ok (.iadd, 1) := by decide +kernel
theorem dX12_dayOrder_79 : decode cX12_dayOrder 79 = .ok (.invokevirtual 217, 3) := by decide +kernel
theorem dX12_dayOrder_82 : decode cX12_dayOrder 82 = .ok (.ifCond .eq 20, 3) := by decide +kernel
theorem dX12_dayOrder_85 : decode cX12_dayOrder 85 = .ok (.aload_n 0, 1) := by decide +kernel
theorem dX12_dayOrder_86 : decode cX12_dayOrder 86 = .ok (.iload_n 2, 1) := by decide +kernel
theorem dX12_dayOrder_87 : decode cX12_dayOrder 87 = .ok (.iconst 2, 1) := by decide +kernel
theorem dX12_dayOrder_88 : decode cX12_dayOrder 88 = .ok (.iadd, 1) := by decide +kernel
theorem dX12_dayOrder_89 : decode cX12_dayOrder 89 = .ok (.iconst 2, 1) := by decide +kernel
theorem dX12_dayOrder_90 : decode cX12_dayOrder 90 = .ok (.bipush 7, 2) := by decide +kernel
theorem dX12_dayOrder_92 : decode cX12_dayOrder 92 = .ok (.invokevirtual 193, 3) := by decide +kernel
theorem dX12_dayOrder_95 : decode cX12_dayOrder 95 = .ok (.ifCond .eq 7, 3) := by decide +kernel
theorem dX12_dayOrder_98 : decode cX12_dayOrder 98 = .ok (.iconst 1, 1) := by decide +kernel
theorem dX12_dayOrder_99 : decode cX12_dayOrder 99 = .ok (.goto 4, 3) := by decide +kernel
theorem dX12_dayOrder_102 : decode cX12_dayOrder 102 = .ok (.iconst 0, 1) := by decide +kernel
theorem dX12_dayOrder_103 : decode cX12_dayOrder 103 = .ok (.ireturn, 1) := by decide +kernel
theorem dX12_dayOrder_104 : decode cX12_dayOrder 104 = .ok (.aload_n 0, 1) := by decide +kernel
theorem dX12_dayOrder_105 : decode cX12_dayOrder 105 = .ok (.iload_n 2, 1) := by decide +kernel
theorem dX12_dayOrder_106 : decode cX12_dayOrder 106 = .ok (.iconst 2, 1) := by decide +kernel
theorem dX12_dayOrder_107 : decode cX12_dayOrder 107 = .ok (.iadd, 1) := by decide +kernel
theorem dX12_dayOrder_108 : decode cX12_dayOrder 108 = .ok (.iconst 1, 1) := by decide +kernel
theorem dX12_dayOrder_109 : decode cX12_dayOrder 109 = .ok (.bipush 99, 2) := by decide +kernel
theorem dX12_dayOrder_111 : decode cX12_dayOrder 111 = .ok (.invokevirtual 193, 3) := by decide +kernel
theorem dX12_dayOrder_114 : decode cX12_dayOrder 114 = .ok (.ireturn, 1) := by decide +kernel
theorem dX12_dayOrder_115 : decode cX12_dayOrder 115 = .ok (.aload_n 0, 1) := by decide +kernel
theorem dX12_dayOrder_116 : decode cX12_dayOrder 116 = .ok (.iload_n 2, 1) := by decide +kernel
theorem dX12_dayOrder_117 : decode cX12_dayOrder 117 = .ok (.invokevirtual 220, 3) := by decide +kernel
theorem dX12_dayOrder_120 : decode cX12_dayOrder 120 = .ok (.ireturn, 1) := by decide +kernel
theorem dX12_dayOrder_121 : decode cX12_dayOrder 121 = .ok (.iconst 1, 1) := by decide +kernel
theorem dX12_dayOrder_122 : decode cX12_dayOrder 122 = .ok (.ireturn, 1) := by decide +kernel
noncomputable def Mo_dayOrder (σ : St) (p1 : Int32) (p2 : Int32) : Option (Int32 × St) :=
  if p1 = 4 then (bd2 (Mo_classTo σ (p2 + 1)) (fun r2 σ3 => chk (ckz r2) (some (r2, σ3)))) else if p1 = 5 then (bd2 (Mo_classTo σ (p2 + 1)) (fun r7 σ8 => chk (ckz r7) (some (r7, σ8)))) else if p1 = 6 then (bd2 (Mo_number σ (p2 + 2) 0 59) (fun r12 σ13 => chk (ckz r12) (some (r12, σ13)))) else if p1 = 7 then (bd2 (Mo_classTo σ (p2 + 1)) (fun r17 σ18 => if r17 = 0 then (some (0, σ18)) else (bd2 (Mo_number σ18 (p2 + 2) 2 7) (fun r20 σ21 => if r20 = 0 then (some (0, σ21)) else (some (1, σ21)))))) else if p1 = 8 then (some (1, σ)) else if p1 = 9 then (bd2 (Mo_test σ p2) (fun r27 σ28 => chk (ckz r27) (some (r27, σ28)))) else if p1 = 10 then (some (1, σ)) else if p1 = 11 then (some (1, σ)) else if p1 = 12 then (some (1, σ)) else if p1 = 13 then (bd2 (Mo_number σ (p2 + 2) 1 99) (fun r35 σ36 => chk (ckz r35) (some (r35, σ36)))) else (some (1, σ))
set_option maxRecDepth 100000 in
set_option maxHeartbeats 4000000 in
theorem tm_Mo_dayOrder {V : Ev} {Γ : Cn} {fin : Option Value × St} {σ : St} {p1 : Int32} {p2 : Int32} {o : (Int32 × St)} (X : Cx V Γ M_X12_dayOrder) {A : (Int32 × St) → Prop}  (hr : ∀ (r : Int32) (σ9 : St), A (r, σ9) → (some (.int r), σ9) = fin) (h : Mo_dayOrder σ p1 p2 = some o) (hA : A o) : Go V Γ M_X12_dayOrder (Zm V Γ 9 fin) 0 [(0, .ref (V.2.2.1 + 92)), (1, .int p1), (2, .int p2)] [] σ := by
  unfold Mo_dayOrder at h
  refine g_iload_n (pc := 0) X 1 rfl dX12_dayOrder_0 ?_
  by_cases c5 : p1 = 4
  · replace h := if_t c5 h
    refine g_tabIn (pc := 1) (tgt := 56) X c5 dX12_dayOrder_1 (by decide) (by decide) rfl rfl ?_
    refine g_aload_n (pc := 56) X 0 rfl dX12_dayOrder_56 ?_
    refine g_iload_n (pc := 57) X 2 rfl dX12_dayOrder_57 ?_
    refine g_iconst (v := 1) (pc := 58) X rfl dX12_dayOrder_58 ?_
    refine g_iadd (pc := 59) X dX12_dayOrder_59 ?_
    obtain ⟨r2, σ3, hc1, h⟩ := bd2_e h
    refine g_callV (pc := 60) X k_ml_X12_217 (run_Mo_classTo  hc1) s_92 rfl (room_ok (Nat.le_of_ble_eq_true rfl) (Nat.le_of_ble_eq_true rfl)) ⟨Nat.le_refl _, Nat.le_refl _⟩ _ rfl (Nat.le_of_ble_eq_true rfl) dX12_dayOrder_60 ?_
    show Go V Γ M_X12_dayOrder (Zm V Γ 9 fin) 63 [(0, .ref (V.2.2.1 + 92)), (1, .int p1), (2, .int p2)] [.int r2] σ3
    obtain ⟨c4, h⟩ := chk_e h
    cases h
    exact g_iret (pc := 63) X rfl (ckz_e c4).1 (hr _ _ hA) dX12_dayOrder_63
  replace h := if_f c5 h
  by_cases c10 : p1 = 5
  · replace h := if_t c10 h
    refine g_tabIn (pc := 1) (tgt := 56) X c10 dX12_dayOrder_1 (by decide) (by decide) rfl rfl ?_
    refine g_aload_n (pc := 56) X 0 rfl dX12_dayOrder_56 ?_
    refine g_iload_n (pc := 57) X 2 rfl dX12_dayOrder_57 ?_
    refine g_iconst (v := 1) (pc := 58) X rfl dX12_dayOrder_58 ?_
    refine g_iadd (pc := 59) X dX12_dayOrder_59 ?_
    obtain ⟨r7, σ8, hc6, h⟩ := bd2_e h
    refine g_callV (pc := 60) X k_ml_X12_217 (run_Mo_classTo  hc6) s_92 rfl (room_ok (Nat.le_of_ble_eq_true rfl) (Nat.le_of_ble_eq_true rfl)) ⟨Nat.le_refl _, Nat.le_refl _⟩ _ rfl (Nat.le_of_ble_eq_true rfl) dX12_dayOrder_60 ?_
    show Go V Γ M_X12_dayOrder (Zm V Γ 9 fin) 63 [(0, .ref (V.2.2.1 + 92)), (1, .int p1), (2, .int p2)] [.int r7] σ8
    obtain ⟨c9, h⟩ := chk_e h
    cases h
    exact g_iret (pc := 63) X rfl (ckz_e c9).1 (hr _ _ hA) dX12_dayOrder_63
  replace h := if_f c10 h
  by_cases c15 : p1 = 6
  · replace h := if_t c15 h
    refine g_tabIn (pc := 1) (tgt := 64) X c15 dX12_dayOrder_1 (by decide) (by decide) rfl rfl ?_
    refine g_aload_n (pc := 64) X 0 rfl dX12_dayOrder_64 ?_
    refine g_iload_n (pc := 65) X 2 rfl dX12_dayOrder_65 ?_
    refine g_iconst (v := 2) (pc := 66) X rfl dX12_dayOrder_66 ?_
    refine g_iadd (pc := 67) X dX12_dayOrder_67 ?_
    refine g_iconst (v := 0) (pc := 68) X rfl dX12_dayOrder_68 ?_
    refine g_bipush (v := 59) (pc := 69) X (by decide) dX12_dayOrder_69 ?_
    obtain ⟨r12, σ13, hc11, h⟩ := bd2_e h
    refine g_callV (pc := 71) X k_ml_X12_193 (run_Mo_number  hc11) s_92 rfl (room_ok (Nat.le_of_ble_eq_true rfl) (Nat.le_of_ble_eq_true rfl)) ⟨Nat.le_refl _, Nat.le_refl _⟩ _ rfl (Nat.le_of_ble_eq_true rfl) dX12_dayOrder_71 ?_
    show Go V Γ M_X12_dayOrder (Zm V Γ 9 fin) 74 [(0, .ref (V.2.2.1 + 92)), (1, .int p1), (2, .int p2)] [.int r12] σ13
    obtain ⟨c14, h⟩ := chk_e h
    cases h
    exact g_iret (pc := 74) X rfl (ckz_e c14).1 (hr _ _ hA) dX12_dayOrder_74
  replace h := if_f c15 h
  by_cases c24 : p1 = 7
  · replace h := if_t c24 h
    refine g_tabIn (pc := 1) (tgt := 75) X c24 dX12_dayOrder_1 (by decide) (by decide) rfl rfl ?_
    refine g_aload_n (pc := 75) X 0 rfl dX12_dayOrder_75 ?_
    refine g_iload_n (pc := 76) X 2 rfl dX12_dayOrder_76 ?_
    refine g_iconst (v := 1) (pc := 77) X rfl dX12_dayOrder_77 ?_
    refine g_iadd (pc := 78) X dX12_dayOrder_78 ?_
    obtain ⟨r17, σ18, hc16, h⟩ := bd2_e h
    refine g_callV (pc := 79) X k_ml_X12_217 (run_Mo_classTo  hc16) s_92 rfl (room_ok (Nat.le_of_ble_eq_true rfl) (Nat.le_of_ble_eq_true rfl)) ⟨Nat.le_refl _, Nat.le_refl _⟩ _ rfl (Nat.le_of_ble_eq_true rfl) dX12_dayOrder_79 ?_
    show Go V Γ M_X12_dayOrder (Zm V Γ 9 fin) 82 [(0, .ref (V.2.2.1 + 92)), (1, .int p1), (2, .int p2)] [.int r17] σ18
    refine g_if_eq (pc := 82) (tgt := 102) X dX12_dayOrder_82 rfl (fun c23 => ?_) (fun c23 => ?_)
    · replace h := if_t c23 h
      refine g_iconst (v := 0) (pc := 102) X rfl dX12_dayOrder_102 ?_
      cases h
      exact g_iret (pc := 103) X rfl nz0.1 (hr _ _ hA) dX12_dayOrder_103
    · replace h := if_f c23 h
      refine g_aload_n (pc := 85) X 0 rfl dX12_dayOrder_85 ?_
      refine g_iload_n (pc := 86) X 2 rfl dX12_dayOrder_86 ?_
      refine g_iconst (v := 2) (pc := 87) X rfl dX12_dayOrder_87 ?_
      refine g_iadd (pc := 88) X dX12_dayOrder_88 ?_
      refine g_iconst (v := 2) (pc := 89) X rfl dX12_dayOrder_89 ?_
      refine g_bipush (v := 7) (pc := 90) X (by decide) dX12_dayOrder_90 ?_
      obtain ⟨r20, σ21, hc19, h⟩ := bd2_e h
      refine g_callV (pc := 92) X k_ml_X12_193 (run_Mo_number  hc19) s_92 rfl (room_ok (Nat.le_of_ble_eq_true rfl) (Nat.le_of_ble_eq_true rfl)) ⟨Nat.le_refl _, Nat.le_refl _⟩ _ rfl (Nat.le_of_ble_eq_true rfl) dX12_dayOrder_92 ?_
      show Go V Γ M_X12_dayOrder (Zm V Γ 9 fin) 95 [(0, .ref (V.2.2.1 + 92)), (1, .int p1), (2, .int p2)] [.int r20] σ21
      refine g_if_eq (pc := 95) (tgt := 102) X dX12_dayOrder_95 rfl (fun c22 => ?_) (fun c22 => ?_)
      · replace h := if_t c22 h
        refine g_iconst (v := 0) (pc := 102) X rfl dX12_dayOrder_102 ?_
        cases h
        exact g_iret (pc := 103) X rfl nz0.1 (hr _ _ hA) dX12_dayOrder_103
      · replace h := if_f c22 h
        refine g_iconst (v := 1) (pc := 98) X rfl dX12_dayOrder_98 ?_
        refine g_goto (pc := 99) (tgt := 103) X dX12_dayOrder_99 rfl ?_
        cases h
        exact g_iret (pc := 103) X rfl nz1.1 (hr _ _ hA) dX12_dayOrder_103
  replace h := if_f c24 h
  by_cases c25 : p1 = 8
  · replace h := if_t c25 h
    refine g_tabIn (pc := 1) (tgt := 121) X c25 dX12_dayOrder_1 (by decide) (by decide) rfl rfl ?_
    refine g_iconst (v := 1) (pc := 121) X rfl dX12_dayOrder_121 ?_
    cases h
    exact g_iret (pc := 122) X rfl nz1.1 (hr _ _ hA) dX12_dayOrder_122
  replace h := if_f c25 h
  by_cases c30 : p1 = 9
  · replace h := if_t c30 h
    refine g_tabIn (pc := 1) (tgt := 115) X c30 dX12_dayOrder_1 (by decide) (by decide) rfl rfl ?_
    refine g_aload_n (pc := 115) X 0 rfl dX12_dayOrder_115 ?_
    refine g_iload_n (pc := 116) X 2 rfl dX12_dayOrder_116 ?_
    obtain ⟨r27, σ28, hc26, h⟩ := bd2_e h
    refine g_callV (pc := 117) X k_ml_X12_220 (run_Mo_test  hc26) s_92 rfl (room_ok (Nat.le_of_ble_eq_true rfl) (Nat.le_of_ble_eq_true rfl)) ⟨Nat.le_refl _, Nat.le_refl _⟩ _ rfl (Nat.le_of_ble_eq_true rfl) dX12_dayOrder_117 ?_
    show Go V Γ M_X12_dayOrder (Zm V Γ 9 fin) 120 [(0, .ref (V.2.2.1 + 92)), (1, .int p1), (2, .int p2)] [.int r27] σ28
    obtain ⟨c29, h⟩ := chk_e h
    cases h
    exact g_iret (pc := 120) X rfl (ckz_e c29).1 (hr _ _ hA) dX12_dayOrder_120
  replace h := if_f c30 h
  by_cases c31 : p1 = 10
  · replace h := if_t c31 h
    refine g_tabIn (pc := 1) (tgt := 121) X c31 dX12_dayOrder_1 (by decide) (by decide) rfl rfl ?_
    refine g_iconst (v := 1) (pc := 121) X rfl dX12_dayOrder_121 ?_
    cases h
    exact g_iret (pc := 122) X rfl nz1.1 (hr _ _ hA) dX12_dayOrder_122
  replace h := if_f c31 h
  by_cases c32 : p1 = 11
  · replace h := if_t c32 h
    refine g_tabIn (pc := 1) (tgt := 121) X c32 dX12_dayOrder_1 (by decide) (by decide) rfl rfl ?_
    refine g_iconst (v := 1) (pc := 121) X rfl dX12_dayOrder_121 ?_
    cases h
    exact g_iret (pc := 122) X rfl nz1.1 (hr _ _ hA) dX12_dayOrder_122
  replace h := if_f c32 h
  by_cases c33 : p1 = 12
  · replace h := if_t c33 h
    refine g_tabIn (pc := 1) (tgt := 121) X c33 dX12_dayOrder_1 (by decide) (by decide) rfl rfl ?_
    refine g_iconst (v := 1) (pc := 121) X rfl dX12_dayOrder_121 ?_
    cases h
    exact g_iret (pc := 122) X rfl nz1.1 (hr _ _ hA) dX12_dayOrder_122
  replace h := if_f c33 h
  by_cases c38 : p1 = 13
  · replace h := if_t c38 h
    refine g_tabIn (pc := 1) (tgt := 104) X c38 dX12_dayOrder_1 (by decide) (by decide) rfl rfl ?_
    refine g_aload_n (pc := 104) X 0 rfl dX12_dayOrder_104 ?_
    refine g_iload_n (pc := 105) X 2 rfl dX12_dayOrder_105 ?_
    refine g_iconst (v := 2) (pc := 106) X rfl dX12_dayOrder_106 ?_
    refine g_iadd (pc := 107) X dX12_dayOrder_107 ?_
    refine g_iconst (v := 1) (pc := 108) X rfl dX12_dayOrder_108 ?_
    refine g_bipush (v := 99) (pc := 109) X (by decide) dX12_dayOrder_109 ?_
    obtain ⟨r35, σ36, hc34, h⟩ := bd2_e h
    refine g_callV (pc := 111) X k_ml_X12_193 (run_Mo_number  hc34) s_92 rfl (room_ok (Nat.le_of_ble_eq_true rfl) (Nat.le_of_ble_eq_true rfl)) ⟨Nat.le_refl _, Nat.le_refl _⟩ _ rfl (Nat.le_of_ble_eq_true rfl) dX12_dayOrder_111 ?_
    show Go V Γ M_X12_dayOrder (Zm V Γ 9 fin) 114 [(0, .ref (V.2.2.1 + 92)), (1, .int p1), (2, .int p2)] [.int r35] σ36
    obtain ⟨c37, h⟩ := chk_e h
    cases h
    exact g_iret (pc := 114) X rfl (ckz_e c37).1 (hr _ _ hA) dX12_dayOrder_114
  replace h := if_f c38 h
  refine g_tabOut (pc := 1) (tgt := 121) X dX12_dayOrder_1 (by have qc5 := lv_neT (k := 4) (a := 4) c5 rfl; have qc10 := lv_neT (k := 5) (a := 5) c10 rfl; have qc15 := lv_neT (k := 6) (a := 6) c15 rfl; have qc24 := lv_neT (k := 7) (a := 7) c24 rfl; have qc25 := lv_neT (k := 8) (a := 8) c25 rfl; have qc30 := lv_neT (k := 9) (a := 9) c30 rfl; have qc31 := lv_neT (k := 10) (a := 10) c31 rfl; have qc32 := lv_neT (k := 11) (a := 11) c32 rfl; have qc33 := lv_neT (k := 12) (a := 12) c33 rfl; have qc38 := lv_neT (k := 13) (a := 13) c38 rfl; omega) rfl ?_
  refine g_iconst (v := 1) (pc := 121) X rfl dX12_dayOrder_121 ?_
  cases h
  exact g_iret (pc := 122) X rfl nz1.1 (hr _ _ hA) dX12_dayOrder_122
set_option maxRecDepth 100000 in
theorem run_Mo_dayOrder {V : Ev} {σ : St} {p1 : Int32} {p2 : Int32} {o : (Int32 × St)}   (h : Mo_dayOrder σ p1 p2 = some o) : Rs V 9 M_X12_dayOrder [.ref (V.2.2.1 + 92), .int p1, .int p2] σ (some (.int o.1), o.2) := by
  refine Rs.of (by decide +kernel) (Nat.le_of_ble_eq_true rfl) (fun Γ X => ?_)
  exact tm_Mo_dayOrder X (A := fun o1 => o1 = o)  (fun _ _ e => by rw [← e]) h rfl
theorem dX12_isOrder_0 : decode cX12_isOrder 0 = .ok (.iload_n 0, 1) := by decide +kernel
theorem dX12_isOrder_1 : decode cX12_isOrder 1 = .ok (.iconst 4, 1) := by decide +kernel
theorem dX12_isOrder_2 : decode cX12_isOrder 2 = .ok (.if_icmp .lt 9, 3) := by decide +kernel
theorem dX12_isOrder_5 : decode cX12_isOrder 5 = .ok (.iload_n 0, 1) := by decide +kernel
theorem dX12_isOrder_6 : decode cX12_isOrder 6 = .ok (.bipush 9, 2) := by decide +kernel
theorem dX12_isOrder_8 : decode cX12_isOrder 8 = .ok (.if_icmp .le 9, 3) := by decide +kernel
theorem dX12_isOrder_11 : decode cX12_isOrder 11 = .ok (.iload_n 0, 1) := by decide +kernel
theorem dX12_isOrder_12 : decode cX12_isOrder 12 = .ok (.bipush 13, 2) := by decide +kernel
theorem dX12_isOrder_14 : decode cX12_isOrder 14 = .ok (.if_icmp .lt 7, 3) := by decide +kernel
theorem dX12_isOrder_17 : decode cX12_isOrder 17 = .ok (.iconst 1, 1) := by decide +kernel
theorem dX12_isOrder_18 : decode cX12_isOrder 18 = .ok (.goto 4, 3) := by decide +kernel
theorem dX12_isOrder_21 : decode cX12_isOrder 21 = .ok (.iconst 0, 1) := by decide +kernel
theorem dX12_isOrder_22 : decode cX12_isOrder 22 = .ok (.ireturn, 1) := by decide +kernel
noncomputable def Mo_isOrder (p0 : Int32) : Option Int32 :=
  if p0 < 4 then (if p0 < 13 then (some 0) else (some 1)) else (if p0 ≤ 9 then (some 1) else (if p0 < 13 then (some 0) else (some 1)))
set_option maxRecDepth 100000 in
set_option maxHeartbeats 4000000 in
theorem tm_Mo_isOrder {V : Ev} {Γ : Cn} {fin : Option Value × St} {σ : St} {p0 : Int32} {o : Int32} (X : Cx V Γ M_X12_isOrder) {A : Int32 → Prop}  (hr : ∀ (r : Int32), A r → (some (.int r), σ) = fin) (h : Mo_isOrder p0 = some o) (hA : A o) : Go V Γ M_X12_isOrder (Zm V Γ 0 fin) 0 [(0, .int p0)] [] σ := by
  unfold Mo_isOrder at h
  refine g_iload_n (pc := 0) X 0 rfl dX12_isOrder_0 ?_
  refine g_iconst (v := 4) (pc := 1) X rfl dX12_isOrder_1 ?_
  refine g_icmp_lt (pc := 2) (tgt := 11) X dX12_isOrder_2 rfl (fun c4 => ?_) (fun c4 => ?_)
  · replace h := if_t c4 h
    refine g_iload_n (pc := 11) X 0 rfl dX12_isOrder_11 ?_
    refine g_bipush (v := 13) (pc := 12) X (by decide) dX12_isOrder_12 ?_
    refine g_icmp_lt (pc := 14) (tgt := 21) X dX12_isOrder_14 rfl (fun c1 => ?_) (fun c1 => ?_)
    · replace h := if_t c1 h
      refine g_iconst (v := 0) (pc := 21) X rfl dX12_isOrder_21 ?_
      cases h
      exact g_iret (pc := 22) X rfl nz0.1 (hr _ hA) dX12_isOrder_22
    · replace h := if_f c1 h
      refine g_iconst (v := 1) (pc := 17) X rfl dX12_isOrder_17 ?_
      refine g_goto (pc := 18) (tgt := 22) X dX12_isOrder_18 rfl ?_
      cases h
      exact g_iret (pc := 22) X rfl nz1.1 (hr _ hA) dX12_isOrder_22
  · replace h := if_f c4 h
    refine g_iload_n (pc := 5) X 0 rfl dX12_isOrder_5 ?_
    refine g_bipush (v := 9) (pc := 6) X (by decide) dX12_isOrder_6 ?_
    refine g_icmp_le (pc := 8) (tgt := 17) X dX12_isOrder_8 rfl (fun c3 => ?_) (fun c3 => ?_)
    · replace h := if_t c3 h
      refine g_iconst (v := 1) (pc := 17) X rfl dX12_isOrder_17 ?_
      refine g_goto (pc := 18) (tgt := 22) X dX12_isOrder_18 rfl ?_
      cases h
      exact g_iret (pc := 22) X rfl nz1.1 (hr _ hA) dX12_isOrder_22
    · replace h := if_f c3 h
      refine g_iload_n (pc := 11) X 0 rfl dX12_isOrder_11 ?_
      refine g_bipush (v := 13) (pc := 12) X (by decide) dX12_isOrder_12 ?_
      refine g_icmp_lt (pc := 14) (tgt := 21) X dX12_isOrder_14 rfl (fun c2 => ?_) (fun c2 => ?_)
      · replace h := if_t c2 h
        refine g_iconst (v := 0) (pc := 21) X rfl dX12_isOrder_21 ?_
        cases h
        exact g_iret (pc := 22) X rfl nz0.1 (hr _ hA) dX12_isOrder_22
      · replace h := if_f c2 h
        refine g_iconst (v := 1) (pc := 17) X rfl dX12_isOrder_17 ?_
        refine g_goto (pc := 18) (tgt := 22) X dX12_isOrder_18 rfl ?_
        cases h
        exact g_iret (pc := 22) X rfl nz1.1 (hr _ hA) dX12_isOrder_22
set_option maxRecDepth 100000 in
theorem run_Mo_isOrder {V : Ev} {σ : St} {p0 : Int32} {o : Int32}   (h : Mo_isOrder p0 = some o) : Rs V 0 M_X12_isOrder [.int p0] σ (some (.int o), σ) := by
  refine Rs.of (by decide +kernel) (Nat.le_of_ble_eq_true rfl) (fun Γ X => ?_)
  exact tm_Mo_isOrder X (A := fun o1 => o1 = o)  (fun _ e => by rw [e]) h rfl
theorem dX12_dayStep_0 : decode cX12_dayStep 0 = .ok (.aload_n 0, 1) := by decide +kernel
theorem dX12_dayStep_1 : decode cX12_dayStep 1 = .ok (.ldc 170, 2) := by decide +kernel
theorem dX12_dayStep_3 : decode cX12_dayStep 3 = .ok (.invokevirtual 172, 3) := by decide +kernel
theorem dX12_dayStep_6 : decode cX12_dayStep 6 = .ok (.istore_n 1, 1) := by decide +kernel
theorem dX12_dayStep_7 : decode cX12_dayStep 7 = .ok (.aload_n 0, 1) := by decide +kernel
theorem dX12_dayStep_8 : decode cX12_dayStep 8 = .ok (.getfield 7, 3) := by decide +kernel
theorem dX12_dayStep_11 : decode cX12_dayStep 11 = .ok (.sipush 1618, 3) := by decide +kernel
theorem dX12_dayStep_14 : decode cX12_dayStep 14 = .ok (.iaload, 1) := by decide +kernel
theorem dX12_dayStep_15 : decode cX12_dayStep 15 = .ok (.istore_n 2, 1) := by decide +kernel
theorem dX12_dayStep_16 : decode cX12_dayStep 16 = .ok (.sipush 1656, 3) := by decide +kernel
theorem dX12_dayStep_19 : decode cX12_dayStep 19 = .ok (.bipush 6, 2) := by decide +kernel
theorem dX12_dayStep_21 : decode cX12_dayStep 21 = .ok (.iload_n 2, 1) := by decide +kernel
theorem dX12_dayStep_22 : decode cX12_dayStep 22 = .ok (.imul, 1) := by decide +kernel
theorem dX12_dayStep_23 : decode cX12_dayStep 23 = .ok (.iadd, 1) := by decide +kernel
theorem dX12_dayStep_24 : decode cX12_dayStep 24 = .ok (.istore_n 3, 1) := by decide +kernel
theorem dX12_dayStep_25 : decode cX12_dayStep 25 = .ok (.iload_n 1, 1) := by decide +kernel
theorem dX12_dayStep_26 : decode cX12_dayStep 26 = .ok (.bipush 9, 2) := by decide +kernel
theorem dX12_dayStep_28 : decode cX12_dayStep 28 = .ok (.if_icmp .eq 9, 3) := by decide +kernel
theorem dX12_dayStep_31 : decode cX12_dayStep 31 = .ok (.iload_n 1, 1) := by decide +kernel
theorem dX12_dayStep_32 : decode cX12_dayStep 32 = .ok (.bipush 13, 2) := by decide +kernel
theorem dX12_dayStep_34 : decode cX12_dayStep 34 = .ok (.if_icmp .ne 7, 3) := by decide +kernel
theorem dX12_dayStep_37 : decode cX12_dayStep 37 = .ok (.iconst 1, 1) := by decide +kernel
theorem dX12_dayStep_38 : decode cX12_dayStep 38 = .ok (.goto 4, 3) := by decide +kernel
theorem dX12_dayStep_41 : decode cX12_dayStep 41 = .ok (.iconst 0, 1) := by decide +kernel
theorem dX12_dayStep_42 : decode cX12_dayStep 42 = .ok (.istore 4, 2) := by decide +kernel
theorem dX12_dayStep_44 : decode cX12_dayStep 44 = .ok (.iload_n 1, 1) := by decide +kernel
theorem dX12_dayStep_45 : decode cX12_dayStep 45 = .ok (.invokestatic 223, 3) := by decide +kernel
theorem dX12_dayStep_48 : decode cX12_dayStep 48 = .ok (.ifCond .eq 16, 3) := by decide +kernel
theorem dX12_dayStep_51 : decode cX12_dayStep 51 = .ok (.iload_n 1, 1) := by decide +kernel
theorem dX12_dayStep_52 : decode cX12_dayStep 52 = .ok (.bipush 14, 2) := by decide +kernel
theorem dX12_dayStep_54 : decode cX12_dayStep 54 = .ok (.if_icmp .ne 16, 3) := by decide +kernel
theorem dX12_dayStep_57 : decode cX12_dayStep 57 = .ok (.aload_n 0, 1) := by decide +kernel
theorem dX12_dayStep_58 : decode cX12_dayStep 58 = .ok (.getfield 226, 3) := by decide +kernel
theorem dX12_dayStep_61 : decode cX12_dayStep 61 = .ok (.ifCond .ne 9, 3) := by decide +kernel
theorem dX12_dayStep_64 : decode cX12_dayStep 64 = .ok (.aload_n 0, 1) := by decide +kernel
theorem dX12_dayStep_65 : decode cX12_dayStep 65 = .ok (.iconst 2, 1) := by decide +kernel
theorem dX12_dayStep_66 : decode cX12_dayStep 66 = .ok (.invokevirtual 167, 3) := by decide +kernel
theorem dX12_dayStep_69 : decode cX12_dayStep 69 = .ok (.ireturn, 1) := by decide +kernel
theorem dX12_dayStep_70 : decode cX12_dayStep 70 = .ok (.iload_n 1, 1) := by decide +kernel
theorem dX12_dayStep_71 : decode cX12_dayStep 71 = .ok (.bipush 14, 2) := by decide +kernel
theorem dX12_dayStep_73 : decode cX12_dayStep 73 = .ok (.if_icmp .eq 19, 3) := by decide +kernel
theorem dX12_dayStep_76 : decode cX12_dayStep 76 = .ok (.aload_n 0, 1) := by decide +kernel
theorem dX12_dayStep_77 : decode cX12_dayStep 77 = .ok (.getfield 229, 3) := by decide +kernel
theorem dX12_dayStep_80 : decode cX12_dayStep 80 = .ok (.bipush 30, 2) := by decide +kernel
theorem dX12_dayStep_82 : decode cX12_dayStep 82 = .ok (.if_icmp .ne 10, 3) := by decide +kernel
theorem dX12_dayStep_85 : decode cX12_dayStep 85 = .ok (.aload_n 0, 1) := by decide +kernel
theorem dX12_dayStep_86 : decode cX12_dayStep 86 = .ok (.bipush 6, 2) := by decide +kernel
theorem dX12_dayStep_88 : decode cX12_dayStep 88 = .ok (.invokevirtual 167, 3) := by decide +kernel
theorem dX12_dayStep_91 : decode cX12_dayStep 91 = .ok (.ireturn, 1) := by decide +kernel
theorem dX12_dayStep_92 : decode cX12_dayStep 92 = .ok (.iload 4, 2) := by decide +kernel
theorem dX12_dayStep_94 : decode cX12_dayStep 94 = .ok (.ifCond .eq 18, 3) := by decide +kernel
theorem dX12_dayStep_97 : decode cX12_dayStep 97 = .ok (.aload_n 0, 1) := by decide +kernel
theorem dX12_dayStep_98 : decode cX12_dayStep 98 = .ok (.getfield 226, 3) := by decide +kernel
theorem dX12_dayStep_101 : decode cX12_dayStep 101 = .ok (.iconst 3, 1) := by decide +kernel
theorem dX12_dayStep_102 : decode cX12_dayStep 102 = .ok (.if_icmp .ne 10, 3) := by decide +kernel
theorem dX12_dayStep_105 : decode cX12_dayStep 105 = .ok (.aload_n 0, 1) := by decide +kernel
theorem dX12_dayStep_106 : decode cX12_dayStep 106 = .ok (.bipush 7, 2) := by decide +kernel
theorem dX12_dayStep_108 : decode cX12_dayStep 108 = .ok (.invokevirtual 167, 3) := by decide +kernel
theorem dX12_dayStep_111 : decode cX12_dayStep 111 = .ok (.ireturn, 1) := by decide +kernel
theorem dX12_dayStep_112 : decode cX12_dayStep 112 = .ok (.aload_n 0, 1) := by decide +kernel
theorem dX12_dayStep_113 : decode cX12_dayStep 113 = .ok (.dup, 1) := by decide +kernel
theorem dX12_dayStep_114 : decode cX12_dayStep 114 = .ok (.getfield 229, 3) := by decide +kernel
theorem dX12_dayStep_117 : decode cX12_dayStep 117 = .ok (.iload_n 1, 1) := by decide +kernel
theorem dX12_dayStep_118 : decode cX12_dayStep 118 = .ok (.bipush 14, 2) := by decide +kernel
theorem dX12_dayStep_120 : decode cX12_dayStep 120 = .ok (.if_icmp .ne 7, 3) := by decide +kernel
theorem dX12_dayStep_123 : decode cX12_dayStep 123 = .ok (.iconst 0, 1) := by decide +kernel
theorem dX12_dayStep_124 : decode cX12_dayStep 124 = .ok (.goto 4, 3) := by decide +kernel
theorem dX12_dayStep_127 : decode cX12_dayStep 127 = .ok (.iconst 1, 1) := by decide +kernel
theorem dX12_dayStep_128 : decode cX12_dayStep 128 = .ok (.iadd, 1) := by decide +kernel
theorem dX12_dayStep_129 : decode cX12_dayStep 129 = .ok (.putfield 229, 3) := by decide +kernel
theorem dX12_dayStep_132 : decode cX12_dayStep 132 = .ok (.aload_n 0, 1) := by decide +kernel
theorem dX12_dayStep_133 : decode cX12_dayStep 133 = .ok (.getfield 7, 3) := by decide +kernel
theorem dX12_dayStep_136 : decode cX12_dayStep 136 = .ok (.iload_n 3, 1) := by decide +kernel
theorem dX12_dayStep_137 : decode cX12_dayStep 137 = .ok (.iload_n 1, 1) := by decide +kernel
theorem dX12_dayStep_138 : decode cX12_dayStep 138 = .ok (.iastore, 1) := by decide +kernel
theorem dX12_dayStep_139 : decode cX12_dayStep 139 = .ok (.iconst 1, 1) := by decide +kernel
theorem dX12_dayStep_140 : decode cX12_dayStep 140 = .ok (.istore 5, 2) := by decide +kernel
theorem dX12_dayStep_142 : decode cX12_dayStep 142 = .ok (.iload 5, 2) := by decide +kernel
theorem dX12_dayStep_144 : decode cX12_dayStep 144 = .ok (.bipush 6, 2) := by decide +kernel
theorem dX12_dayStep_146 : decode cX12_dayStep 146 = .ok (.if_icmp .ge 19, 3) := by decide +kernel
theorem dX12_dayStep_149 : decode cX12_dayStep 149 = .ok (.aload_n 0, 1) := by decide +kernel
theorem dX12_dayStep_150 : decode cX12_dayStep 150 = .ok (.getfield 7, 3) := by decide +kernel
theorem dX12_dayStep_153 : decode cX12_dayStep 153 = .ok (.iload_n 3, 1) := by decide +kernel
theorem dX12_dayStep_154 : decode cX12_dayStep 154 = .ok (.iload 5, 2) := by decide +kernel
theorem dX12_dayStep_156 : decode cX12_dayStep 156 = .ok (.iadd, 1) := by decide +kernel
theorem dX12_dayStep_157 : decode cX12_dayStep 157 = .ok (.iconst 0, 1) := by decide +kernel
theorem dX12_dayStep_158 : decode cX12_dayStep 158 = .ok (.iastore, 1) := by decide +kernel
theorem dX12_dayStep_159 : decode cX12_dayStep 159 = .ok (.iinc 5 1, 3) := by decide +kernel
theorem dX12_dayStep_162 : decode cX12_dayStep 162 = .ok (.goto (-20), 3) := by decide +kernel
theorem dX12_dayStep_165 : decode cX12_dayStep 165 = .ok (.aload_n 0, 1) := by decide +kernel
theorem dX12_dayStep_166 : decode cX12_dayStep 166 = .ok (.getfield 7, 3) := by decide +kernel
theorem dX12_dayStep_169 : decode cX12_dayStep 169 = .ok (.sipush 1618, 3) := by decide +kernel
theorem dX12_dayStep_172 : decode cX12_dayStep 172 = .ok (.dup2, 1) := by decide +kernel
theorem dX12_dayStep_173 : decode cX12_dayStep 173 = .ok (.iaload, 1) := by decide +kernel
theorem dX12_dayStep_174 : decode cX12_dayStep 174 = .ok (.iconst 1, 1) := by decide +kernel
theorem dX12_dayStep_175 : decode cX12_dayStep 175 = .ok (.iadd, 1) := by decide +kernel
theorem dX12_dayStep_176 : decode cX12_dayStep 176 = .ok (.iastore, 1) := by decide +kernel
theorem dX12_dayStep_177 : decode cX12_dayStep 177 = .ok (.aload_n 0, 1) := by decide +kernel
theorem dX12_dayStep_178 : decode cX12_dayStep 178 = .ok (.invokevirtual 161, 3) := by decide +kernel
theorem dX12_dayStep_181 : decode cX12_dayStep 181 = .ok (.aload_n 0, 1) := by decide +kernel
theorem dX12_dayStep_182 : decode cX12_dayStep 182 = .ok (.iload_n 1, 1) := by decide +kernel
theorem dX12_dayStep_183 : decode cX12_dayStep 183 = .ok (.iload_n 3, 1) := by decide +kernel
theorem dX12_dayStep_184 : decode cX12_dayStep 184 = .ok (.invokevirtual 232, 3) := by decide +kernel
theorem dX12_dayStep_187 : decode cX12_dayStep 187 = .ok (.ifCond .ne 5, 3) := by decide +kernel
theorem dX12_dayStep_190 : decode cX12_dayStep 190 = .ok (.iconst 0, 1) := by decide +kernel
theorem dX12_dayStep_191 : decode cX12_dayStep 191 = .ok (.ireturn, 1) := by decide +kernel
theorem dX12_dayStep_192 : decode cX12_dayStep 192 = .ok (.iload 4, 2) := by decide +kernel
theorem dX12_dayStep_194 : decode cX12_dayStep 194 = .ok (.ifCond .eq 23, 3) := by decide +kernel
theorem dX12_dayStep_197 : decode cX12_dayStep 197 = .ok (.aload_n 0, 1) := by decide +kernel
theorem dX12_dayStep_198 : decode cX12_dayStep 198 = .ok (.getfield 44, 3) := by decide +kernel
theorem dX12_dayStep_201 : decode cX12_dayStep 201 = .ok (.aload_n 0, 1) := by decide +kernel
theorem dX12_dayStep_202 : decode cX12_dayStep 202 = .ok (.getfield 226, 3) := by decide +kernel
theorem dX12_dayStep_205 : decode cX12_dayStep 205 = .ok (.iload_n 2, 1) := by decide +kernel
theorem dX12_dayStep_206 : decode cX12_dayStep 206 = .ok (.iastore, 1) := by decide +kernel
theorem dX12_dayStep_207 : decode cX12_dayStep 207 = .ok (.aload_n 0, 1) := by decide +kernel
theorem dX12_dayStep_208 : decode cX12_dayStep 208 = .ok (.dup, 1) := by decide +kernel
theorem dX12_dayStep_209 : decode cX12_dayStep 209 = .ok (.getfield 226, 3) := by decide +kernel
theorem dX12_dayStep_212 : decode cX12_dayStep 212 = .ok (.iconst 1, 1) := by decide +kernel
theorem dX12_dayStep_213 : decode cX12_dayStep 213 = .ok (.iadd, 1) := by decide +kernel
theorem dX12_dayStep_214 : decode cX12_dayStep 214 = .ok (.putfield 226, 3) := by decide +kernel
theorem dX12_dayStep_217 : decode cX12_dayStep 217 = .ok (.iload_n 1, 1) := by decide +kernel
theorem dX12_dayStep_218 : decode cX12_dayStep 218 = .ok (.bipush 14, 2) := by decide +kernel
theorem dX12_dayStep_220 : decode cX12_dayStep 220 = .ok (.if_icmp .ne 54, 3) := by decide +kernel
theorem dX12_dayStep_223 : decode cX12_dayStep 223 = .ok (.aload_n 0, 1) := by decide +kernel
theorem dX12_dayStep_224 : decode cX12_dayStep 224 = .ok (.dup, 1) := by decide +kernel
theorem dX12_dayStep_225 : decode cX12_dayStep 225 = .ok (.getfield 226, 3) := by decide +kernel
theorem dX12_dayStep_228 : decode cX12_dayStep 228 = .ok (.iconst 1, 1) := by decide +kernel
theorem dX12_dayStep_229 : decode cX12_dayStep 229 = .ok (.isub, 1) := by decide +kernel
theorem dX12_dayStep_230 : decode cX12_dayStep 230 = .ok (.putfield 226, 3) := by decide +kernel
theorem dX12_dayStep_233 : decode cX12_dayStep 233 = .ok (.aload_n 0, 1) := by decide +kernel
theorem dX12_dayStep_234 : decode cX12_dayStep 234 = .ok (.getfield 7, 3) := by decide +kernel
theorem dX12_dayStep_237 : decode cX12_dayStep 237 = .ok (.iload_n 3, 1) := by decide +kernel
theorem dX12_dayStep_238 : decode cX12_dayStep 238 = .ok (.iconst 4, 1) := by decide +kernel
theorem dX12_dayStep_239 : decode cX12_dayStep 239 = .ok (.iadd, 1) := by decide +kernel
theorem dX12_dayStep_240 : decode cX12_dayStep 240 = .ok (.aload_n 0, 1) := by decide +kernel
theorem dX12_dayStep_241 : decode cX12_dayStep 241 = .ok (.getfield 44, 3) := by decide +kernel
theorem dX12_dayStep_244 : decode cX12_dayStep 244 = .ok (.aload_n 0, 1) := by decide +kernel
theorem dX12_dayStep_245 : decode cX12_dayStep 245 = .ok (.getfield 226, 3) := by decide +kernel
theorem dX12_dayStep_248 : decode cX12_dayStep 248 = .ok (.iaload, 1) := by decide +kernel
theorem dX12_dayStep_249 : decode cX12_dayStep 249 = .ok (.iastore, 1) := by decide +kernel
theorem dX12_dayStep_250 : decode cX12_dayStep 250 = .ok (.aload_n 0, 1) := by decide +kernel
theorem dX12_dayStep_251 : decode cX12_dayStep 251 = .ok (.getfield 7, 3) := by decide +kernel
theorem dX12_dayStep_254 : decode cX12_dayStep 254 = .ok (.sipush 1656, 3) := by decide +kernel
theorem dX12_dayStep_257 : decode cX12_dayStep 257 = .ok (.bipush 6, 2) := by decide +kernel
theorem dX12_dayStep_259 : decode cX12_dayStep 259 = .ok (.aload_n 0, 1) := by decide +kernel
theorem dX12_dayStep_260 : decode cX12_dayStep 260 = .ok (.getfield 44, 3) := by decide +kernel
theorem dX12_dayStep_263 : decode cX12_dayStep 263 = .ok (.aload_n 0, 1) := by decide +kernel
theorem dX12_dayStep_264 : decode cX12_dayStep 264 = .ok (.getfield 226, 3) := by decide +kernel
theorem dX12_dayStep_267 : decode cX12_dayStep 267 = .ok (.iaload, 1) := by decide +kernel
theorem dX12_dayStep_268 : decode cX12_dayStep 268 = .ok (.imul, 1) := by decide +kernel
theorem dX12_dayStep_269 : decode cX12_dayStep 269 = .ok (.iadd, 1) := by decide +kernel
theorem dX12_dayStep_270 : decode cX12_dayStep 270 = .ok (.iconst 4, 1) := by decide +kernel
theorem dX12_dayStep_271 : decode cX12_dayStep 271 = .ok (.iadd, 1) := by decide +kernel
theorem dX12_dayStep_272 : decode cX12_dayStep 272 = .ok (.iload_n 2, 1) := by decide +kernel
theorem dX12_dayStep_273 : decode cX12_dayStep 273 = .ok (.iastore, 1) := by decide +kernel
theorem dX12_dayStep_274 : decode cX12_dayStep 274 = .ok (.aload_n 0, 1) := by decide +kernel
theorem dX12_dayStep_275 : decode cX12_dayStep 275 = .ok (.bipush 59, 2) := by decide +kernel
theorem dX12_dayStep_277 : decode cX12_dayStep 277 = .ok (.invokevirtual 197, 3) := by decide +kernel
theorem dX12_dayStep_280 : decode cX12_dayStep 280 = .ok (.ireturn, 1) := by decide +kernel
noncomputable def Mo_dayStep_L142 (l1 : Int32) (l2 : Int32) (l3 : Int32) (l4 : Int32) (σ : St) (x5 : Int32) : Option ((Int32 × St) ⊕ St) :=
  if 6 ≤ x5 then (some (.inr σ)) else (chk (ix (l3 + x5) 2060) (bnd (wI σ 93 (tn (l3 + x5)) 0) (fun σ16 => bnd (x5 + 1) (fun v17 => some (.inl (v17, σ16))))))
set_option maxRecDepth 100000 in
set_option maxHeartbeats 4000000 in
theorem tb_Mo_dayStep_L142 {V : Ev} {Γ : Cn} {fin : Option Value × St} {l1 : Int32} {l2 : Int32} {l3 : Int32} {l4 : Int32} {σ : St} {x5 : Int32} {o : ((Int32 × St) ⊕ St)} (X : Cx V Γ M_X12_dayStep) {A : ((Int32 × St) ⊕ St) → Prop}  (hb142 : ∀ (x5 : Int32) (σ9 : St), A (.inl (x5, σ9)) → Go V Γ M_X12_dayStep (Zm V Γ 10 fin) 142 [(0, .ref (V.2.2.1 + 92)), (1, .int l1), (2, .int l2), (3, .int l3), (4, .int l4), (5, .int x5)] [] σ9) (hx142 : ∀ (σ9 : St), A (.inr σ9) → Go V Γ M_X12_dayStep (Zm V Γ 10 fin) 165 [(0, .ref (V.2.2.1 + 92)), (1, .int l1), (2, .int l2), (3, .int l3), (4, .int l4)] [] σ9) (h : Mo_dayStep_L142 l1 l2 l3 l4 σ x5 = some o) (hA : A o) : Go V Γ M_X12_dayStep (Zm V Γ 10 fin) 142 [(0, .ref (V.2.2.1 + 92)), (1, .int l1), (2, .int l2), (3, .int l3), (4, .int l4), (5, .int x5)] [] σ := by
  unfold Mo_dayStep_L142 at h
  refine g_iload (pc := 142) X 5 rfl dX12_dayStep_142 ?_
  refine g_bipush (v := 6) (pc := 144) X (by decide) dX12_dayStep_144 ?_
  refine g_icmp_ge (pc := 146) (tgt := 165) X dX12_dayStep_146 rfl (fun c18 => ?_) (fun c18 => ?_)
  · replace h := if_t c18 h
    refine g_sub [0, 1, 2, 3, 4] rfl ?_
    cases h
    exact hx142 _ hA
  · replace h := if_f c18 h
    refine g_aload_n (pc := 149) X 0 rfl dX12_dayStep_149 ?_
    refine g_getR (r := 93) (pc := 150) X k_fl_X12_7 s_92 rfl dX12_dayStep_150 ?_
    refine g_iload_n (pc := 153) X 3 rfl dX12_dayStep_153 ?_
    refine g_iload (pc := 154) X 5 rfl dX12_dayStep_154 ?_
    refine g_iadd (pc := 156) X dX12_dayStep_156 ?_
    refine g_iconst (v := 0) (pc := 157) X rfl dX12_dayStep_157 ?_
    obtain ⟨c15, h⟩ := chk_e h
    refine g_iast (pc := 158) X s_93 c15 dX12_dayStep_158 ?_
    obtain ⟨σ16, e_σ16, h⟩ := bnd_e h
    refine g_nmS e_σ16 ?_
    obtain ⟨v17, e_v17, h⟩ := bnd_e h
    refine g_iinc (pc := 159) (v := v17) X [(5, .int v17), (0, .ref (V.2.2.1 + 92)), (1, .int l1), (2, .int l2), (3, .int l3), (4, .int l4)] 5 rfl (by rw [e_v17]; rfl) (Nat.le_of_ble_eq_true rfl) rfl dX12_dayStep_159 ?_
    refine g_goto (pc := 162) (tgt := 142) X dX12_dayStep_162 rfl ?_
    refine g_sub [1, 2, 3, 4, 5, 0] rfl ?_
    cases h
    exact hb142 _ _ hA
set_option maxRecDepth 100000 in
theorem tl_Mo_dayStep_L142 {V : Ev} {Γ : Cn} {fin : Option Value × St} {l1 : Int32} {l2 : Int32} {l3 : Int32} {l4 : Int32} {x5 : Int32} {σ9 : St} (X : Cx V Γ M_X12_dayStep)  {σ8 : St} {n : Nat} (h : iter (fun s : (Int32 × St) => Mo_dayStep_L142 l1 l2 l3 l4 s.2 s.1) n (x5, σ9) = some σ8) (hK : Go V Γ M_X12_dayStep (Zm V Γ 10 fin) 165 [(0, .ref (V.2.2.1 + 92)), (1, .int l1), (2, .int l2), (3, .int l3), (4, .int l4)] [] σ8) : Go V Γ M_X12_dayStep (Zm V Γ 10 fin) 142 [(0, .ref (V.2.2.1 + 92)), (1, .int l1), (2, .int l2), (3, .int l3), (4, .int l4), (5, .int x5)] [] σ9 := by
  refine iter_go (G := (fun s : (Int32 × St) => Go V Γ M_X12_dayStep (Zm V Γ 10 fin) 142 [(0, .ref (V.2.2.1 + 92)), (1, .int l1), (2, .int l2), (3, .int l3), (4, .int l4), (5, .int s.1)] [] s.2)) (fun s o ho hS => ?_) n (x5, σ9) h
  exact tb_Mo_dayStep_L142 X  (fun _ _ h9 => h9) (fun _ he => by cases he; exact hK) ho hS
noncomputable def Mo_dayStep_J217 (σ : St) (l1 : Int32) (l2 : Int32) (l3 : Int32) : Option ((Int32 × St)) :=
  if l1 = 14 then (bnd (wI σ 92 21 ((σ.1 92 21) - 1)) (fun σ33 => chk (ix (σ33.1 92 21) 3) (chk (ix (l3 + 4) 2060) (bnd (wI σ33 93 (tn (l3 + 4)) (σ33.1 100 (tn (σ33.1 92 21)))) (fun σ36 => chk (ix (σ36.1 92 21) 3) (chk (ix ((1656 + (6 * (σ36.1 100 (tn (σ36.1 92 21))))) + 4) 2060) (bnd (wI σ36 93 (tn ((1656 + (6 * (σ36.1 100 (tn (σ36.1 92 21))))) + 4)) l2) (fun σ39 => bd2 (Mo_wantSign σ39 59) (fun r41 σ42 => chk (ckz r41) (some (r41, σ42))))))))))) else (bd2 (Mo_wantSign σ 59) (fun r30 σ31 => chk (ckz r30) (some (r30, σ31))))
set_option maxRecDepth 100000 in
set_option maxHeartbeats 4000000 in
theorem tj_Mo_dayStep_J217 {V : Ev} {Γ : Cn} {fin : Option Value × St} {σ : St} {l1 : Int32} {l2 : Int32} {l3 : Int32} {o : (Int32 × St)} (X : Cx V Γ M_X12_dayStep) {A : (Int32 × St) → Prop}  (hr : ∀ (r : Int32) (σ9 : St), A (r, σ9) → (some (.int r), σ9) = fin) (h : Mo_dayStep_J217 σ l1 l2 l3 = some o) (hA : A o) : Go V Γ M_X12_dayStep (Zm V Γ 10 fin) 217 [(0, .ref (V.2.2.1 + 92)), (1, .int l1), (2, .int l2), (3, .int l3)] [] σ := by
  unfold Mo_dayStep_J217 at h
  refine g_iload_n (pc := 217) X 1 rfl dX12_dayStep_217 ?_
  refine g_bipush (v := 14) (pc := 218) X (by decide) dX12_dayStep_218 ?_
  refine g_icmp_ne (pc := 220) (tgt := 274) X dX12_dayStep_220 rfl (fun c44 => ?_) (fun c44 => ?_)
  · replace h := if_f c44 h
    refine g_aload_n (pc := 274) X 0 rfl dX12_dayStep_274 ?_
    refine g_bipush (v := 59) (pc := 275) X (by decide) dX12_dayStep_275 ?_
    obtain ⟨r30, σ31, hc29, h⟩ := bd2_e h
    refine g_callV (pc := 277) X k_ml_X12_197 (run_Mo_wantSign  hc29) s_92 rfl (room_ok (Nat.le_of_ble_eq_true rfl) (Nat.le_of_ble_eq_true rfl)) ⟨Nat.le_refl _, Nat.le_refl _⟩ _ rfl (Nat.le_of_ble_eq_true rfl) dX12_dayStep_277 ?_
    show Go V Γ M_X12_dayStep (Zm V Γ 10 fin) 280 [(0, .ref (V.2.2.1 + 92)), (1, .int l1), (2, .int l2), (3, .int l3)] [.int r30] σ31
    obtain ⟨c32, h⟩ := chk_e h
    cases h
    exact g_iret (pc := 280) X rfl (ckz_e c32).1 (hr _ _ hA) dX12_dayStep_280
  · replace h := if_t c44 h
    refine g_aload_n (pc := 223) X 0 rfl dX12_dayStep_223 ?_
    refine g_dup (pc := 224) X rfl dX12_dayStep_224 ?_
    refine g_getI (pc := 225) X k_fl_X12_226 s_92 rfl dX12_dayStep_225 ?_
    refine g_iconst (v := 1) (pc := 228) X rfl dX12_dayStep_228 ?_
    refine g_isub (pc := 229) X dX12_dayStep_229 ?_
    refine g_putI (pc := 230) X k_fl_X12_226 s_92 rfl rfl rfl dX12_dayStep_230 ?_
    obtain ⟨σ33, e_σ33, h⟩ := bnd_e h
    refine g_nmS e_σ33 ?_
    refine g_aload_n (pc := 233) X 0 rfl dX12_dayStep_233 ?_
    refine g_getR (r := 93) (pc := 234) X k_fl_X12_7 s_92 rfl dX12_dayStep_234 ?_
    refine g_iload_n (pc := 237) X 3 rfl dX12_dayStep_237 ?_
    refine g_iconst (v := 4) (pc := 238) X rfl dX12_dayStep_238 ?_
    refine g_iadd (pc := 239) X dX12_dayStep_239 ?_
    refine g_aload_n (pc := 240) X 0 rfl dX12_dayStep_240 ?_
    refine g_getR (r := 100) (pc := 241) X k_fl_X12_44 s_92 rfl dX12_dayStep_241 ?_
    refine g_aload_n (pc := 244) X 0 rfl dX12_dayStep_244 ?_
    refine g_getI (pc := 245) X k_fl_X12_226 s_92 rfl dX12_dayStep_245 ?_
    obtain ⟨c34, h⟩ := chk_e h
    refine g_iald (pc := 248) X s_100 c34 dX12_dayStep_248 ?_
    obtain ⟨c35, h⟩ := chk_e h
    refine g_iast (pc := 249) X s_93 c35 dX12_dayStep_249 ?_
    obtain ⟨σ36, e_σ36, h⟩ := bnd_e h
    refine g_nmS e_σ36 ?_
    refine g_aload_n (pc := 250) X 0 rfl dX12_dayStep_250 ?_
    refine g_getR (r := 93) (pc := 251) X k_fl_X12_7 s_92 rfl dX12_dayStep_251 ?_
    refine g_sipush (v := 1656) (pc := 254) X (by decide) dX12_dayStep_254 ?_
    refine g_bipush (v := 6) (pc := 257) X (by decide) dX12_dayStep_257 ?_
    refine g_aload_n (pc := 259) X 0 rfl dX12_dayStep_259 ?_
    refine g_getR (r := 100) (pc := 260) X k_fl_X12_44 s_92 rfl dX12_dayStep_260 ?_
    refine g_aload_n (pc := 263) X 0 rfl dX12_dayStep_263 ?_
    refine g_getI (pc := 264) X k_fl_X12_226 s_92 rfl dX12_dayStep_264 ?_
    obtain ⟨c37, h⟩ := chk_e h
    refine g_iald (pc := 267) X s_100 c37 dX12_dayStep_267 ?_
    refine g_imul (pc := 268) X dX12_dayStep_268 ?_
    refine g_iadd (pc := 269) X dX12_dayStep_269 ?_
    refine g_iconst (v := 4) (pc := 270) X rfl dX12_dayStep_270 ?_
    refine g_iadd (pc := 271) X dX12_dayStep_271 ?_
    refine g_iload_n (pc := 272) X 2 rfl dX12_dayStep_272 ?_
    obtain ⟨c38, h⟩ := chk_e h
    refine g_iast (pc := 273) X s_93 c38 dX12_dayStep_273 ?_
    obtain ⟨σ39, e_σ39, h⟩ := bnd_e h
    refine g_nmS e_σ39 ?_
    refine g_aload_n (pc := 274) X 0 rfl dX12_dayStep_274 ?_
    refine g_bipush (v := 59) (pc := 275) X (by decide) dX12_dayStep_275 ?_
    obtain ⟨r41, σ42, hc40, h⟩ := bd2_e h
    refine g_callV (pc := 277) X k_ml_X12_197 (run_Mo_wantSign  hc40) s_92 rfl (room_ok (Nat.le_of_ble_eq_true rfl) (Nat.le_of_ble_eq_true rfl)) ⟨Nat.le_refl _, Nat.le_refl _⟩ _ rfl (Nat.le_of_ble_eq_true rfl) dX12_dayStep_277 ?_
    show Go V Γ M_X12_dayStep (Zm V Γ 10 fin) 280 [(0, .ref (V.2.2.1 + 92)), (1, .int l1), (2, .int l2), (3, .int l3)] [.int r41] σ42
    obtain ⟨c43, h⟩ := chk_e h
    cases h
    exact g_iret (pc := 280) X rfl (ckz_e c43).1 (hr _ _ hA) dX12_dayStep_280
noncomputable def Mo_dayStep_J128 (σ : St) (l1 : Int32) (l2 : Int32) (l3 : Int32) (l4 : Int32) (s0 : Int32) (s1 : Int32) : Option ((Int32 × St)) :=
  bnd (wI σ 92 22 (s1 + s0)) (fun σ12 => chk (ix l3 2060) (bnd (wI σ12 93 (tn l3) l1) (fun σ14 => bd (iter (fun s : (Int32 × St) => Mo_dayStep_L142 l1 l2 l3 l4 s.2 s.1) FUEL (1, σ14)) (fun σ19 => chk (ix 1618 2060) (chk (ix 1618 2060) (bnd (wI σ19 93 (tn 1618) ((σ19.1 93 (tn 1618)) + 1)) (fun σ23 => bd (Mo_ahead σ23) (fun σ25 => bd2 (Mo_dayOrder σ25 l1 l3) (fun r27 σ28 => if r27 = 0 then (some (0, σ28)) else (if l4 = 0 then (Mo_dayStep_J217 σ28 l1 l2 l3) else (chk (ix (σ28.1 92 21) 3) (bnd (wI σ28 100 (tn (σ28.1 92 21)) l2) (fun σ46 => bnd (wI σ46 92 21 ((σ46.1 92 21) + 1)) (fun σ47 => Mo_dayStep_J217 σ47 l1 l2 l3))))))))))))))
set_option maxRecDepth 100000 in
set_option maxHeartbeats 4000000 in
theorem tj_Mo_dayStep_J128 {V : Ev} {Γ : Cn} {fin : Option Value × St} {σ : St} {l1 : Int32} {l2 : Int32} {l3 : Int32} {l4 : Int32} {s0 : Int32} {s1 : Int32} {o : (Int32 × St)} (X : Cx V Γ M_X12_dayStep) {A : (Int32 × St) → Prop}  (hr : ∀ (r : Int32) (σ9 : St), A (r, σ9) → (some (.int r), σ9) = fin) (h : Mo_dayStep_J128 σ l1 l2 l3 l4 s0 s1 = some o) (hA : A o) : Go V Γ M_X12_dayStep (Zm V Γ 10 fin) 128 [(0, .ref (V.2.2.1 + 92)), (1, .int l1), (2, .int l2), (3, .int l3), (4, .int l4)] [.int s0, .int s1, .ref (V.2.2.1 + 92)] σ := by
  unfold Mo_dayStep_J128 at h
  refine g_iadd (pc := 128) X dX12_dayStep_128 ?_
  refine g_putI (pc := 129) X k_fl_X12_229 s_92 rfl rfl rfl dX12_dayStep_129 ?_
  obtain ⟨σ12, e_σ12, h⟩ := bnd_e h
  refine g_nmS e_σ12 ?_
  refine g_aload_n (pc := 132) X 0 rfl dX12_dayStep_132 ?_
  refine g_getR (r := 93) (pc := 133) X k_fl_X12_7 s_92 rfl dX12_dayStep_133 ?_
  refine g_iload_n (pc := 136) X 3 rfl dX12_dayStep_136 ?_
  refine g_iload_n (pc := 137) X 1 rfl dX12_dayStep_137 ?_
  obtain ⟨c13, h⟩ := chk_e h
  refine g_iast (pc := 138) X s_93 c13 dX12_dayStep_138 ?_
  obtain ⟨σ14, e_σ14, h⟩ := bnd_e h
  refine g_nmS e_σ14 ?_
  refine g_iconst (v := 1) (pc := 139) X rfl dX12_dayStep_139 ?_
  refine g_istore (pc := 140) X [(5, .int 1), (0, .ref (V.2.2.1 + 92)), (1, .int l1), (2, .int l2), (3, .int l3), (4, .int l4)] (Nat.le_of_ble_eq_true rfl) rfl dX12_dayStep_140 ?_
  refine g_sub [1, 2, 3, 4, 5, 0] rfl ?_
  obtain ⟨σ19, hi20, h⟩ := bd_e h
  refine tl_Mo_dayStep_L142 X  hi20 ?_
  refine g_aload_n (pc := 165) X 0 rfl dX12_dayStep_165 ?_
  refine g_getR (r := 93) (pc := 166) X k_fl_X12_7 s_92 rfl dX12_dayStep_166 ?_
  refine g_sipush (v := 1618) (pc := 169) X (by decide) dX12_dayStep_169 ?_
  refine g_dup2 (pc := 172) X rfl rfl dX12_dayStep_172 ?_
  obtain ⟨c21, h⟩ := chk_e h
  refine g_iald (pc := 173) X s_93 c21 dX12_dayStep_173 ?_
  refine g_iconst (v := 1) (pc := 174) X rfl dX12_dayStep_174 ?_
  refine g_iadd (pc := 175) X dX12_dayStep_175 ?_
  obtain ⟨c22, h⟩ := chk_e h
  refine g_iast (pc := 176) X s_93 c22 dX12_dayStep_176 ?_
  obtain ⟨σ23, e_σ23, h⟩ := bnd_e h
  refine g_nmS e_σ23 ?_
  refine g_aload_n (pc := 177) X 0 rfl dX12_dayStep_177 ?_
  obtain ⟨σ25, hc24, h⟩ := bd_e h
  refine g_callV (pc := 178) X k_ml_X12_161 (run_Mo_ahead  hc24) s_92 rfl (room_ok (Nat.le_of_ble_eq_true rfl) (Nat.le_of_ble_eq_true rfl)) ⟨Nat.le_refl _, Nat.le_refl _⟩ _ rfl (Nat.le_of_ble_eq_true rfl) dX12_dayStep_178 ?_
  show Go V Γ M_X12_dayStep (Zm V Γ 10 fin) 181 [(0, .ref (V.2.2.1 + 92)), (1, .int l1), (2, .int l2), (3, .int l3), (4, .int l4)] [] σ25
  refine g_aload_n (pc := 181) X 0 rfl dX12_dayStep_181 ?_
  refine g_iload_n (pc := 182) X 1 rfl dX12_dayStep_182 ?_
  refine g_iload_n (pc := 183) X 3 rfl dX12_dayStep_183 ?_
  obtain ⟨r27, σ28, hc26, h⟩ := bd2_e h
  refine g_callV (pc := 184) X k_ml_X12_232 (run_Mo_dayOrder  hc26) s_92 rfl (room_ok (Nat.le_of_ble_eq_true rfl) (Nat.le_of_ble_eq_true rfl)) ⟨Nat.le_refl _, Nat.le_refl _⟩ _ rfl (Nat.le_of_ble_eq_true rfl) dX12_dayStep_184 ?_
  show Go V Γ M_X12_dayStep (Zm V Γ 10 fin) 187 [(0, .ref (V.2.2.1 + 92)), (1, .int l1), (2, .int l2), (3, .int l3), (4, .int l4)] [.int r27] σ28
  refine g_if_ne (pc := 187) (tgt := 192) X dX12_dayStep_187 rfl (fun c49 => ?_) (fun c49 => ?_)
  · replace h := if_f c49 h
    refine g_iload (pc := 192) X 4 rfl dX12_dayStep_192 ?_
    refine g_if_eq (pc := 194) (tgt := 217) X dX12_dayStep_194 rfl (fun c48 => ?_) (fun c48 => ?_)
    · replace h := if_t c48 h
      refine g_sub [0, 1, 2, 3] rfl ?_
      exact tj_Mo_dayStep_J217 X  hr h hA
    · replace h := if_f c48 h
      refine g_aload_n (pc := 197) X 0 rfl dX12_dayStep_197 ?_
      refine g_getR (r := 100) (pc := 198) X k_fl_X12_44 s_92 rfl dX12_dayStep_198 ?_
      refine g_aload_n (pc := 201) X 0 rfl dX12_dayStep_201 ?_
      refine g_getI (pc := 202) X k_fl_X12_226 s_92 rfl dX12_dayStep_202 ?_
      refine g_iload_n (pc := 205) X 2 rfl dX12_dayStep_205 ?_
      obtain ⟨c45, h⟩ := chk_e h
      refine g_iast (pc := 206) X s_100 c45 dX12_dayStep_206 ?_
      obtain ⟨σ46, e_σ46, h⟩ := bnd_e h
      refine g_nmS e_σ46 ?_
      refine g_aload_n (pc := 207) X 0 rfl dX12_dayStep_207 ?_
      refine g_dup (pc := 208) X rfl dX12_dayStep_208 ?_
      refine g_getI (pc := 209) X k_fl_X12_226 s_92 rfl dX12_dayStep_209 ?_
      refine g_iconst (v := 1) (pc := 212) X rfl dX12_dayStep_212 ?_
      refine g_iadd (pc := 213) X dX12_dayStep_213 ?_
      refine g_putI (pc := 214) X k_fl_X12_226 s_92 rfl rfl rfl dX12_dayStep_214 ?_
      obtain ⟨σ47, e_σ47, h⟩ := bnd_e h
      refine g_nmS e_σ47 ?_
      refine g_sub [0, 1, 2, 3] rfl ?_
      exact tj_Mo_dayStep_J217 X  hr h hA
  · replace h := if_t c49 h
    refine g_iconst (v := 0) (pc := 190) X rfl dX12_dayStep_190 ?_
    cases h
    exact g_iret (pc := 191) X rfl nz0.1 (hr _ _ hA) dX12_dayStep_191
noncomputable def Mo_dayStep_J112 (σ : St) (l1 : Int32) (l2 : Int32) (l3 : Int32) (l4 : Int32) : Option ((Int32 × St)) :=
  if l1 = 14 then (Mo_dayStep_J128 σ l1 l2 l3 l4 0 (σ.1 92 22)) else (Mo_dayStep_J128 σ l1 l2 l3 l4 1 (σ.1 92 22))
set_option maxRecDepth 100000 in
set_option maxHeartbeats 4000000 in
theorem tj_Mo_dayStep_J112 {V : Ev} {Γ : Cn} {fin : Option Value × St} {σ : St} {l1 : Int32} {l2 : Int32} {l3 : Int32} {l4 : Int32} {o : (Int32 × St)} (X : Cx V Γ M_X12_dayStep) {A : (Int32 × St) → Prop}  (hr : ∀ (r : Int32) (σ9 : St), A (r, σ9) → (some (.int r), σ9) = fin) (h : Mo_dayStep_J112 σ l1 l2 l3 l4 = some o) (hA : A o) : Go V Γ M_X12_dayStep (Zm V Γ 10 fin) 112 [(0, .ref (V.2.2.1 + 92)), (1, .int l1), (2, .int l2), (3, .int l3), (4, .int l4)] [] σ := by
  unfold Mo_dayStep_J112 at h
  refine g_aload_n (pc := 112) X 0 rfl dX12_dayStep_112 ?_
  refine g_dup (pc := 113) X rfl dX12_dayStep_113 ?_
  refine g_getI (pc := 114) X k_fl_X12_229 s_92 rfl dX12_dayStep_114 ?_
  refine g_iload_n (pc := 117) X 1 rfl dX12_dayStep_117 ?_
  refine g_bipush (v := 14) (pc := 118) X (by decide) dX12_dayStep_118 ?_
  refine g_icmp_ne (pc := 120) (tgt := 127) X dX12_dayStep_120 rfl (fun c50 => ?_) (fun c50 => ?_)
  · replace h := if_f c50 h
    refine g_iconst (v := 1) (pc := 127) X rfl dX12_dayStep_127 ?_
    refine g_sub [0, 1, 2, 3, 4] rfl ?_
    exact tj_Mo_dayStep_J128 X  hr h hA
  · replace h := if_t c50 h
    refine g_iconst (v := 0) (pc := 123) X rfl dX12_dayStep_123 ?_
    refine g_goto (pc := 124) (tgt := 128) X dX12_dayStep_124 rfl ?_
    refine g_sub [0, 1, 2, 3, 4] rfl ?_
    exact tj_Mo_dayStep_J128 X  hr h hA
noncomputable def Mo_dayStep_J92 (σ : St) (l1 : Int32) (l2 : Int32) (l3 : Int32) (l4 : Int32) : Option ((Int32 × St)) :=
  if l4 = 0 then (Mo_dayStep_J112 σ l1 l2 l3 l4) else (if (σ.1 92 21) = 3 then (bd2 (Mo_fails σ 7) (fun r52 σ53 => chk (ckz r52) (some (r52, σ53)))) else (Mo_dayStep_J112 σ l1 l2 l3 l4))
set_option maxRecDepth 100000 in
set_option maxHeartbeats 4000000 in
theorem tj_Mo_dayStep_J92 {V : Ev} {Γ : Cn} {fin : Option Value × St} {σ : St} {l1 : Int32} {l2 : Int32} {l3 : Int32} {l4 : Int32} {o : (Int32 × St)} (X : Cx V Γ M_X12_dayStep) {A : (Int32 × St) → Prop}  (hr : ∀ (r : Int32) (σ9 : St), A (r, σ9) → (some (.int r), σ9) = fin) (h : Mo_dayStep_J92 σ l1 l2 l3 l4 = some o) (hA : A o) : Go V Γ M_X12_dayStep (Zm V Γ 10 fin) 92 [(0, .ref (V.2.2.1 + 92)), (1, .int l1), (2, .int l2), (3, .int l3), (4, .int l4)] [] σ := by
  unfold Mo_dayStep_J92 at h
  refine g_iload (pc := 92) X 4 rfl dX12_dayStep_92 ?_
  refine g_if_eq (pc := 94) (tgt := 112) X dX12_dayStep_94 rfl (fun c56 => ?_) (fun c56 => ?_)
  · replace h := if_t c56 h
    refine g_sub [0, 1, 2, 3, 4] rfl ?_
    exact tj_Mo_dayStep_J112 X  hr h hA
  · replace h := if_f c56 h
    refine g_aload_n (pc := 97) X 0 rfl dX12_dayStep_97 ?_
    refine g_getI (pc := 98) X k_fl_X12_226 s_92 rfl dX12_dayStep_98 ?_
    refine g_iconst (v := 3) (pc := 101) X rfl dX12_dayStep_101 ?_
    refine g_icmp_ne (pc := 102) (tgt := 112) X dX12_dayStep_102 rfl (fun c55 => ?_) (fun c55 => ?_)
    · replace h := if_f c55 h
      refine g_sub [0, 1, 2, 3, 4] rfl ?_
      exact tj_Mo_dayStep_J112 X  hr h hA
    · replace h := if_t c55 h
      refine g_aload_n (pc := 105) X 0 rfl dX12_dayStep_105 ?_
      refine g_bipush (v := 7) (pc := 106) X (by decide) dX12_dayStep_106 ?_
      obtain ⟨r52, σ53, hc51, h⟩ := bd2_e h
      refine g_callV (pc := 108) X k_ml_X12_167 (run_Mo_fails  hc51) s_92 rfl (room_ok (Nat.le_of_ble_eq_true rfl) (Nat.le_of_ble_eq_true rfl)) ⟨Nat.le_refl _, Nat.le_refl _⟩ _ rfl (Nat.le_of_ble_eq_true rfl) dX12_dayStep_108 ?_
      show Go V Γ M_X12_dayStep (Zm V Γ 10 fin) 111 [(0, .ref (V.2.2.1 + 92)), (1, .int l1), (2, .int l2), (3, .int l3), (4, .int l4)] [.int r52] σ53
      obtain ⟨c54, h⟩ := chk_e h
      cases h
      exact g_iret (pc := 111) X rfl (ckz_e c54).1 (hr _ _ hA) dX12_dayStep_111
noncomputable def Mo_dayStep_J70 (σ : St) (l1 : Int32) (l2 : Int32) (l3 : Int32) (l4 : Int32) : Option ((Int32 × St)) :=
  if l1 = 14 then (Mo_dayStep_J92 σ l1 l2 l3 l4) else (if (σ.1 92 22) = 30 then (bd2 (Mo_fails σ 6) (fun r58 σ59 => chk (ckz r58) (some (r58, σ59)))) else (Mo_dayStep_J92 σ l1 l2 l3 l4))
set_option maxRecDepth 100000 in
set_option maxHeartbeats 4000000 in
theorem tj_Mo_dayStep_J70 {V : Ev} {Γ : Cn} {fin : Option Value × St} {σ : St} {l1 : Int32} {l2 : Int32} {l3 : Int32} {l4 : Int32} {o : (Int32 × St)} (X : Cx V Γ M_X12_dayStep) {A : (Int32 × St) → Prop}  (hr : ∀ (r : Int32) (σ9 : St), A (r, σ9) → (some (.int r), σ9) = fin) (h : Mo_dayStep_J70 σ l1 l2 l3 l4 = some o) (hA : A o) : Go V Γ M_X12_dayStep (Zm V Γ 10 fin) 70 [(0, .ref (V.2.2.1 + 92)), (1, .int l1), (2, .int l2), (3, .int l3), (4, .int l4)] [] σ := by
  unfold Mo_dayStep_J70 at h
  refine g_iload_n (pc := 70) X 1 rfl dX12_dayStep_70 ?_
  refine g_bipush (v := 14) (pc := 71) X (by decide) dX12_dayStep_71 ?_
  refine g_icmp_eq (pc := 73) (tgt := 92) X dX12_dayStep_73 rfl (fun c62 => ?_) (fun c62 => ?_)
  · replace h := if_t c62 h
    refine g_sub [0, 1, 2, 3, 4] rfl ?_
    exact tj_Mo_dayStep_J92 X  hr h hA
  · replace h := if_f c62 h
    refine g_aload_n (pc := 76) X 0 rfl dX12_dayStep_76 ?_
    refine g_getI (pc := 77) X k_fl_X12_229 s_92 rfl dX12_dayStep_77 ?_
    refine g_bipush (v := 30) (pc := 80) X (by decide) dX12_dayStep_80 ?_
    refine g_icmp_ne (pc := 82) (tgt := 92) X dX12_dayStep_82 rfl (fun c61 => ?_) (fun c61 => ?_)
    · replace h := if_f c61 h
      refine g_sub [0, 1, 2, 3, 4] rfl ?_
      exact tj_Mo_dayStep_J92 X  hr h hA
    · replace h := if_t c61 h
      refine g_aload_n (pc := 85) X 0 rfl dX12_dayStep_85 ?_
      refine g_bipush (v := 6) (pc := 86) X (by decide) dX12_dayStep_86 ?_
      obtain ⟨r58, σ59, hc57, h⟩ := bd2_e h
      refine g_callV (pc := 88) X k_ml_X12_167 (run_Mo_fails  hc57) s_92 rfl (room_ok (Nat.le_of_ble_eq_true rfl) (Nat.le_of_ble_eq_true rfl)) ⟨Nat.le_refl _, Nat.le_refl _⟩ _ rfl (Nat.le_of_ble_eq_true rfl) dX12_dayStep_88 ?_
      show Go V Γ M_X12_dayStep (Zm V Γ 10 fin) 91 [(0, .ref (V.2.2.1 + 92)), (1, .int l1), (2, .int l2), (3, .int l3), (4, .int l4)] [.int r58] σ59
      obtain ⟨c60, h⟩ := chk_e h
      cases h
      exact g_iret (pc := 91) X rfl (ckz_e c60).1 (hr _ _ hA) dX12_dayStep_91
noncomputable def Mo_dayStep_J42 (σ : St) (l1 : Int32) (l2 : Int32) (l3 : Int32) (s0 : Int32) : Option ((Int32 × St)) :=
  bd (Mo_isOrder l1) (fun r7 => if r7 = 0 then (bd2 (Mo_fails σ 2) (fun r9 σ10 => chk (ckz r9) (some (r9, σ10)))) else (if l1 = 14 then (if (σ.1 92 21) = 0 then (bd2 (Mo_fails σ 2) (fun r64 σ65 => chk (ckz r64) (some (r64, σ65)))) else (Mo_dayStep_J70 σ l1 l2 l3 s0)) else (Mo_dayStep_J70 σ l1 l2 l3 s0)))
set_option maxRecDepth 100000 in
set_option maxHeartbeats 4000000 in
theorem tj_Mo_dayStep_J42 {V : Ev} {Γ : Cn} {fin : Option Value × St} {σ : St} {l1 : Int32} {l2 : Int32} {l3 : Int32} {s0 : Int32} {o : (Int32 × St)} (X : Cx V Γ M_X12_dayStep) {A : (Int32 × St) → Prop}  (hr : ∀ (r : Int32) (σ9 : St), A (r, σ9) → (some (.int r), σ9) = fin) (h : Mo_dayStep_J42 σ l1 l2 l3 s0 = some o) (hA : A o) : Go V Γ M_X12_dayStep (Zm V Γ 10 fin) 42 [(0, .ref (V.2.2.1 + 92)), (1, .int l1), (2, .int l2), (3, .int l3)] [.int s0] σ := by
  unfold Mo_dayStep_J42 at h
  refine g_istore (pc := 42) X [(4, .int s0), (0, .ref (V.2.2.1 + 92)), (1, .int l1), (2, .int l2), (3, .int l3)] (Nat.le_of_ble_eq_true rfl) rfl dX12_dayStep_42 ?_
  refine g_iload_n (pc := 44) X 2 rfl dX12_dayStep_44 ?_
  obtain ⟨r7, hc6, h⟩ := bd_e h
  refine g_callS (pc := 45) X k_ml_X12_223 (run_Mo_isOrder  hc6) rfl (room_ok (Nat.le_of_ble_eq_true rfl) (Nat.le_of_ble_eq_true rfl)) ⟨Nat.le_refl _, Nat.le_refl _⟩ _ rfl (Nat.le_of_ble_eq_true rfl) dX12_dayStep_45 ?_
  show Go V Γ M_X12_dayStep (Zm V Γ 10 fin) 48 [(4, .int s0), (0, .ref (V.2.2.1 + 92)), (1, .int l1), (2, .int l2), (3, .int l3)] [.int r7] σ
  refine g_if_eq (pc := 48) (tgt := 64) X dX12_dayStep_48 rfl (fun c69 => ?_) (fun c69 => ?_)
  · replace h := if_t c69 h
    refine g_aload_n (pc := 64) X 1 rfl dX12_dayStep_64 ?_
    refine g_iconst (v := 2) (pc := 65) X rfl dX12_dayStep_65 ?_
    obtain ⟨r9, σ10, hc8, h⟩ := bd2_e h
    refine g_callV (pc := 66) X k_ml_X12_167 (run_Mo_fails  hc8) s_92 rfl (room_ok (Nat.le_of_ble_eq_true rfl) (Nat.le_of_ble_eq_true rfl)) ⟨Nat.le_refl _, Nat.le_refl _⟩ _ rfl (Nat.le_of_ble_eq_true rfl) dX12_dayStep_66 ?_
    show Go V Γ M_X12_dayStep (Zm V Γ 10 fin) 69 [(4, .int s0), (0, .ref (V.2.2.1 + 92)), (1, .int l1), (2, .int l2), (3, .int l3)] [.int r9] σ10
    obtain ⟨c11, h⟩ := chk_e h
    cases h
    exact g_iret (pc := 69) X rfl (ckz_e c11).1 (hr _ _ hA) dX12_dayStep_69
  · replace h := if_f c69 h
    refine g_iload_n (pc := 51) X 2 rfl dX12_dayStep_51 ?_
    refine g_bipush (v := 14) (pc := 52) X (by decide) dX12_dayStep_52 ?_
    refine g_icmp_ne (pc := 54) (tgt := 70) X dX12_dayStep_54 rfl (fun c68 => ?_) (fun c68 => ?_)
    · replace h := if_f c68 h
      refine g_sub [1, 2, 3, 4, 0] rfl ?_
      exact tj_Mo_dayStep_J70 X  hr h hA
    · replace h := if_t c68 h
      refine g_aload_n (pc := 57) X 1 rfl dX12_dayStep_57 ?_
      refine g_getI (pc := 58) X k_fl_X12_226 s_92 rfl dX12_dayStep_58 ?_
      refine g_if_ne (pc := 61) (tgt := 70) X dX12_dayStep_61 rfl (fun c67 => ?_) (fun c67 => ?_)
      · replace h := if_f c67 h
        refine g_sub [1, 2, 3, 4, 0] rfl ?_
        exact tj_Mo_dayStep_J70 X  hr h hA
      · replace h := if_t c67 h
        refine g_aload_n (pc := 64) X 1 rfl dX12_dayStep_64 ?_
        refine g_iconst (v := 2) (pc := 65) X rfl dX12_dayStep_65 ?_
        obtain ⟨r64, σ65, hc63, h⟩ := bd2_e h
        refine g_callV (pc := 66) X k_ml_X12_167 (run_Mo_fails  hc63) s_92 rfl (room_ok (Nat.le_of_ble_eq_true rfl) (Nat.le_of_ble_eq_true rfl)) ⟨Nat.le_refl _, Nat.le_refl _⟩ _ rfl (Nat.le_of_ble_eq_true rfl) dX12_dayStep_66 ?_
        show Go V Γ M_X12_dayStep (Zm V Γ 10 fin) 69 [(4, .int s0), (0, .ref (V.2.2.1 + 92)), (1, .int l1), (2, .int l2), (3, .int l3)] [.int r64] σ65
        obtain ⟨c66, h⟩ := chk_e h
        cases h
        exact g_iret (pc := 69) X rfl (ckz_e c66).1 (hr _ _ hA) dX12_dayStep_69
noncomputable def Mo_dayStep (σ : St) : Option (Int32 × St) :=
  bd (Mo_inWords σ) (fun r2 => chk (ix 1618 2060) (bnd ((σ.1 93 (tn 1618))) (fun v4 => bnd ((1656 + (6 * v4))) (fun v5 => if r2 = 9 then (Mo_dayStep_J42 σ r2 v4 v5 1) else (if r2 = 13 then (Mo_dayStep_J42 σ r2 v4 v5 1) else (Mo_dayStep_J42 σ r2 v4 v5 0))))))
set_option maxRecDepth 100000 in
set_option maxHeartbeats 4000000 in
theorem tm_Mo_dayStep {V : Ev} {Γ : Cn} {fin : Option Value × St} {σ : St} {o : (Int32 × St)} (X : Cx V Γ M_X12_dayStep) {A : (Int32 × St) → Prop}  (hr : ∀ (r : Int32) (σ9 : St), A (r, σ9) → (some (.int r), σ9) = fin) (h : Mo_dayStep σ = some o) (hA : A o) : Go V Γ M_X12_dayStep (Zm V Γ 10 fin) 0 [(0, .ref (V.2.2.1 + 92))] [] σ := by
  unfold Mo_dayStep at h
  refine g_aload_n (pc := 0) X 0 rfl dX12_dayStep_0 ?_
  refine g_ldcS1 (pc := 1) X rfl dX12_dayStep_1 ?_
  obtain ⟨r2, hc1, h⟩ := bd_e h
  refine g_callV (pc := 3) X k_ml_X12_172 (run_Mo_inWords  hc1) s_92 rfl (room_ok (Nat.le_of_ble_eq_true rfl) (Nat.le_of_ble_eq_true rfl)) ⟨Nat.le_refl _, Nat.le_refl _⟩ _ rfl (Nat.le_of_ble_eq_true rfl) dX12_dayStep_3 ?_
  show Go V Γ M_X12_dayStep (Zm V Γ 10 fin) 6 [(0, .ref (V.2.2.1 + 92))] [.int r2] σ
  refine g_istore_n (pc := 6) X [(1, .int r2), (0, .ref (V.2.2.1 + 92))] rfl (Nat.le_of_ble_eq_true rfl) rfl dX12_dayStep_6 ?_
  refine g_aload_n (pc := 7) X 1 rfl dX12_dayStep_7 ?_
  refine g_getR (r := 93) (pc := 8) X k_fl_X12_7 s_92 rfl dX12_dayStep_8 ?_
  refine g_sipush (v := 1618) (pc := 11) X (by decide) dX12_dayStep_11 ?_
  obtain ⟨c3, h⟩ := chk_e h
  refine g_iald (pc := 14) X s_93 c3 dX12_dayStep_14 ?_
  obtain ⟨v4, e_v4, h⟩ := bnd_e h
  refine g_nmI e_v4 ?_
  refine g_istore_n (pc := 15) X [(2, .int v4), (1, .int r2), (0, .ref (V.2.2.1 + 92))] rfl (Nat.le_of_ble_eq_true rfl) rfl dX12_dayStep_15 ?_
  refine g_sipush (v := 1656) (pc := 16) X (by decide) dX12_dayStep_16 ?_
  refine g_bipush (v := 6) (pc := 19) X (by decide) dX12_dayStep_19 ?_
  refine g_iload_n (pc := 21) X 0 rfl dX12_dayStep_21 ?_
  refine g_imul (pc := 22) X dX12_dayStep_22 ?_
  refine g_iadd (pc := 23) X dX12_dayStep_23 ?_
  obtain ⟨v5, e_v5, h⟩ := bnd_e h
  refine g_nmI e_v5 ?_
  refine g_istore_n (pc := 24) X [(3, .int v5), (2, .int v4), (1, .int r2), (0, .ref (V.2.2.1 + 92))] rfl (Nat.le_of_ble_eq_true rfl) rfl dX12_dayStep_24 ?_
  refine g_iload_n (pc := 25) X 2 rfl dX12_dayStep_25 ?_
  refine g_bipush (v := 9) (pc := 26) X (by decide) dX12_dayStep_26 ?_
  refine g_icmp_eq (pc := 28) (tgt := 37) X dX12_dayStep_28 rfl (fun c71 => ?_) (fun c71 => ?_)
  · replace h := if_t c71 h
    refine g_iconst (v := 1) (pc := 37) X rfl dX12_dayStep_37 ?_
    refine g_goto (pc := 38) (tgt := 42) X dX12_dayStep_38 rfl ?_
    refine g_sub [3, 2, 1, 0] rfl ?_
    exact tj_Mo_dayStep_J42 X  hr h hA
  · replace h := if_f c71 h
    refine g_iload_n (pc := 31) X 2 rfl dX12_dayStep_31 ?_
    refine g_bipush (v := 13) (pc := 32) X (by decide) dX12_dayStep_32 ?_
    refine g_icmp_ne (pc := 34) (tgt := 41) X dX12_dayStep_34 rfl (fun c70 => ?_) (fun c70 => ?_)
    · replace h := if_f c70 h
      refine g_iconst (v := 0) (pc := 41) X rfl dX12_dayStep_41 ?_
      refine g_sub [3, 2, 1, 0] rfl ?_
      exact tj_Mo_dayStep_J42 X  hr h hA
    · replace h := if_t c70 h
      refine g_iconst (v := 1) (pc := 37) X rfl dX12_dayStep_37 ?_
      refine g_goto (pc := 38) (tgt := 42) X dX12_dayStep_38 rfl ?_
      refine g_sub [3, 2, 1, 0] rfl ?_
      exact tj_Mo_dayStep_J42 X  hr h hA
set_option maxRecDepth 100000 in
theorem run_Mo_dayStep {V : Ev} {σ : St} {o : (Int32 × St)}   (h : Mo_dayStep σ = some o) : Rs V 10 M_X12_dayStep [.ref (V.2.2.1 + 92)] σ (some (.int o.1), o.2) := by
  refine Rs.of (by decide +kernel) (Nat.le_of_ble_eq_true rfl) (fun Γ X => ?_)
  exact tm_Mo_dayStep X (A := fun o1 => o1 = o)  (fun _ _ e => by rw [← e]) h rfl
theorem dX12_days_0 : decode cX12_days 0 = .ok (.aload_n 0, 1) := by decide +kernel
theorem dX12_days_1 : decode cX12_days 1 = .ok (.iload_n 1, 1) := by decide +kernel
theorem dX12_days_2 : decode cX12_days 2 = .ok (.sipush 300, 3) := by decide +kernel
theorem dX12_days_5 : decode cX12_days 5 = .ok (.invokevirtual 207, 3) := by decide +kernel
theorem dX12_days_8 : decode cX12_days 8 = .ok (.ifCond .ne 9, 3) := by decide +kernel
theorem dX12_days_11 : decode cX12_days 11 = .ok (.aload_n 0, 1) := by decide +kernel
theorem dX12_days_12 : decode cX12_days 12 = .ok (.iconst 1, 1) := by decide +kernel
theorem dX12_days_13 : decode cX12_days 13 = .ok (.invokevirtual 88, 3) := by decide +kernel
theorem dX12_days_16 : decode cX12_days 16 = .ok (.ireturn, 1) := by decide +kernel
theorem dX12_days_17 : decode cX12_days 17 = .ok (.aload_n 0, 1) := by decide +kernel
theorem dX12_days_18 : decode cX12_days 18 = .ok (.getfield 7, 3) := by decide +kernel
theorem dX12_days_21 : decode cX12_days 21 = .ok (.sipush 1618, 3) := by decide +kernel
theorem dX12_days_24 : decode cX12_days 24 = .ok (.iconst 0, 1) := by decide +kernel
theorem dX12_days_25 : decode cX12_days 25 = .ok (.iastore, 1) := by decide +kernel
theorem dX12_days_26 : decode cX12_days 26 = .ok (.aload_n 0, 1) := by decide +kernel
theorem dX12_days_27 : decode cX12_days 27 = .ok (.iconst 0, 1) := by decide +kernel
theorem dX12_days_28 : decode cX12_days 28 = .ok (.putfield 226, 3) := by decide +kernel
theorem dX12_days_31 : decode cX12_days 31 = .ok (.aload_n 0, 1) := by decide +kernel
theorem dX12_days_32 : decode cX12_days 32 = .ok (.iconst 0, 1) := by decide +kernel
theorem dX12_days_33 : decode cX12_days 33 = .ok (.putfield 229, 3) := by decide +kernel
theorem dX12_days_36 : decode cX12_days 36 = .ok (.iconst 1, 1) := by decide +kernel
theorem dX12_days_37 : decode cX12_days 37 = .ok (.istore_n 2, 1) := by decide +kernel
theorem dX12_days_38 : decode cX12_days 38 = .ok (.iload_n 2, 1) := by decide +kernel
theorem dX12_days_39 : decode cX12_days 39 = .ok (.ifCond .eq 18, 3) := by decide +kernel
theorem dX12_days_42 : decode cX12_days 42 = .ok (.aload_n 0, 1) := by decide +kernel
theorem dX12_days_43 : decode cX12_days 43 = .ok (.getfield 133, 3) := by decide +kernel
theorem dX12_days_46 : decode cX12_days 46 = .ok (.ifCond .eq 11, 3) := by decide +kernel
theorem dX12_days_49 : decode cX12_days 49 = .ok (.aload_n 0, 1) := by decide +kernel
theorem dX12_days_50 : decode cX12_days 50 = .ok (.invokevirtual 235, 3) := by decide +kernel
theorem dX12_days_53 : decode cX12_days 53 = .ok (.istore_n 2, 1) := by decide +kernel
theorem dX12_days_54 : decode cX12_days 54 = .ok (.goto (-16), 3) := by decide +kernel
theorem dX12_days_57 : decode cX12_days 57 = .ok (.aload_n 0, 1) := by decide +kernel
theorem dX12_days_58 : decode cX12_days 58 = .ok (.getfield 158, 3) := by decide +kernel
theorem dX12_days_61 : decode cX12_days 61 = .ok (.ifCond .ne 16, 3) := by decide +kernel
theorem dX12_days_64 : decode cX12_days 64 = .ok (.aload_n 0, 1) := by decide +kernel
theorem dX12_days_65 : decode cX12_days 65 = .ok (.getfield 226, 3) := by decide +kernel
theorem dX12_days_68 : decode cX12_days 68 = .ok (.ifCond .le 9, 3) := by decide +kernel
theorem dX12_days_71 : decode cX12_days 71 = .ok (.aload_n 0, 1) := by decide +kernel
theorem dX12_days_72 : decode cX12_days 72 = .ok (.iconst 2, 1) := by decide +kernel
theorem dX12_days_73 : decode cX12_days 73 = .ok (.invokevirtual 167, 3) := by decide +kernel
theorem dX12_days_76 : decode cX12_days 76 = .ok (.pop, 1) := by decide +kernel
theorem dX12_days_77 : decode cX12_days 77 = .ok (.aload_n 0, 1) := by decide +kernel
theorem dX12_days_78 : decode cX12_days 78 = .ok (.getfield 158, 3) := by decide +kernel
theorem dX12_days_81 : decode cX12_days 81 = .ok (.ifCond .ne 49, 3) := by decide +kernel
theorem dX12_days_84 : decode cX12_days 84 = .ok (.aload_n 0, 1) := by decide +kernel
theorem dX12_days_85 : decode cX12_days 85 = .ok (.getfield 7, 3) := by decide +kernel
theorem dX12_days_88 : decode cX12_days 88 = .ok (.iconst 2, 1) := by decide +kernel
theorem dX12_days_89 : decode cX12_days 89 = .ok (.aload_n 0, 1) := by decide +kernel
theorem dX12_days_90 : decode cX12_days 90 = .ok (.getfield 7, 3) := by decide +kernel
theorem dX12_days_93 : decode cX12_days 93 = .ok (.sipush 1618, 3) := by decide +kernel
theorem dX12_days_96 : decode cX12_days 96 = .ok (.iaload, 1) := by decide +kernel
theorem dX12_days_97 : decode cX12_days 97 = .ok (.iastore, 1) := by decide +kernel
theorem dX12_days_98 : decode cX12_days 98 = .ok (.bipush 40, 2) := by decide +kernel
theorem dX12_days_100 : decode cX12_days 100 = .ok (.istore_n 3, 1) := by decide +kernel
theorem dX12_days_101 : decode cX12_days 101 = .ok (.iload_n 3, 1) := by decide +kernel
theorem dX12_days_102 : decode cX12_days 102 = .ok (.sipush 400, 3) := by decide +kernel
theorem dX12_days_105 : decode cX12_days 105 = .ok (.if_icmp .ge 25, 3) := by decide +kernel
theorem dX12_days_108 : decode cX12_days 108 = .ok (.aload_n 0, 1) := by decide +kernel
theorem dX12_days_109 : decode cX12_days 109 = .ok (.getfield 7, 3) := by decide +kernel
theorem dX12_days_112 : decode cX12_days 112 = .ok (.iload_n 3, 1) := by decide +kernel
theorem dX12_days_113 : decode cX12_days 113 = .ok (.aload_n 0, 1) := by decide +kernel
theorem dX12_days_114 : decode cX12_days 114 = .ok (.getfield 7, 3) := by decide +kernel
theorem dX12_days_117 : decode cX12_days 117 = .ok (.sipush 1616, 3) := by decide +kernel
theorem dX12_days_120 : decode cX12_days 120 = .ok (.iload_n 3, 1) := by decide +kernel
theorem dX12_days_121 : decode cX12_days 121 = .ok (.iadd, 1) := by decide +kernel
theorem dX12_days_122 : decode cX12_days 122 = .ok (.iaload, 1) := by decide +kernel
theorem dX12_days_123 : decode cX12_days 123 = .ok (.iastore, 1) := by decide +kernel
theorem dX12_days_124 : decode cX12_days 124 = .ok (.iinc 3 1, 3) := by decide +kernel
theorem dX12_days_127 : decode cX12_days 127 = .ok (.goto (-26), 3) := by decide +kernel
theorem dX12_days_130 : decode cX12_days 130 = .ok (.aload_n 0, 1) := by decide +kernel
theorem dX12_days_131 : decode cX12_days 131 = .ok (.aload_n 0, 1) := by decide +kernel
theorem dX12_days_132 : decode cX12_days 132 = .ok (.getfield 229, 3) := by decide +kernel
theorem dX12_days_135 : decode cX12_days 135 = .ok (.invokevirtual 214, 3) := by decide +kernel
theorem dX12_days_138 : decode cX12_days 138 = .ok (.ireturn, 1) := by decide +kernel
noncomputable def Mo_days_L38 (σ : St) (x2 : Int32) : Option ((Int32 × St) ⊕ St) :=
  if x2 = 0 then (some (.inr σ)) else (if (σ.1 92 12) = 0 then (some (.inr σ)) else (bd2 (Mo_dayStep σ) (fun r9 σ10 => some (.inl (r9, σ10)))))
set_option maxRecDepth 100000 in
set_option maxHeartbeats 4000000 in
theorem tb_Mo_days_L38 {V : Ev} {Γ : Cn} {fin : Option Value × St} {σ : St} {x2 : Int32} {o : ((Int32 × St) ⊕ St)} (X : Cx V Γ M_X12_days) {A : ((Int32 × St) ⊕ St) → Prop}  (hb38 : ∀ (x2 : Int32) (σ9 : St), A (.inl (x2, σ9)) → Go V Γ M_X12_days (Zm V Γ 11 fin) 38 [(0, .ref (V.2.2.1 + 92)), (2, .int x2)] [] σ9) (hx38 : ∀ (σ9 : St), A (.inr σ9) → Go V Γ M_X12_days (Zm V Γ 11 fin) 57 [(0, .ref (V.2.2.1 + 92))] [] σ9) (h : Mo_days_L38 σ x2 = some o) (hA : A o) : Go V Γ M_X12_days (Zm V Γ 11 fin) 38 [(0, .ref (V.2.2.1 + 92)), (2, .int x2)] [] σ := by
  unfold Mo_days_L38 at h
  refine g_iload_n (pc := 38) X 1 rfl dX12_days_38 ?_
  refine g_if_eq (pc := 39) (tgt := 57) X dX12_days_39 rfl (fun c12 => ?_) (fun c12 => ?_)
  · replace h := if_t c12 h
    refine g_sub [0] rfl ?_
    cases h
    exact hx38 _ hA
  · replace h := if_f c12 h
    refine g_aload_n (pc := 42) X 0 rfl dX12_days_42 ?_
    refine g_getI (pc := 43) X k_fl_X12_133 s_92 rfl dX12_days_43 ?_
    refine g_if_eq (pc := 46) (tgt := 57) X dX12_days_46 rfl (fun c11 => ?_) (fun c11 => ?_)
    · replace h := if_t c11 h
      refine g_sub [0] rfl ?_
      cases h
      exact hx38 _ hA
    · replace h := if_f c11 h
      refine g_aload_n (pc := 49) X 0 rfl dX12_days_49 ?_
      obtain ⟨r9, σ10, hc8, h⟩ := bd2_e h
      refine g_callV (pc := 50) X k_ml_X12_235 (run_Mo_dayStep  hc8) s_92 rfl (room_ok (Nat.le_of_ble_eq_true rfl) (Nat.le_of_ble_eq_true rfl)) ⟨Nat.le_refl _, Nat.le_refl _⟩ _ rfl (Nat.le_of_ble_eq_true rfl) dX12_days_50 ?_
      show Go V Γ M_X12_days (Zm V Γ 11 fin) 53 [(0, .ref (V.2.2.1 + 92)), (2, .int x2)] [.int r9] σ10
      refine g_istore_n (pc := 53) X [(2, .int r9), (0, .ref (V.2.2.1 + 92))] rfl (Nat.le_of_ble_eq_true rfl) rfl dX12_days_53 ?_
      refine g_goto (pc := 54) (tgt := 38) X dX12_days_54 rfl ?_
      refine g_sub [1, 0] rfl ?_
      cases h
      exact hb38 _ _ hA
set_option maxRecDepth 100000 in
theorem tl_Mo_days_L38 {V : Ev} {Γ : Cn} {fin : Option Value × St} {x2 : Int32} {σ9 : St} (X : Cx V Γ M_X12_days)  {σ8 : St} {n : Nat} (h : iter (fun s : (Int32 × St) => Mo_days_L38 s.2 s.1) n (x2, σ9) = some σ8) (hK : Go V Γ M_X12_days (Zm V Γ 11 fin) 57 [(0, .ref (V.2.2.1 + 92))] [] σ8) : Go V Γ M_X12_days (Zm V Γ 11 fin) 38 [(0, .ref (V.2.2.1 + 92)), (2, .int x2)] [] σ9 := by
  refine iter_go (G := (fun s : (Int32 × St) => Go V Γ M_X12_days (Zm V Γ 11 fin) 38 [(0, .ref (V.2.2.1 + 92)), (2, .int s.1)] [] s.2)) (fun s o ho hS => ?_) n (x2, σ9) h
  exact tb_Mo_days_L38 X  (fun _ _ h9 => h9) (fun _ he => by cases he; exact hK) ho hS
noncomputable def Mo_days_L101 (σ : St) (x3 : Int32) : Option ((Int32 × St) ⊕ St) :=
  if 400 ≤ x3 then (some (.inr σ)) else (chk (ix (1616 + x3) 2060) (chk (ix x3 2060) (bnd (wI σ 93 (tn x3) (σ.1 93 (tn (1616 + x3)))) (fun σ23 => bnd (x3 + 1) (fun v24 => some (.inl (v24, σ23)))))))
set_option maxRecDepth 100000 in
set_option maxHeartbeats 4000000 in
theorem tb_Mo_days_L101 {V : Ev} {Γ : Cn} {fin : Option Value × St} {σ : St} {x3 : Int32} {o : ((Int32 × St) ⊕ St)} (X : Cx V Γ M_X12_days) {A : ((Int32 × St) ⊕ St) → Prop}  (hb101 : ∀ (x3 : Int32) (σ9 : St), A (.inl (x3, σ9)) → Go V Γ M_X12_days (Zm V Γ 11 fin) 101 [(0, .ref (V.2.2.1 + 92)), (3, .int x3)] [] σ9) (hx101 : ∀ (σ9 : St), A (.inr σ9) → Go V Γ M_X12_days (Zm V Γ 11 fin) 130 [(0, .ref (V.2.2.1 + 92))] [] σ9) (h : Mo_days_L101 σ x3 = some o) (hA : A o) : Go V Γ M_X12_days (Zm V Γ 11 fin) 101 [(0, .ref (V.2.2.1 + 92)), (3, .int x3)] [] σ := by
  unfold Mo_days_L101 at h
  refine g_iload_n (pc := 101) X 1 rfl dX12_days_101 ?_
  refine g_sipush (v := 400) (pc := 102) X (by decide) dX12_days_102 ?_
  refine g_icmp_ge (pc := 105) (tgt := 130) X dX12_days_105 rfl (fun c25 => ?_) (fun c25 => ?_)
  · replace h := if_t c25 h
    refine g_sub [0] rfl ?_
    cases h
    exact hx101 _ hA
  · replace h := if_f c25 h
    refine g_aload_n (pc := 108) X 0 rfl dX12_days_108 ?_
    refine g_getR (r := 93) (pc := 109) X k_fl_X12_7 s_92 rfl dX12_days_109 ?_
    refine g_iload_n (pc := 112) X 1 rfl dX12_days_112 ?_
    refine g_aload_n (pc := 113) X 0 rfl dX12_days_113 ?_
    refine g_getR (r := 93) (pc := 114) X k_fl_X12_7 s_92 rfl dX12_days_114 ?_
    refine g_sipush (v := 1616) (pc := 117) X (by decide) dX12_days_117 ?_
    refine g_iload_n (pc := 120) X 1 rfl dX12_days_120 ?_
    refine g_iadd (pc := 121) X dX12_days_121 ?_
    obtain ⟨c21, h⟩ := chk_e h
    refine g_iald (pc := 122) X s_93 c21 dX12_days_122 ?_
    obtain ⟨c22, h⟩ := chk_e h
    refine g_iast (pc := 123) X s_93 c22 dX12_days_123 ?_
    obtain ⟨σ23, e_σ23, h⟩ := bnd_e h
    refine g_nmS e_σ23 ?_
    obtain ⟨v24, e_v24, h⟩ := bnd_e h
    refine g_iinc (pc := 124) (v := v24) X [(3, .int v24), (0, .ref (V.2.2.1 + 92))] 1 rfl (by rw [e_v24]; rfl) (Nat.le_of_ble_eq_true rfl) rfl dX12_days_124 ?_
    refine g_goto (pc := 127) (tgt := 101) X dX12_days_127 rfl ?_
    refine g_sub [1, 0] rfl ?_
    cases h
    exact hb101 _ _ hA
set_option maxRecDepth 100000 in
theorem tl_Mo_days_L101 {V : Ev} {Γ : Cn} {fin : Option Value × St} {x3 : Int32} {σ9 : St} (X : Cx V Γ M_X12_days)  {σ8 : St} {n : Nat} (h : iter (fun s : (Int32 × St) => Mo_days_L101 s.2 s.1) n (x3, σ9) = some σ8) (hK : Go V Γ M_X12_days (Zm V Γ 11 fin) 130 [(0, .ref (V.2.2.1 + 92))] [] σ8) : Go V Γ M_X12_days (Zm V Γ 11 fin) 101 [(0, .ref (V.2.2.1 + 92)), (3, .int x3)] [] σ9 := by
  refine iter_go (G := (fun s : (Int32 × St) => Go V Γ M_X12_days (Zm V Γ 11 fin) 101 [(0, .ref (V.2.2.1 + 92)), (3, .int s.1)] [] s.2)) (fun s o ho hS => ?_) n (x3, σ9) h
  exact tb_Mo_days_L101 X  (fun _ _ h9 => h9) (fun _ he => by cases he; exact hK) ho hS
noncomputable def Mo_days_J77 (σ : St) : Option ((Int32 × St)) :=
  if (σ.1 92 18) = 0 then (chk (ix 1618 2060) (chk (ix 2 2060) (bnd (wI σ 93 (tn 2) (σ.1 93 (tn 1618))) (fun σ20 => bd (iter (fun s : (Int32 × St) => Mo_days_L101 s.2 s.1) FUEL (40, σ20)) (fun σ26 => bd2 (Mo_taken σ26 (σ26.1 92 22)) (fun r29 σ30 => some (r29, σ30))))))) else (bd2 (Mo_taken σ (σ.1 92 22)) (fun r16 σ17 => some (r16, σ17)))
set_option maxRecDepth 100000 in
set_option maxHeartbeats 4000000 in
theorem tj_Mo_days_J77 {V : Ev} {Γ : Cn} {fin : Option Value × St} {σ : St} {o : (Int32 × St)} (X : Cx V Γ M_X12_days) {A : (Int32 × St) → Prop}  (hr : ∀ (r : Int32) (σ9 : St), A (r, σ9) → (some (.int r), σ9) = fin) (h : Mo_days_J77 σ = some o) (hA : A o) : Go V Γ M_X12_days (Zm V Γ 11 fin) 77 [(0, .ref (V.2.2.1 + 92))] [] σ := by
  unfold Mo_days_J77 at h
  refine g_aload_n (pc := 77) X 0 rfl dX12_days_77 ?_
  refine g_getI (pc := 78) X k_fl_X12_158 s_92 rfl dX12_days_78 ?_
  refine g_if_ne (pc := 81) (tgt := 130) X dX12_days_81 rfl (fun c31 => ?_) (fun c31 => ?_)
  · replace h := if_f c31 h
    refine g_aload_n (pc := 130) X 0 rfl dX12_days_130 ?_
    refine g_aload_n (pc := 131) X 0 rfl dX12_days_131 ?_
    refine g_getI (pc := 132) X k_fl_X12_229 s_92 rfl dX12_days_132 ?_
    obtain ⟨r16, σ17, hc15, h⟩ := bd2_e h
    refine g_callV (pc := 135) X k_ml_X12_214 (run_Mo_taken  hc15) s_92 rfl (room_ok (Nat.le_of_ble_eq_true rfl) (Nat.le_of_ble_eq_true rfl)) ⟨Nat.le_refl _, Nat.le_refl _⟩ _ rfl (Nat.le_of_ble_eq_true rfl) dX12_days_135 ?_
    show Go V Γ M_X12_days (Zm V Γ 11 fin) 138 [(0, .ref (V.2.2.1 + 92))] [.int r16] σ17
    cases h
    exact g_iret (pc := 138) X rfl rfl (hr _ _ hA) dX12_days_138
  · replace h := if_t c31 h
    refine g_aload_n (pc := 84) X 0 rfl dX12_days_84 ?_
    refine g_getR (r := 93) (pc := 85) X k_fl_X12_7 s_92 rfl dX12_days_85 ?_
    refine g_iconst (v := 2) (pc := 88) X rfl dX12_days_88 ?_
    refine g_aload_n (pc := 89) X 0 rfl dX12_days_89 ?_
    refine g_getR (r := 93) (pc := 90) X k_fl_X12_7 s_92 rfl dX12_days_90 ?_
    refine g_sipush (v := 1618) (pc := 93) X (by decide) dX12_days_93 ?_
    obtain ⟨c18, h⟩ := chk_e h
    refine g_iald (pc := 96) X s_93 c18 dX12_days_96 ?_
    obtain ⟨c19, h⟩ := chk_e h
    refine g_iast (pc := 97) X s_93 c19 dX12_days_97 ?_
    obtain ⟨σ20, e_σ20, h⟩ := bnd_e h
    refine g_nmS e_σ20 ?_
    refine g_bipush (v := 40) (pc := 98) X (by decide) dX12_days_98 ?_
    refine g_istore_n (pc := 100) X [(3, .int 40), (0, .ref (V.2.2.1 + 92))] rfl (Nat.le_of_ble_eq_true rfl) rfl dX12_days_100 ?_
    refine g_sub [1, 0] rfl ?_
    obtain ⟨σ26, hi27, h⟩ := bd_e h
    refine tl_Mo_days_L101 X  hi27 ?_
    refine g_aload_n (pc := 130) X 0 rfl dX12_days_130 ?_
    refine g_aload_n (pc := 131) X 0 rfl dX12_days_131 ?_
    refine g_getI (pc := 132) X k_fl_X12_229 s_92 rfl dX12_days_132 ?_
    obtain ⟨r29, σ30, hc28, h⟩ := bd2_e h
    refine g_callV (pc := 135) X k_ml_X12_214 (run_Mo_taken  hc28) s_92 rfl (room_ok (Nat.le_of_ble_eq_true rfl) (Nat.le_of_ble_eq_true rfl)) ⟨Nat.le_refl _, Nat.le_refl _⟩ _ rfl (Nat.le_of_ble_eq_true rfl) dX12_days_135 ?_
    show Go V Γ M_X12_days (Zm V Γ 11 fin) 138 [(0, .ref (V.2.2.1 + 92))] [.int r29] σ30
    cases h
    exact g_iret (pc := 138) X rfl rfl (hr _ _ hA) dX12_days_138
noncomputable def Mo_days_J57 (σ : St) : Option ((Int32 × St)) :=
  if (σ.1 92 18) = 0 then (if (σ.1 92 21) ≤ 0 then (Mo_days_J77 σ) else (bd2 (Mo_fails σ 2) (fun r33 σ34 => Mo_days_J77 σ34))) else (Mo_days_J77 σ)
set_option maxRecDepth 100000 in
set_option maxHeartbeats 4000000 in
theorem tj_Mo_days_J57 {V : Ev} {Γ : Cn} {fin : Option Value × St} {σ : St} {o : (Int32 × St)} (X : Cx V Γ M_X12_days) {A : (Int32 × St) → Prop}  (hr : ∀ (r : Int32) (σ9 : St), A (r, σ9) → (some (.int r), σ9) = fin) (h : Mo_days_J57 σ = some o) (hA : A o) : Go V Γ M_X12_days (Zm V Γ 11 fin) 57 [(0, .ref (V.2.2.1 + 92))] [] σ := by
  unfold Mo_days_J57 at h
  refine g_aload_n (pc := 57) X 0 rfl dX12_days_57 ?_
  refine g_getI (pc := 58) X k_fl_X12_158 s_92 rfl dX12_days_58 ?_
  refine g_if_ne (pc := 61) (tgt := 77) X dX12_days_61 rfl (fun c36 => ?_) (fun c36 => ?_)
  · replace h := if_f c36 h
    refine g_sub [0] rfl ?_
    exact tj_Mo_days_J77 X  hr h hA
  · replace h := if_t c36 h
    refine g_aload_n (pc := 64) X 0 rfl dX12_days_64 ?_
    refine g_getI (pc := 65) X k_fl_X12_226 s_92 rfl dX12_days_65 ?_
    refine g_if_le (pc := 68) (tgt := 77) X dX12_days_68 rfl (fun c35 => ?_) (fun c35 => ?_)
    · replace h := if_t c35 h
      refine g_sub [0] rfl ?_
      exact tj_Mo_days_J77 X  hr h hA
    · replace h := if_f c35 h
      refine g_aload_n (pc := 71) X 0 rfl dX12_days_71 ?_
      refine g_iconst (v := 2) (pc := 72) X rfl dX12_days_72 ?_
      obtain ⟨r33, σ34, hc32, h⟩ := bd2_e h
      refine g_callV (pc := 73) X k_ml_X12_167 (run_Mo_fails  hc32) s_92 rfl (room_ok (Nat.le_of_ble_eq_true rfl) (Nat.le_of_ble_eq_true rfl)) ⟨Nat.le_refl _, Nat.le_refl _⟩ _ rfl (Nat.le_of_ble_eq_true rfl) dX12_days_73 ?_
      show Go V Γ M_X12_days (Zm V Γ 11 fin) 76 [(0, .ref (V.2.2.1 + 92))] [.int r33] σ34
      refine g_pop (pc := 76) X rfl dX12_days_76 ?_
      refine g_sub [0] rfl ?_
      exact tj_Mo_days_J77 X  hr h hA
noncomputable def Mo_days (σ : St) (p1 : Int32) : Option (Int32 × St) :=
  bd2 (Mo_begins σ p1 300) (fun r2 σ3 => if r2 = 0 then (bd2 (Mo_refuse σ3 1) (fun r38 σ39 => some (r38, σ39))) else (chk (ix 1618 2060) (bnd (wI σ3 93 (tn 1618) 0) (fun σ5 => bnd (wI σ5 92 21 0) (fun σ6 => bnd (wI σ6 92 22 0) (fun σ7 => bd (iter (fun s : (Int32 × St) => Mo_days_L38 s.2 s.1) FUEL (1, σ7)) (fun σ13 => Mo_days_J57 σ13)))))))
set_option maxRecDepth 100000 in
set_option maxHeartbeats 4000000 in
theorem tm_Mo_days {V : Ev} {Γ : Cn} {fin : Option Value × St} {σ : St} {p1 : Int32} {o : (Int32 × St)} (X : Cx V Γ M_X12_days) {A : (Int32 × St) → Prop}  (hr : ∀ (r : Int32) (σ9 : St), A (r, σ9) → (some (.int r), σ9) = fin) (h : Mo_days σ p1 = some o) (hA : A o) : Go V Γ M_X12_days (Zm V Γ 11 fin) 0 [(0, .ref (V.2.2.1 + 92)), (1, .int p1)] [] σ := by
  unfold Mo_days at h
  refine g_aload_n (pc := 0) X 0 rfl dX12_days_0 ?_
  refine g_iload_n (pc := 1) X 1 rfl dX12_days_1 ?_
  refine g_sipush (v := 300) (pc := 2) X (by decide) dX12_days_2 ?_
  obtain ⟨r2, σ3, hc1, h⟩ := bd2_e h
  refine g_callV (pc := 5) X k_ml_X12_207 (run_Mo_begins  hc1) s_92 rfl (room_ok (Nat.le_of_ble_eq_true rfl) (Nat.le_of_ble_eq_true rfl)) ⟨Nat.le_refl _, Nat.le_refl _⟩ _ rfl (Nat.le_of_ble_eq_true rfl) dX12_days_5 ?_
  show Go V Γ M_X12_days (Zm V Γ 11 fin) 8 [(0, .ref (V.2.2.1 + 92)), (1, .int p1)] [.int r2] σ3
  refine g_if_ne (pc := 8) (tgt := 17) X dX12_days_8 rfl (fun c40 => ?_) (fun c40 => ?_)
  · replace h := if_f c40 h
    refine g_aload_n (pc := 17) X 0 rfl dX12_days_17 ?_
    refine g_getR (r := 93) (pc := 18) X k_fl_X12_7 s_92 rfl dX12_days_18 ?_
    refine g_sipush (v := 1618) (pc := 21) X (by decide) dX12_days_21 ?_
    refine g_iconst (v := 0) (pc := 24) X rfl dX12_days_24 ?_
    obtain ⟨c4, h⟩ := chk_e h
    refine g_iast (pc := 25) X s_93 c4 dX12_days_25 ?_
    obtain ⟨σ5, e_σ5, h⟩ := bnd_e h
    refine g_nmS e_σ5 ?_
    refine g_aload_n (pc := 26) X 0 rfl dX12_days_26 ?_
    refine g_iconst (v := 0) (pc := 27) X rfl dX12_days_27 ?_
    refine g_putI (pc := 28) X k_fl_X12_226 s_92 rfl rfl rfl dX12_days_28 ?_
    obtain ⟨σ6, e_σ6, h⟩ := bnd_e h
    refine g_nmS e_σ6 ?_
    refine g_aload_n (pc := 31) X 0 rfl dX12_days_31 ?_
    refine g_iconst (v := 0) (pc := 32) X rfl dX12_days_32 ?_
    refine g_putI (pc := 33) X k_fl_X12_229 s_92 rfl rfl rfl dX12_days_33 ?_
    obtain ⟨σ7, e_σ7, h⟩ := bnd_e h
    refine g_nmS e_σ7 ?_
    refine g_iconst (v := 1) (pc := 36) X rfl dX12_days_36 ?_
    refine g_istore_n (pc := 37) X [(2, .int 1), (0, .ref (V.2.2.1 + 92)), (1, .int p1)] rfl (Nat.le_of_ble_eq_true rfl) rfl dX12_days_37 ?_
    refine g_sub [1, 0] rfl ?_
    obtain ⟨σ13, hi14, h⟩ := bd_e h
    refine tl_Mo_days_L38 X  hi14 ?_
    refine g_sub [0] rfl ?_
    exact tj_Mo_days_J57 X  hr h hA
  · replace h := if_t c40 h
    refine g_aload_n (pc := 11) X 0 rfl dX12_days_11 ?_
    refine g_iconst (v := 1) (pc := 12) X rfl dX12_days_12 ?_
    obtain ⟨r38, σ39, hc37, h⟩ := bd2_e h
    refine g_callV (pc := 13) X k_ml_X12_88 (run_Mo_refuse  hc37) s_92 rfl (room_ok (Nat.le_of_ble_eq_true rfl) (Nat.le_of_ble_eq_true rfl)) ⟨Nat.le_refl _, Nat.le_refl _⟩ _ rfl (Nat.le_of_ble_eq_true rfl) dX12_days_13 ?_
    show Go V Γ M_X12_days (Zm V Γ 11 fin) 16 [(0, .ref (V.2.2.1 + 92)), (1, .int p1)] [.int r38] σ39
    cases h
    exact g_iret (pc := 16) X rfl rfl (hr _ _ hA) dX12_days_16
set_option maxRecDepth 100000 in
theorem run_Mo_days {V : Ev} {σ : St} {p1 : Int32} {o : (Int32 × St)}   (h : Mo_days σ p1 = some o) : Rs V 11 M_X12_days [.ref (V.2.2.1 + 92), .int p1] σ (some (.int o.1), o.2) := by
  refine Rs.of (by decide +kernel) (Nat.le_of_ble_eq_true rfl) (fun Γ X => ?_)
  exact tm_Mo_days X (A := fun o1 => o1 = o)  (fun _ _ e => by rw [← e]) h rfl
theorem dX12_isClass_0 : decode cX12_isClass 0 = .ok (.iload_n 1, 1) := by decide +kernel
theorem dX12_isClass_1 : decode cX12_isClass 1 = .ok (.ifCond .lt 17, 3) := by decide +kernel
theorem dX12_isClass_4 : decode cX12_isClass 4 = .ok (.iload_n 1, 1) := by decide +kernel
theorem dX12_isClass_5 : decode cX12_isClass 5 = .ok (.aload_n 0, 1) := by decide +kernel
theorem dX12_isClass_6 : decode cX12_isClass 6 = .ok (.getfield 7, 3) := by decide +kernel
theorem dX12_isClass_9 : decode cX12_isClass 9 = .ok (.iconst 0, 1) := by decide +kernel
theorem dX12_isClass_10 : decode cX12_isClass 10 = .ok (.iaload, 1) := by decide +kernel
theorem dX12_isClass_11 : decode cX12_isClass 11 = .ok (.if_icmp .ge 7, 3) := by decide +kernel
theorem dX12_isClass_14 : decode cX12_isClass 14 = .ok (.iconst 1, 1) := by decide +kernel
theorem dX12_isClass_15 : decode cX12_isClass 15 = .ok (.goto 4, 3) := by decide +kernel
theorem dX12_isClass_18 : decode cX12_isClass 18 = .ok (.iconst 0, 1) := by decide +kernel
theorem dX12_isClass_19 : decode cX12_isClass 19 = .ok (.ireturn, 1) := by decide +kernel
noncomputable def Mo_isClass (σ : St) (p1 : Int32) : Option Int32 :=
  if p1 < 0 then (some 0) else (chk (ix 0 2060) (if (σ.1 93 (tn 0)) ≤ p1 then (some 0) else (some 1)))
set_option maxRecDepth 100000 in
set_option maxHeartbeats 4000000 in
theorem tm_Mo_isClass {V : Ev} {Γ : Cn} {fin : Option Value × St} {σ : St} {p1 : Int32} {o : Int32} (X : Cx V Γ M_X12_isClass) {A : Int32 → Prop}  (hr : ∀ (r : Int32), A r → (some (.int r), σ) = fin) (h : Mo_isClass σ p1 = some o) (hA : A o) : Go V Γ M_X12_isClass (Zm V Γ 0 fin) 0 [(0, .ref (V.2.2.1 + 92)), (1, .int p1)] [] σ := by
  unfold Mo_isClass at h
  refine g_iload_n (pc := 0) X 1 rfl dX12_isClass_0 ?_
  refine g_if_lt (pc := 1) (tgt := 18) X dX12_isClass_1 rfl (fun c3 => ?_) (fun c3 => ?_)
  · replace h := if_t c3 h
    refine g_iconst (v := 0) (pc := 18) X rfl dX12_isClass_18 ?_
    cases h
    exact g_iret (pc := 19) X rfl nz0.1 (hr _ hA) dX12_isClass_19
  · replace h := if_f c3 h
    refine g_iload_n (pc := 4) X 1 rfl dX12_isClass_4 ?_
    refine g_aload_n (pc := 5) X 0 rfl dX12_isClass_5 ?_
    refine g_getR (r := 93) (pc := 6) X k_fl_X12_7 s_92 rfl dX12_isClass_6 ?_
    refine g_iconst (v := 0) (pc := 9) X rfl dX12_isClass_9 ?_
    obtain ⟨c1, h⟩ := chk_e h
    refine g_iald (pc := 10) X s_93 c1 dX12_isClass_10 ?_
    refine g_icmp_ge (pc := 11) (tgt := 18) X dX12_isClass_11 rfl (fun c2 => ?_) (fun c2 => ?_)
    · replace h := if_t c2 h
      refine g_iconst (v := 0) (pc := 18) X rfl dX12_isClass_18 ?_
      cases h
      exact g_iret (pc := 19) X rfl nz0.1 (hr _ hA) dX12_isClass_19
    · replace h := if_f c2 h
      refine g_iconst (v := 1) (pc := 14) X rfl dX12_isClass_14 ?_
      refine g_goto (pc := 15) (tgt := 19) X dX12_isClass_15 rfl ?_
      cases h
      exact g_iret (pc := 19) X rfl nz1.1 (hr _ hA) dX12_isClass_19
set_option maxRecDepth 100000 in
theorem run_Mo_isClass {V : Ev} {σ : St} {p1 : Int32} {o : Int32}   (h : Mo_isClass σ p1 = some o) : Rs V 0 M_X12_isClass [.ref (V.2.2.1 + 92), .int p1] σ (some (.int o), σ) := by
  refine Rs.of (by decide +kernel) (Nat.le_of_ble_eq_true rfl) (fun Γ X => ?_)
  exact tm_Mo_isClass X (A := fun o1 => o1 = o)  (fun _ e => by rw [e]) h rfl
theorem dX12_restOf_0 : decode cX12_restOf 0 = .ok (.aload_n 0, 1) := by decide +kernel
theorem dX12_restOf_1 : decode cX12_restOf 1 = .ok (.getfield 7, 3) := by decide +kernel
theorem dX12_restOf_4 : decode cX12_restOf 4 = .ok (.iload_n 1, 1) := by decide +kernel
theorem dX12_restOf_5 : decode cX12_restOf 5 = .ok (.invokestatic 180, 3) := by decide +kernel
theorem dX12_restOf_8 : decode cX12_restOf 8 = .ok (.iaload, 1) := by decide +kernel
theorem dX12_restOf_9 : decode cX12_restOf 9 = .ok (.ireturn, 1) := by decide +kernel
noncomputable def Mo_restOf (σ : St) (p1 : Int32) : Option Int32 :=
  bd (Mo_rowOf p1) (fun r2 => chk (ix r2 2060) (some (σ.1 93 (tn r2))))
set_option maxRecDepth 100000 in
set_option maxHeartbeats 4000000 in
theorem tm_Mo_restOf {V : Ev} {Γ : Cn} {fin : Option Value × St} {σ : St} {p1 : Int32} {o : Int32} (X : Cx V Γ M_X12_restOf) {A : Int32 → Prop}  (hr : ∀ (r : Int32), A r → (some (.int r), σ) = fin) (h : Mo_restOf σ p1 = some o) (hA : A o) : Go V Γ M_X12_restOf (Zm V Γ 1 fin) 0 [(0, .ref (V.2.2.1 + 92)), (1, .int p1)] [] σ := by
  unfold Mo_restOf at h
  refine g_aload_n (pc := 0) X 0 rfl dX12_restOf_0 ?_
  refine g_getR (r := 93) (pc := 1) X k_fl_X12_7 s_92 rfl dX12_restOf_1 ?_
  refine g_iload_n (pc := 4) X 1 rfl dX12_restOf_4 ?_
  obtain ⟨r2, hc1, h⟩ := bd_e h
  refine g_callS (pc := 5) X k_ml_X12_180 (run_Mo_rowOf  hc1) rfl (room_ok (Nat.le_of_ble_eq_true rfl) (Nat.le_of_ble_eq_true rfl)) ⟨Nat.le_refl _, Nat.le_refl _⟩ _ rfl (Nat.le_of_ble_eq_true rfl) dX12_restOf_5 ?_
  show Go V Γ M_X12_restOf (Zm V Γ 1 fin) 8 [(0, .ref (V.2.2.1 + 92)), (1, .int p1)] [.int r2, .ref (V.2.2.1 + 93)] σ
  obtain ⟨c3, h⟩ := chk_e h
  refine g_iald (pc := 8) X s_93 c3 dX12_restOf_8 ?_
  cases h
  exact g_iret (pc := 9) X rfl rfl (hr _ hA) dX12_restOf_9
set_option maxRecDepth 100000 in
theorem run_Mo_restOf {V : Ev} {σ : St} {p1 : Int32} {o : Int32}   (h : Mo_restOf σ p1 = some o) : Rs V 1 M_X12_restOf [.ref (V.2.2.1 + 92), .int p1] σ (some (.int o), σ) := by
  refine Rs.of (by decide +kernel) (Nat.le_of_ble_eq_true rfl) (fun Γ X => ?_)
  exact tm_Mo_restOf X (A := fun o1 => o1 = o)  (fun _ e => by rw [e]) h rfl
theorem dX12_modulusOf_0 : decode cX12_modulusOf 0 = .ok (.aload_n 0, 1) := by decide +kernel
theorem dX12_modulusOf_1 : decode cX12_modulusOf 1 = .ok (.getfield 7, 3) := by decide +kernel
theorem dX12_modulusOf_4 : decode cX12_modulusOf 4 = .ok (.iload_n 1, 1) := by decide +kernel
theorem dX12_modulusOf_5 : decode cX12_modulusOf 5 = .ok (.invokestatic 180, 3) := by decide +kernel
theorem dX12_modulusOf_8 : decode cX12_modulusOf 8 = .ok (.iconst 1, 1) := by decide +kernel
theorem dX12_modulusOf_9 : decode cX12_modulusOf 9 = .ok (.iadd, 1) := by decide +kernel
theorem dX12_modulusOf_10 : decode cX12_modulusOf 10 = .ok (.iaload, 1) := by decide +kernel
theorem dX12_modulusOf_11 : decode cX12_modulusOf 11 = .ok (.ireturn, 1) := by decide +kernel
noncomputable def Mo_modulusOf (σ : St) (p1 : Int32) : Option Int32 :=
  bd (Mo_rowOf p1) (fun r2 => chk (ix (r2 + 1) 2060) (some (σ.1 93 (tn (r2 + 1)))))
set_option maxRecDepth 100000 in
set_option maxHeartbeats 4000000 in
theorem tm_Mo_modulusOf {V : Ev} {Γ : Cn} {fin : Option Value × St} {σ : St} {p1 : Int32} {o : Int32} (X : Cx V Γ M_X12_modulusOf) {A : Int32 → Prop}  (hr : ∀ (r : Int32), A r → (some (.int r), σ) = fin) (h : Mo_modulusOf σ p1 = some o) (hA : A o) : Go V Γ M_X12_modulusOf (Zm V Γ 1 fin) 0 [(0, .ref (V.2.2.1 + 92)), (1, .int p1)] [] σ := by
  unfold Mo_modulusOf at h
  refine g_aload_n (pc := 0) X 0 rfl dX12_modulusOf_0 ?_
  refine g_getR (r := 93) (pc := 1) X k_fl_X12_7 s_92 rfl dX12_modulusOf_1 ?_
  refine g_iload_n (pc := 4) X 1 rfl dX12_modulusOf_4 ?_
  obtain ⟨r2, hc1, h⟩ := bd_e h
  refine g_callS (pc := 5) X k_ml_X12_180 (run_Mo_rowOf  hc1) rfl (room_ok (Nat.le_of_ble_eq_true rfl) (Nat.le_of_ble_eq_true rfl)) ⟨Nat.le_refl _, Nat.le_refl _⟩ _ rfl (Nat.le_of_ble_eq_true rfl) dX12_modulusOf_5 ?_
  show Go V Γ M_X12_modulusOf (Zm V Γ 1 fin) 8 [(0, .ref (V.2.2.1 + 92)), (1, .int p1)] [.int r2, .ref (V.2.2.1 + 93)] σ
  refine g_iconst (v := 1) (pc := 8) X rfl dX12_modulusOf_8 ?_
  refine g_iadd (pc := 9) X dX12_modulusOf_9 ?_
  obtain ⟨c3, h⟩ := chk_e h
  refine g_iald (pc := 10) X s_93 c3 dX12_modulusOf_10 ?_
  cases h
  exact g_iret (pc := 11) X rfl rfl (hr _ hA) dX12_modulusOf_11
set_option maxRecDepth 100000 in
theorem run_Mo_modulusOf {V : Ev} {σ : St} {p1 : Int32} {o : Int32}   (h : Mo_modulusOf σ p1 = some o) : Rs V 1 M_X12_modulusOf [.ref (V.2.2.1 + 92), .int p1] σ (some (.int o), σ) := by
  refine Rs.of (by decide +kernel) (Nat.le_of_ble_eq_true rfl) (fun Γ X => ?_)
  exact tm_Mo_modulusOf X (A := fun o1 => o1 = o)  (fun _ e => by rw [e]) h rfl
theorem dX12_isOn_0 : decode cX12_isOn 0 = .ok (.aload_n 0, 1) := by decide +kernel
theorem dX12_isOn_1 : decode cX12_isOn 1 = .ok (.getfield 7, 3) := by decide +kernel
theorem dX12_isOn_4 : decode cX12_isOn 4 = .ok (.iload_n 1, 1) := by decide +kernel
theorem dX12_isOn_5 : decode cX12_isOn 5 = .ok (.invokestatic 180, 3) := by decide +kernel
theorem dX12_isOn_8 : decode cX12_isOn 8 = .ok (.iconst 2, 1) := by decide +kernel
theorem dX12_isOn_9 : decode cX12_isOn 9 = .ok (.iadd, 1) := by decide +kernel
theorem dX12_isOn_10 : decode cX12_isOn 10 = .ok (.iaload, 1) := by decide +kernel
theorem dX12_isOn_11 : decode cX12_isOn 11 = .ok (.iconst 1, 1) := by decide +kernel
theorem dX12_isOn_12 : decode cX12_isOn 12 = .ok (.if_icmp .ne 7, 3) := by decide +kernel
theorem dX12_isOn_15 : decode cX12_isOn 15 = .ok (.iconst 1, 1) := by decide +kernel
theorem dX12_isOn_16 : decode cX12_isOn 16 = .ok (.goto 4, 3) := by decide +kernel
theorem dX12_isOn_19 : decode cX12_isOn 19 = .ok (.iconst 0, 1) := by decide +kernel
theorem dX12_isOn_20 : decode cX12_isOn 20 = .ok (.ireturn, 1) := by decide +kernel
noncomputable def Mo_isOn (σ : St) (p1 : Int32) : Option Int32 :=
  bd (Mo_rowOf p1) (fun r2 => chk (ix (r2 + 2) 2060) (if (σ.1 93 (tn (r2 + 2))) = 1 then (some 1) else (some 0)))
set_option maxRecDepth 100000 in
set_option maxHeartbeats 4000000 in
theorem tm_Mo_isOn {V : Ev} {Γ : Cn} {fin : Option Value × St} {σ : St} {p1 : Int32} {o : Int32} (X : Cx V Γ M_X12_isOn) {A : Int32 → Prop}  (hr : ∀ (r : Int32), A r → (some (.int r), σ) = fin) (h : Mo_isOn σ p1 = some o) (hA : A o) : Go V Γ M_X12_isOn (Zm V Γ 1 fin) 0 [(0, .ref (V.2.2.1 + 92)), (1, .int p1)] [] σ := by
  unfold Mo_isOn at h
  refine g_aload_n (pc := 0) X 0 rfl dX12_isOn_0 ?_
  refine g_getR (r := 93) (pc := 1) X k_fl_X12_7 s_92 rfl dX12_isOn_1 ?_
  refine g_iload_n (pc := 4) X 1 rfl dX12_isOn_4 ?_
  obtain ⟨r2, hc1, h⟩ := bd_e h
  refine g_callS (pc := 5) X k_ml_X12_180 (run_Mo_rowOf  hc1) rfl (room_ok (Nat.le_of_ble_eq_true rfl) (Nat.le_of_ble_eq_true rfl)) ⟨Nat.le_refl _, Nat.le_refl _⟩ _ rfl (Nat.le_of_ble_eq_true rfl) dX12_isOn_5 ?_
  show Go V Γ M_X12_isOn (Zm V Γ 1 fin) 8 [(0, .ref (V.2.2.1 + 92)), (1, .int p1)] [.int r2, .ref (V.2.2.1 + 93)] σ
  refine g_iconst (v := 2) (pc := 8) X rfl dX12_isOn_8 ?_
  refine g_iadd (pc := 9) X dX12_isOn_9 ?_
  obtain ⟨c3, h⟩ := chk_e h
  refine g_iald (pc := 10) X s_93 c3 dX12_isOn_10 ?_
  refine g_iconst (v := 1) (pc := 11) X rfl dX12_isOn_11 ?_
  refine g_icmp_ne (pc := 12) (tgt := 19) X dX12_isOn_12 rfl (fun c4 => ?_) (fun c4 => ?_)
  · replace h := if_f c4 h
    refine g_iconst (v := 0) (pc := 19) X rfl dX12_isOn_19 ?_
    cases h
    exact g_iret (pc := 20) X rfl nz0.1 (hr _ hA) dX12_isOn_20
  · replace h := if_t c4 h
    refine g_iconst (v := 1) (pc := 15) X rfl dX12_isOn_15 ?_
    refine g_goto (pc := 16) (tgt := 20) X dX12_isOn_16 rfl ?_
    cases h
    exact g_iret (pc := 20) X rfl nz1.1 (hr _ hA) dX12_isOn_20
set_option maxRecDepth 100000 in
theorem run_Mo_isOn {V : Ev} {σ : St} {p1 : Int32} {o : Int32}   (h : Mo_isOn σ p1 = some o) : Rs V 1 M_X12_isOn [.ref (V.2.2.1 + 92), .int p1] σ (some (.int o), σ) := by
  refine Rs.of (by decide +kernel) (Nat.le_of_ble_eq_true rfl) (fun Γ X => ?_)
  exact tm_Mo_isOn X (A := fun o1 => o1 = o)  (fun _ e => by rw [e]) h rfl
theorem dX12_onSet_0 : decode cX12_onSet 0 = .ok (.iconst 0, 1) := by decide +kernel
theorem dX12_onSet_1 : decode cX12_onSet 1 = .ok (.istore_n 1, 1) := by decide +kernel
theorem dX12_onSet_2 : decode cX12_onSet 2 = .ok (.iconst 0, 1) := by decide +kernel
theorem dX12_onSet_3 : decode cX12_onSet 3 = .ok (.istore_n 2, 1) := by decide +kernel
theorem dX12_onSet_4 : decode cX12_onSet 4 = .ok (.iload_n 2, 1) := by decide +kernel
theorem dX12_onSet_5 : decode cX12_onSet 5 = .ok (.aload_n 0, 1) := by decide +kernel
theorem dX12_onSet_6 : decode cX12_onSet 6 = .ok (.getfield 7, 3) := by decide +kernel
theorem dX12_onSet_9 : decode cX12_onSet 9 = .ok (.iconst 0, 1) := by decide +kernel
theorem dX12_onSet_10 : decode cX12_onSet 10 = .ok (.iaload, 1) := by decide +kernel
theorem dX12_onSet_11 : decode cX12_onSet 11 = .ok (.if_icmp .ge 27, 3) := by decide +kernel
theorem dX12_onSet_14 : decode cX12_onSet 14 = .ok (.iload_n 1, 1) := by decide +kernel
theorem dX12_onSet_15 : decode cX12_onSet 15 = .ok (.aload_n 0, 1) := by decide +kernel
theorem dX12_onSet_16 : decode cX12_onSet 16 = .ok (.iload_n 2, 1) := by decide +kernel
theorem dX12_onSet_17 : decode cX12_onSet 17 = .ok (.invokevirtual 238, 3) := by decide +kernel
theorem dX12_onSet_20 : decode cX12_onSet 20 = .ok (.ifCond .eq 9, 3) := by decide +kernel
theorem dX12_onSet_23 : decode cX12_onSet 23 = .ok (.iconst 1, 1) := by decide +kernel
theorem dX12_onSet_24 : decode cX12_onSet 24 = .ok (.iload_n 2, 1) := by decide +kernel
theorem dX12_onSet_25 : decode cX12_onSet 25 = .ok (.ishl, 1) := by decide +kernel
theorem dX12_onSet_26 : decode cX12_onSet 26 = .ok (.goto 4, 3) := by decide +kernel
theorem dX12_onSet_29 : decode cX12_onSet 29 = .ok (.iconst 0, 1) := by decide +kernel
theorem dX12_onSet_30 : decode cX12_onSet 30 = .ok (.ior, 1) := by decide +kernel
theorem dX12_onSet_31 : decode cX12_onSet 31 = .ok (.istore_n 1, 1) := by decide +kernel
theorem dX12_onSet_32 : decode cX12_onSet 32 = .ok (.iinc 2 1, 3) := by decide +kernel
theorem dX12_onSet_35 : decode cX12_onSet 35 = .ok (.goto (-31), 3) := by decide +kernel
theorem dX12_onSet_38 : decode cX12_onSet 38 = .ok (.iload_n 1, 1) := by decide +kernel
theorem dX12_onSet_39 : decode cX12_onSet 39 = .ok (.ireturn, 1) := by decide +kernel
noncomputable def Mo_onSet_L4 (σ : St) (x1 : Int32) (x2 : Int32) : Option ((Int32 × Int32) ⊕ Int32) :=
  chk (ix 0 2060) (if (σ.1 93 (tn 0)) ≤ x2 then (some (.inr x1)) else (bd (Mo_isOn σ x2) (fun r3 => if r3 = 0 then (bnd ((x1 ||| 0)) (fun v4 => bnd (x2 + 1) (fun v5 => some (.inl (v4, v5))))) else (bnd ((x1 ||| (1 <<< (x2 &&& 31)))) (fun v6 => bnd (x2 + 1) (fun v7 => some (.inl (v6, v7))))))))
set_option maxRecDepth 100000 in
set_option maxHeartbeats 4000000 in
theorem tb_Mo_onSet_L4 {V : Ev} {Γ : Cn} {fin : Option Value × St} {σ : St} {x1 : Int32} {x2 : Int32} {o : ((Int32 × Int32) ⊕ Int32)} (X : Cx V Γ M_X12_onSet) {A : ((Int32 × Int32) ⊕ Int32) → Prop}  (hb4 : ∀ (x1 : Int32) (x2 : Int32), A (.inl (x1, x2)) → Go V Γ M_X12_onSet (Zm V Γ 2 fin) 4 [(0, .ref (V.2.2.1 + 92)), (1, .int x1), (2, .int x2)] [] σ) (hx4 : ∀ (x1 : Int32), A (.inr x1) → Go V Γ M_X12_onSet (Zm V Γ 2 fin) 38 [(1, .int x1)] [] σ) (h : Mo_onSet_L4 σ x1 x2 = some o) (hA : A o) : Go V Γ M_X12_onSet (Zm V Γ 2 fin) 4 [(0, .ref (V.2.2.1 + 92)), (1, .int x1), (2, .int x2)] [] σ := by
  unfold Mo_onSet_L4 at h
  refine g_iload_n (pc := 4) X 2 rfl dX12_onSet_4 ?_
  refine g_aload_n (pc := 5) X 0 rfl dX12_onSet_5 ?_
  refine g_getR (r := 93) (pc := 6) X k_fl_X12_7 s_92 rfl dX12_onSet_6 ?_
  refine g_iconst (v := 0) (pc := 9) X rfl dX12_onSet_9 ?_
  obtain ⟨c1, h⟩ := chk_e h
  refine g_iald (pc := 10) X s_93 c1 dX12_onSet_10 ?_
  refine g_icmp_ge (pc := 11) (tgt := 38) X dX12_onSet_11 rfl (fun c9 => ?_) (fun c9 => ?_)
  · replace h := if_t c9 h
    refine g_sub [1] rfl ?_
    cases h
    exact hx4 _ hA
  · replace h := if_f c9 h
    refine g_iload_n (pc := 14) X 1 rfl dX12_onSet_14 ?_
    refine g_aload_n (pc := 15) X 0 rfl dX12_onSet_15 ?_
    refine g_iload_n (pc := 16) X 2 rfl dX12_onSet_16 ?_
    obtain ⟨r3, hc2, h⟩ := bd_e h
    refine g_callV (pc := 17) X k_ml_X12_238 (run_Mo_isOn  hc2) s_92 rfl (room_ok (Nat.le_of_ble_eq_true rfl) (Nat.le_of_ble_eq_true rfl)) ⟨Nat.le_refl _, Nat.le_refl _⟩ _ rfl (Nat.le_of_ble_eq_true rfl) dX12_onSet_17 ?_
    show Go V Γ M_X12_onSet (Zm V Γ 2 fin) 20 [(0, .ref (V.2.2.1 + 92)), (1, .int x1), (2, .int x2)] [.int r3, .int x1] σ
    refine g_if_eq (pc := 20) (tgt := 29) X dX12_onSet_20 rfl (fun c8 => ?_) (fun c8 => ?_)
    · replace h := if_t c8 h
      refine g_iconst (v := 0) (pc := 29) X rfl dX12_onSet_29 ?_
      refine g_ior (pc := 30) X dX12_onSet_30 ?_
      obtain ⟨v4, e_v4, h⟩ := bnd_e h
      refine g_nmI e_v4 ?_
      refine g_istore_n (pc := 31) X [(1, .int v4), (0, .ref (V.2.2.1 + 92)), (2, .int x2)] rfl (Nat.le_of_ble_eq_true rfl) rfl dX12_onSet_31 ?_
      obtain ⟨v5, e_v5, h⟩ := bnd_e h
      refine g_iinc (pc := 32) (v := v5) X [(2, .int v5), (1, .int v4), (0, .ref (V.2.2.1 + 92))] 2 rfl (by rw [e_v5]; rfl) (Nat.le_of_ble_eq_true rfl) rfl dX12_onSet_32 ?_
      refine g_goto (pc := 35) (tgt := 4) X dX12_onSet_35 rfl ?_
      refine g_sub [2, 1, 0] rfl ?_
      cases h
      exact hb4 _ _ hA
    · replace h := if_f c8 h
      refine g_iconst (v := 1) (pc := 23) X rfl dX12_onSet_23 ?_
      refine g_iload_n (pc := 24) X 2 rfl dX12_onSet_24 ?_
      refine g_ishl (pc := 25) X dX12_onSet_25 ?_
      refine g_goto (pc := 26) (tgt := 30) X dX12_onSet_26 rfl ?_
      refine g_ior (pc := 30) X dX12_onSet_30 ?_
      obtain ⟨v6, e_v6, h⟩ := bnd_e h
      refine g_nmI e_v6 ?_
      refine g_istore_n (pc := 31) X [(1, .int v6), (0, .ref (V.2.2.1 + 92)), (2, .int x2)] rfl (Nat.le_of_ble_eq_true rfl) rfl dX12_onSet_31 ?_
      obtain ⟨v7, e_v7, h⟩ := bnd_e h
      refine g_iinc (pc := 32) (v := v7) X [(2, .int v7), (1, .int v6), (0, .ref (V.2.2.1 + 92))] 2 rfl (by rw [e_v7]; rfl) (Nat.le_of_ble_eq_true rfl) rfl dX12_onSet_32 ?_
      refine g_goto (pc := 35) (tgt := 4) X dX12_onSet_35 rfl ?_
      refine g_sub [2, 1, 0] rfl ?_
      cases h
      exact hb4 _ _ hA
set_option maxRecDepth 100000 in
theorem tl_Mo_onSet_L4 {V : Ev} {Γ : Cn} {fin : Option Value × St} {σ : St} {x1 : Int32} {x2 : Int32} (X : Cx V Γ M_X12_onSet)  {y1 : Int32} {n : Nat} (h : iter (fun s : (Int32 × Int32) => Mo_onSet_L4 σ s.1 s.2) n (x1, x2) = some y1) (hK : Go V Γ M_X12_onSet (Zm V Γ 2 fin) 38 [(1, .int y1)] [] σ) : Go V Γ M_X12_onSet (Zm V Γ 2 fin) 4 [(0, .ref (V.2.2.1 + 92)), (1, .int x1), (2, .int x2)] [] σ := by
  refine iter_go (G := (fun s : (Int32 × Int32) => Go V Γ M_X12_onSet (Zm V Γ 2 fin) 4 [(0, .ref (V.2.2.1 + 92)), (1, .int s.1), (2, .int s.2)] [] σ)) (fun s o ho hS => ?_) n (x1, x2) h
  exact tb_Mo_onSet_L4 X  (fun _ _ h9 => h9) (fun _ he => by cases he; exact hK) ho hS
noncomputable def Mo_onSet (σ : St) : Option Int32 :=
  bd (iter (fun s : (Int32 × Int32) => Mo_onSet_L4 σ s.1 s.2) FUEL (0, 0)) (fun v10 => some v10)
set_option maxRecDepth 100000 in
set_option maxHeartbeats 4000000 in
theorem tm_Mo_onSet {V : Ev} {Γ : Cn} {fin : Option Value × St} {σ : St} {o : Int32} (X : Cx V Γ M_X12_onSet) {A : Int32 → Prop}  (hr : ∀ (r : Int32), A r → (some (.int r), σ) = fin) (h : Mo_onSet σ = some o) (hA : A o) : Go V Γ M_X12_onSet (Zm V Γ 2 fin) 0 [(0, .ref (V.2.2.1 + 92))] [] σ := by
  unfold Mo_onSet at h
  refine g_iconst (v := 0) (pc := 0) X rfl dX12_onSet_0 ?_
  refine g_istore_n (pc := 1) X [(1, .int 0), (0, .ref (V.2.2.1 + 92))] rfl (Nat.le_of_ble_eq_true rfl) rfl dX12_onSet_1 ?_
  refine g_iconst (v := 0) (pc := 2) X rfl dX12_onSet_2 ?_
  refine g_istore_n (pc := 3) X [(2, .int 0), (1, .int 0), (0, .ref (V.2.2.1 + 92))] rfl (Nat.le_of_ble_eq_true rfl) rfl dX12_onSet_3 ?_
  refine g_sub [2, 1, 0] rfl ?_
  obtain ⟨v10, hi11, h⟩ := bd_e h
  refine tl_Mo_onSet_L4 X  hi11 ?_
  refine g_iload_n (pc := 38) X 0 rfl dX12_onSet_38 ?_
  cases h
  exact g_iret (pc := 39) X rfl rfl (hr _ hA) dX12_onSet_39
set_option maxRecDepth 100000 in
theorem run_Mo_onSet {V : Ev} {σ : St} {o : Int32}   (h : Mo_onSet σ = some o) : Rs V 2 M_X12_onSet [.ref (V.2.2.1 + 92)] σ (some (.int o), σ) := by
  refine Rs.of (by decide +kernel) (Nat.le_of_ble_eq_true rfl) (fun Γ X => ?_)
  exact tm_Mo_onSet X (A := fun o1 => o1 = o)  (fun _ e => by rw [e]) h rfl
theorem dX12_bits_0 : decode cX12_bits 0 = .ok (.iconst 0, 1) := by decide +kernel
theorem dX12_bits_1 : decode cX12_bits 1 = .ok (.istore_n 1, 1) := by decide +kernel
theorem dX12_bits_2 : decode cX12_bits 2 = .ok (.iload_n 0, 1) := by decide +kernel
theorem dX12_bits_3 : decode cX12_bits 3 = .ok (.istore_n 2, 1) := by decide +kernel
theorem dX12_bits_4 : decode cX12_bits 4 = .ok (.iload_n 2, 1) := by decide +kernel
theorem dX12_bits_5 : decode cX12_bits 5 = .ok (.ifCond .eq 15, 3) := by decide +kernel
theorem dX12_bits_8 : decode cX12_bits 8 = .ok (.iinc 1 1, 3) := by decide +kernel
theorem dX12_bits_11 : decode cX12_bits 11 = .ok (.iload_n 2, 1) := by decide +kernel
theorem dX12_bits_12 : decode cX12_bits 12 = .ok (.iload_n 2, 1) := by decide +kernel
theorem dX12_bits_13 : decode cX12_bits 13 = .ok (.iconst 1, 1) := by decide +kernel
theorem dX12_bits_14 : decode cX12_bits 14 = .ok (.isub, 1) := by decide +kernel
theorem dX12_bits_15 : decode cX12_bits 15 = .ok (.iand, 1) := by decide +kernel
theorem dX12_bits_16 : decode cX12_bits 16 = .ok (.istore_n 2, 1) := by decide +kernel
theorem dX12_bits_17 : decode cX12_bits 17 = .ok (.goto (-13), 3) := by decide +kernel
theorem dX12_bits_20 : decode cX12_bits 20 = .ok (.iload_n 1, 1) := by decide +kernel
theorem dX12_bits_21 : decode cX12_bits 21 = .ok (.ireturn, 1) := by decide +kernel
noncomputable def Mo_bits_L4 (x1 : Int32) (x2 : Int32) : Option ((Int32 × Int32) ⊕ Int32) :=
  if x2 = 0 then (some (.inr x1)) else (bnd (x1 + 1) (fun v1 => bnd ((x2 &&& (x2 - 1))) (fun v2 => some (.inl (v1, v2)))))
set_option maxRecDepth 100000 in
set_option maxHeartbeats 4000000 in
theorem tb_Mo_bits_L4 {V : Ev} {Γ : Cn} {fin : Option Value × St} {σ : St} {x1 : Int32} {x2 : Int32} {o : ((Int32 × Int32) ⊕ Int32)} (X : Cx V Γ M_X12_bits) {A : ((Int32 × Int32) ⊕ Int32) → Prop}  (hb4 : ∀ (x1 : Int32) (x2 : Int32), A (.inl (x1, x2)) → Go V Γ M_X12_bits (Zm V Γ 0 fin) 4 [(1, .int x1), (2, .int x2)] [] σ) (hx4 : ∀ (x1 : Int32), A (.inr x1) → Go V Γ M_X12_bits (Zm V Γ 0 fin) 20 [(1, .int x1)] [] σ) (h : Mo_bits_L4 x1 x2 = some o) (hA : A o) : Go V Γ M_X12_bits (Zm V Γ 0 fin) 4 [(1, .int x1), (2, .int x2)] [] σ := by
  unfold Mo_bits_L4 at h
  refine g_iload_n (pc := 4) X 1 rfl dX12_bits_4 ?_
  refine g_if_eq (pc := 5) (tgt := 20) X dX12_bits_5 rfl (fun c3 => ?_) (fun c3 => ?_)
  · replace h := if_t c3 h
    refine g_sub [0] rfl ?_
    cases h
    exact hx4 _ hA
  · replace h := if_f c3 h
    obtain ⟨v1, e_v1, h⟩ := bnd_e h
    refine g_iinc (pc := 8) (v := v1) X [(1, .int v1), (2, .int x2)] 0 rfl (by rw [e_v1]; rfl) (Nat.le_of_ble_eq_true rfl) rfl dX12_bits_8 ?_
    refine g_iload_n (pc := 11) X 1 rfl dX12_bits_11 ?_
    refine g_iload_n (pc := 12) X 1 rfl dX12_bits_12 ?_
    refine g_iconst (v := 1) (pc := 13) X rfl dX12_bits_13 ?_
    refine g_isub (pc := 14) X dX12_bits_14 ?_
    refine g_iand (pc := 15) X dX12_bits_15 ?_
    obtain ⟨v2, e_v2, h⟩ := bnd_e h
    refine g_nmI e_v2 ?_
    refine g_istore_n (pc := 16) X [(2, .int v2), (1, .int v1)] rfl (Nat.le_of_ble_eq_true rfl) rfl dX12_bits_16 ?_
    refine g_goto (pc := 17) (tgt := 4) X dX12_bits_17 rfl ?_
    refine g_sub [1, 0] rfl ?_
    cases h
    exact hb4 _ _ hA
set_option maxRecDepth 100000 in
theorem tl_Mo_bits_L4 {V : Ev} {Γ : Cn} {fin : Option Value × St} {σ : St} {x1 : Int32} {x2 : Int32} (X : Cx V Γ M_X12_bits)  {y1 : Int32} {n : Nat} (h : iter (fun s : (Int32 × Int32) => Mo_bits_L4 s.1 s.2) n (x1, x2) = some y1) (hK : Go V Γ M_X12_bits (Zm V Γ 0 fin) 20 [(1, .int y1)] [] σ) : Go V Γ M_X12_bits (Zm V Γ 0 fin) 4 [(1, .int x1), (2, .int x2)] [] σ := by
  refine iter_go (G := (fun s : (Int32 × Int32) => Go V Γ M_X12_bits (Zm V Γ 0 fin) 4 [(1, .int s.1), (2, .int s.2)] [] σ)) (fun s o ho hS => ?_) n (x1, x2) h
  exact tb_Mo_bits_L4 X  (fun _ _ h9 => h9) (fun _ he => by cases he; exact hK) ho hS
noncomputable def Mo_bits (p0 : Int32) : Option Int32 :=
  bd (iter (fun s : (Int32 × Int32) => Mo_bits_L4 s.1 s.2) FUEL (0, p0)) (fun v4 => some v4)
set_option maxRecDepth 100000 in
set_option maxHeartbeats 4000000 in
theorem tm_Mo_bits {V : Ev} {Γ : Cn} {fin : Option Value × St} {σ : St} {p0 : Int32} {o : Int32} (X : Cx V Γ M_X12_bits) {A : Int32 → Prop}  (hr : ∀ (r : Int32), A r → (some (.int r), σ) = fin) (h : Mo_bits p0 = some o) (hA : A o) : Go V Γ M_X12_bits (Zm V Γ 0 fin) 0 [(0, .int p0)] [] σ := by
  unfold Mo_bits at h
  refine g_iconst (v := 0) (pc := 0) X rfl dX12_bits_0 ?_
  refine g_istore_n (pc := 1) X [(1, .int 0), (0, .int p0)] rfl (Nat.le_of_ble_eq_true rfl) rfl dX12_bits_1 ?_
  refine g_iload_n (pc := 2) X 1 rfl dX12_bits_2 ?_
  refine g_istore_n (pc := 3) X [(2, .int p0), (1, .int 0), (0, .int p0)] rfl (Nat.le_of_ble_eq_true rfl) rfl dX12_bits_3 ?_
  refine g_sub [1, 0] rfl ?_
  obtain ⟨v4, hi5, h⟩ := bd_e h
  refine tl_Mo_bits_L4 X  hi5 ?_
  refine g_iload_n (pc := 20) X 0 rfl dX12_bits_20 ?_
  cases h
  exact g_iret (pc := 21) X rfl rfl (hr _ hA) dX12_bits_21
set_option maxRecDepth 100000 in
theorem run_Mo_bits {V : Ev} {σ : St} {p0 : Int32} {o : Int32}   (h : Mo_bits p0 = some o) : Rs V 0 M_X12_bits [.int p0] σ (some (.int o), σ) := by
  refine Rs.of (by decide +kernel) (Nat.le_of_ble_eq_true rfl) (fun Γ X => ?_)
  exact tm_Mo_bits X (A := fun o1 => o1 = o)  (fun _ e => by rw [e]) h rfl
theorem dX12_common_0 : decode cX12_common 0 = .ok (.iload_n 0, 1) := by decide +kernel
theorem dX12_common_1 : decode cX12_common 1 = .ok (.istore_n 2, 1) := by decide +kernel
theorem dX12_common_2 : decode cX12_common 2 = .ok (.iload_n 1, 1) := by decide +kernel
theorem dX12_common_3 : decode cX12_common 3 = .ok (.istore_n 3, 1) := by decide +kernel
theorem dX12_common_4 : decode cX12_common 4 = .ok (.iload_n 3, 1) := by decide +kernel
theorem dX12_common_5 : decode cX12_common 5 = .ok (.ifCond .eq 16, 3) := by decide +kernel
theorem dX12_common_8 : decode cX12_common 8 = .ok (.iload_n 2, 1) := by decide +kernel
theorem dX12_common_9 : decode cX12_common 9 = .ok (.iload_n 3, 1) := by decide +kernel
theorem dX12_common_10 : decode cX12_common 10 = .ok (.irem, 1) := by decide +kernel
theorem dX12_common_11 : decode cX12_common 11 = .ok (.istore 4, 2) := by decide +kernel
theorem dX12_common_13 : decode cX12_common 13 = .ok (.iload_n 3, 1) := by decide +kernel
theorem dX12_common_14 : decode cX12_common 14 = .ok (.istore_n 2, 1) := by decide +kernel
theorem dX12_common_15 : decode cX12_common 15 = .ok (.iload 4, 2) := by decide +kernel
theorem dX12_common_17 : decode cX12_common 17 = .ok (.istore_n 3, 1) := by decide +kernel
theorem dX12_common_18 : decode cX12_common 18 = .ok (.goto (-14), 3) := by decide +kernel
theorem dX12_common_21 : decode cX12_common 21 = .ok (.iload_n 2, 1) := by decide +kernel
theorem dX12_common_22 : decode cX12_common 22 = .ok (.ireturn, 1) := by decide +kernel
noncomputable def Mo_common_L4 (x2 : Int32) (x3 : Int32) : Option ((Int32 × Int32) ⊕ Int32) :=
  if x3 = 0 then (some (.inr x2)) else (chk (nzI x3) (bnd ((jrem x2 x3)) (fun v2 => some (.inl (x3, v2)))))
set_option maxRecDepth 100000 in
set_option maxHeartbeats 4000000 in
theorem tb_Mo_common_L4 {V : Ev} {Γ : Cn} {fin : Option Value × St} {σ : St} {x2 : Int32} {x3 : Int32} {o : ((Int32 × Int32) ⊕ Int32)} (X : Cx V Γ M_X12_common) {A : ((Int32 × Int32) ⊕ Int32) → Prop}  (hb4 : ∀ (x2 : Int32) (x3 : Int32), A (.inl (x2, x3)) → Go V Γ M_X12_common (Zm V Γ 0 fin) 4 [(2, .int x2), (3, .int x3)] [] σ) (hx4 : ∀ (x2 : Int32), A (.inr x2) → Go V Γ M_X12_common (Zm V Γ 0 fin) 21 [(2, .int x2)] [] σ) (h : Mo_common_L4 x2 x3 = some o) (hA : A o) : Go V Γ M_X12_common (Zm V Γ 0 fin) 4 [(2, .int x2), (3, .int x3)] [] σ := by
  unfold Mo_common_L4 at h
  refine g_iload_n (pc := 4) X 1 rfl dX12_common_4 ?_
  refine g_if_eq (pc := 5) (tgt := 21) X dX12_common_5 rfl (fun c3 => ?_) (fun c3 => ?_)
  · replace h := if_t c3 h
    refine g_sub [0] rfl ?_
    cases h
    exact hx4 _ hA
  · replace h := if_f c3 h
    refine g_iload_n (pc := 8) X 0 rfl dX12_common_8 ?_
    refine g_iload_n (pc := 9) X 1 rfl dX12_common_9 ?_
    obtain ⟨c1, h⟩ := chk_e h
    refine g_irem (pc := 10) X (nzI_e c1) dX12_common_10 ?_
    obtain ⟨v2, e_v2, h⟩ := bnd_e h
    refine g_nmI e_v2 ?_
    refine g_istore (pc := 11) X [(4, .int v2), (2, .int x2), (3, .int x3)] (Nat.le_of_ble_eq_true rfl) rfl dX12_common_11 ?_
    refine g_iload_n (pc := 13) X 2 rfl dX12_common_13 ?_
    refine g_istore_n (pc := 14) X [(2, .int x3), (4, .int v2), (3, .int x3)] rfl (Nat.le_of_ble_eq_true rfl) rfl dX12_common_14 ?_
    refine g_iload (pc := 15) X 1 rfl dX12_common_15 ?_
    refine g_istore_n (pc := 17) X [(3, .int v2), (2, .int x3), (4, .int v2)] rfl (Nat.le_of_ble_eq_true rfl) rfl dX12_common_17 ?_
    refine g_goto (pc := 18) (tgt := 4) X dX12_common_18 rfl ?_
    refine g_sub [1, 0] rfl ?_
    cases h
    exact hb4 _ _ hA
set_option maxRecDepth 100000 in
theorem tl_Mo_common_L4 {V : Ev} {Γ : Cn} {fin : Option Value × St} {σ : St} {x2 : Int32} {x3 : Int32} (X : Cx V Γ M_X12_common)  {y2 : Int32} {n : Nat} (h : iter (fun s : (Int32 × Int32) => Mo_common_L4 s.1 s.2) n (x2, x3) = some y2) (hK : Go V Γ M_X12_common (Zm V Γ 0 fin) 21 [(2, .int y2)] [] σ) : Go V Γ M_X12_common (Zm V Γ 0 fin) 4 [(2, .int x2), (3, .int x3)] [] σ := by
  refine iter_go (G := (fun s : (Int32 × Int32) => Go V Γ M_X12_common (Zm V Γ 0 fin) 4 [(2, .int s.1), (3, .int s.2)] [] σ)) (fun s o ho hS => ?_) n (x2, x3) h
  exact tb_Mo_common_L4 X  (fun _ _ h9 => h9) (fun _ he => by cases he; exact hK) ho hS
noncomputable def Mo_common (p0 : Int32) (p1 : Int32) : Option Int32 :=
  bd (iter (fun s : (Int32 × Int32) => Mo_common_L4 s.1 s.2) FUEL (p0, p1)) (fun v4 => some v4)
set_option maxRecDepth 100000 in
set_option maxHeartbeats 4000000 in
theorem tm_Mo_common {V : Ev} {Γ : Cn} {fin : Option Value × St} {σ : St} {p0 : Int32} {p1 : Int32} {o : Int32} (X : Cx V Γ M_X12_common) {A : Int32 → Prop}  (hr : ∀ (r : Int32), A r → (some (.int r), σ) = fin) (h : Mo_common p0 p1 = some o) (hA : A o) : Go V Γ M_X12_common (Zm V Γ 0 fin) 0 [(0, .int p0), (1, .int p1)] [] σ := by
  unfold Mo_common at h
  refine g_iload_n (pc := 0) X 0 rfl dX12_common_0 ?_
  refine g_istore_n (pc := 1) X [(2, .int p0), (0, .int p0), (1, .int p1)] rfl (Nat.le_of_ble_eq_true rfl) rfl dX12_common_1 ?_
  refine g_iload_n (pc := 2) X 2 rfl dX12_common_2 ?_
  refine g_istore_n (pc := 3) X [(3, .int p1), (2, .int p0), (0, .int p0), (1, .int p1)] rfl (Nat.le_of_ble_eq_true rfl) rfl dX12_common_3 ?_
  refine g_sub [1, 0] rfl ?_
  obtain ⟨v4, hi5, h⟩ := bd_e h
  refine tl_Mo_common_L4 X  hi5 ?_
  refine g_iload_n (pc := 21) X 0 rfl dX12_common_21 ?_
  cases h
  exact g_iret (pc := 22) X rfl rfl (hr _ hA) dX12_common_22
set_option maxRecDepth 100000 in
theorem run_Mo_common {V : Ev} {σ : St} {p0 : Int32} {p1 : Int32} {o : Int32}   (h : Mo_common p0 p1 = some o) : Rs V 0 M_X12_common [.int p0, .int p1] σ (some (.int o), σ) := by
  refine Rs.of (by decide +kernel) (Nat.le_of_ble_eq_true rfl) (fun Γ X => ?_)
  exact tm_Mo_common X (A := fun o1 => o1 = o)  (fun _ e => by rw [e]) h rfl
theorem dX12_spanOf_0 : decode cX12_spanOf 0 = .ok (.iconst 1, 1) := by decide +kernel
theorem dX12_spanOf_1 : decode cX12_spanOf 1 = .ok (.istore_n 2, 1) := by decide +kernel
theorem dX12_spanOf_2 : decode cX12_spanOf 2 = .ok (.iconst 0, 1) := by decide +kernel
theorem dX12_spanOf_3 : decode cX12_spanOf 3 = .ok (.istore_n 3, 1) := by decide +kernel
theorem dX12_spanOf_4 : decode cX12_spanOf 4 = .ok (.iload_n 3, 1) := by decide +kernel
theorem dX12_spanOf_5 : decode cX12_spanOf 5 = .ok (.aload_n 0, 1) := by decide +kernel
theorem dX12_spanOf_6 : decode cX12_spanOf 6 = .ok (.getfield 7, 3) := by decide +kernel
theorem dX12_spanOf_9 : decode cX12_spanOf 9 = .ok (.iconst 0, 1) := by decide +kernel
theorem dX12_spanOf_10 : decode cX12_spanOf 10 = .ok (.iaload, 1) := by decide +kernel
theorem dX12_spanOf_11 : decode cX12_spanOf 11 = .ok (.if_icmp .ge 42, 3) := by decide +kernel
theorem dX12_spanOf_14 : decode cX12_spanOf 14 = .ok (.iload_n 2, 1) := by decide +kernel
theorem dX12_spanOf_15 : decode cX12_spanOf 15 = .ok (.sipush 5040, 3) := by decide +kernel
theorem dX12_spanOf_18 : decode cX12_spanOf 18 = .ok (.if_icmp .gt 35, 3) := by decide +kernel
theorem dX12_spanOf_21 : decode cX12_spanOf 21 = .ok (.iload_n 1, 1) := by decide +kernel
theorem dX12_spanOf_22 : decode cX12_spanOf 22 = .ok (.iload_n 3, 1) := by decide +kernel
theorem dX12_spanOf_23 : decode cX12_spanOf 23 = .ok (.invokestatic 241, 3) := by decide +kernel
theorem dX12_spanOf_26 : decode cX12_spanOf 26 = .ok (.ifCond .eq 21, 3) := by decide +kernel
theorem dX12_spanOf_29 : decode cX12_spanOf 29 = .ok (.iload_n 2, 1) := by decide +kernel
theorem dX12_spanOf_30 : decode cX12_spanOf 30 = .ok (.iload_n 2, 1) := by decide +kernel
theorem dX12_spanOf_31 : decode cX12_spanOf 31 = .ok (.aload_n 0, 1) := by decide +kernel
theorem dX12_spanOf_32 : decode cX12_spanOf 32 = .ok (.iload_n 3, 1) := by decide +kernel
theorem dX12_spanOf_33 : decode cX12_spanOf 33 = .ok (.invokevirtual 244, 3) := by decide +kernel
theorem dX12_spanOf_36 : decode cX12_spanOf 36 = .ok (.invokestatic 247, 3) := by decide +kernel
theorem dX12_spanOf_39 : decode cX12_spanOf 39 = .ok (.idiv, 1) := by decide +kernel
theorem dX12_spanOf_40 : decode cX12_spanOf 40 = .ok (.aload_n 0, 1) := by decide +kernel
theorem dX12_spanOf_41 : decode cX12_spanOf 41 = .ok (.iload_n 3, 1) := by decide +kernel
theorem dX12_spanOf_42 : decode cX12_spanOf 42 = .ok (.invokevirtual 244, 3) := by decide +kernel
theorem dX12_spanOf_45 : decode cX12_spanOf 45 = .ok (.imul, 1) := by decide +kernel
theorem dX12_spanOf_46 : decode cX12_spanOf 46 = .ok (.istore_n 2, 1) := by decide +kernel
theorem dX12_spanOf_47 : decode cX12_spanOf 47 = .ok (.iinc 3 1, 3) := by decide +kernel
theorem dX12_spanOf_50 : decode cX12_spanOf 50 = .ok (.goto (-46), 3) := by decide +kernel
theorem dX12_spanOf_53 : decode cX12_spanOf 53 = .ok (.iload_n 2, 1) := by decide +kernel
theorem dX12_spanOf_54 : decode cX12_spanOf 54 = .ok (.sipush 5040, 3) := by decide +kernel
theorem dX12_spanOf_57 : decode cX12_spanOf 57 = .ok (.if_icmp .le 7, 3) := by decide +kernel
theorem dX12_spanOf_60 : decode cX12_spanOf 60 = .ok (.iconst (-1), 1) := by decide +kernel
theorem dX12_spanOf_61 : decode cX12_spanOf 61 = .ok (.goto 4, 3) := by decide +kernel
theorem dX12_spanOf_64 : decode cX12_spanOf 64 = .ok (.iload_n 2, 1) := by decide +kernel
theorem dX12_spanOf_65 : decode cX12_spanOf 65 = .ok (.ireturn, 1) := by decide +kernel
noncomputable def Mo_spanOf_L4 (l1 : Int32) (σ : St) (x2 : Int32) (x3 : Int32) : Option ((Int32 × Int32) ⊕ Int32) :=
  chk (ix 0 2060) (if (σ.1 93 (tn 0)) ≤ x3 then (some (.inr x2)) else (if 5040 < x2 then (some (.inr x2)) else (bd (Mo_isIn l1 x3) (fun r3 => if r3 = 0 then (bnd (x3 + 1) (fun v4 => some (.inl (x2, v4)))) else (bd (Mo_modulusOf σ x3) (fun r6 => bd (Mo_common x2 r6) (fun r8 => chk (nzI r8) (bd (Mo_modulusOf σ x3) (fun r11 => bnd (((x2 / r8) * r11)) (fun v12 => bnd (x3 + 1) (fun v13 => some (.inl (v12, v13)))))))))))))
set_option maxRecDepth 100000 in
set_option maxHeartbeats 4000000 in
theorem tb_Mo_spanOf_L4 {V : Ev} {Γ : Cn} {fin : Option Value × St} {l1 : Int32} {σ : St} {x2 : Int32} {x3 : Int32} {o : ((Int32 × Int32) ⊕ Int32)} (X : Cx V Γ M_X12_spanOf) {A : ((Int32 × Int32) ⊕ Int32) → Prop}  (hb4 : ∀ (x2 : Int32) (x3 : Int32), A (.inl (x2, x3)) → Go V Γ M_X12_spanOf (Zm V Γ 2 fin) 4 [(0, .ref (V.2.2.1 + 92)), (1, .int l1), (2, .int x2), (3, .int x3)] [] σ) (hx4 : ∀ (x2 : Int32), A (.inr x2) → Go V Γ M_X12_spanOf (Zm V Γ 2 fin) 53 [(2, .int x2)] [] σ) (h : Mo_spanOf_L4 l1 σ x2 x3 = some o) (hA : A o) : Go V Γ M_X12_spanOf (Zm V Γ 2 fin) 4 [(0, .ref (V.2.2.1 + 92)), (1, .int l1), (2, .int x2), (3, .int x3)] [] σ := by
  unfold Mo_spanOf_L4 at h
  refine g_iload_n (pc := 4) X 3 rfl dX12_spanOf_4 ?_
  refine g_aload_n (pc := 5) X 0 rfl dX12_spanOf_5 ?_
  refine g_getR (r := 93) (pc := 6) X k_fl_X12_7 s_92 rfl dX12_spanOf_6 ?_
  refine g_iconst (v := 0) (pc := 9) X rfl dX12_spanOf_9 ?_
  obtain ⟨c1, h⟩ := chk_e h
  refine g_iald (pc := 10) X s_93 c1 dX12_spanOf_10 ?_
  refine g_icmp_ge (pc := 11) (tgt := 53) X dX12_spanOf_11 rfl (fun c16 => ?_) (fun c16 => ?_)
  · replace h := if_t c16 h
    refine g_sub [2] rfl ?_
    cases h
    exact hx4 _ hA
  · replace h := if_f c16 h
    refine g_iload_n (pc := 14) X 2 rfl dX12_spanOf_14 ?_
    refine g_sipush (v := 5040) (pc := 15) X (by decide) dX12_spanOf_15 ?_
    refine g_icmp_gt (pc := 18) (tgt := 53) X dX12_spanOf_18 rfl (fun c15 => ?_) (fun c15 => ?_)
    · replace h := if_t c15 h
      refine g_sub [2] rfl ?_
      cases h
      exact hx4 _ hA
    · replace h := if_f c15 h
      refine g_iload_n (pc := 21) X 1 rfl dX12_spanOf_21 ?_
      refine g_iload_n (pc := 22) X 3 rfl dX12_spanOf_22 ?_
      obtain ⟨r3, hc2, h⟩ := bd_e h
      refine g_callS (pc := 23) X k_ml_X12_241 (run_Mo_isIn  hc2) rfl (room_ok (Nat.le_of_ble_eq_true rfl) (Nat.le_of_ble_eq_true rfl)) ⟨Nat.le_refl _, Nat.le_refl _⟩ _ rfl (Nat.le_of_ble_eq_true rfl) dX12_spanOf_23 ?_
      show Go V Γ M_X12_spanOf (Zm V Γ 2 fin) 26 [(0, .ref (V.2.2.1 + 92)), (1, .int l1), (2, .int x2), (3, .int x3)] [.int r3] σ
      refine g_if_eq (pc := 26) (tgt := 47) X dX12_spanOf_26 rfl (fun c14 => ?_) (fun c14 => ?_)
      · replace h := if_t c14 h
        obtain ⟨v4, e_v4, h⟩ := bnd_e h
        refine g_iinc (pc := 47) (v := v4) X [(3, .int v4), (0, .ref (V.2.2.1 + 92)), (1, .int l1), (2, .int x2)] 3 rfl (by rw [e_v4]; rfl) (Nat.le_of_ble_eq_true rfl) rfl dX12_spanOf_47 ?_
        refine g_goto (pc := 50) (tgt := 4) X dX12_spanOf_50 rfl ?_
        refine g_sub [1, 2, 3, 0] rfl ?_
        cases h
        exact hb4 _ _ hA
      · replace h := if_f c14 h
        refine g_iload_n (pc := 29) X 2 rfl dX12_spanOf_29 ?_
        refine g_iload_n (pc := 30) X 2 rfl dX12_spanOf_30 ?_
        refine g_aload_n (pc := 31) X 0 rfl dX12_spanOf_31 ?_
        refine g_iload_n (pc := 32) X 3 rfl dX12_spanOf_32 ?_
        obtain ⟨r6, hc5, h⟩ := bd_e h
        refine g_callV (pc := 33) X k_ml_X12_244 (run_Mo_modulusOf  hc5) s_92 rfl (room_ok (Nat.le_of_ble_eq_true rfl) (Nat.le_of_ble_eq_true rfl)) ⟨Nat.le_refl _, Nat.le_refl _⟩ _ rfl (Nat.le_of_ble_eq_true rfl) dX12_spanOf_33 ?_
        show Go V Γ M_X12_spanOf (Zm V Γ 2 fin) 36 [(0, .ref (V.2.2.1 + 92)), (1, .int l1), (2, .int x2), (3, .int x3)] [.int r6, .int x2, .int x2] σ
        obtain ⟨r8, hc7, h⟩ := bd_e h
        refine g_callS (pc := 36) X k_ml_X12_247 (run_Mo_common  hc7) rfl (room_ok (Nat.le_of_ble_eq_true rfl) (Nat.le_of_ble_eq_true rfl)) ⟨Nat.le_refl _, Nat.le_refl _⟩ _ rfl (Nat.le_of_ble_eq_true rfl) dX12_spanOf_36 ?_
        show Go V Γ M_X12_spanOf (Zm V Γ 2 fin) 39 [(0, .ref (V.2.2.1 + 92)), (1, .int l1), (2, .int x2), (3, .int x3)] [.int r8, .int x2] σ
        obtain ⟨c9, h⟩ := chk_e h
        refine g_idiv (pc := 39) X (nzI_e c9) dX12_spanOf_39 ?_
        refine g_aload_n (pc := 40) X 0 rfl dX12_spanOf_40 ?_
        refine g_iload_n (pc := 41) X 3 rfl dX12_spanOf_41 ?_
        obtain ⟨r11, hc10, h⟩ := bd_e h
        refine g_callV (pc := 42) X k_ml_X12_244 (run_Mo_modulusOf  hc10) s_92 rfl (room_ok (Nat.le_of_ble_eq_true rfl) (Nat.le_of_ble_eq_true rfl)) ⟨Nat.le_refl _, Nat.le_refl _⟩ _ rfl (Nat.le_of_ble_eq_true rfl) dX12_spanOf_42 ?_
        show Go V Γ M_X12_spanOf (Zm V Γ 2 fin) 45 [(0, .ref (V.2.2.1 + 92)), (1, .int l1), (2, .int x2), (3, .int x3)] [.int r11, .int (x2 / r8)] σ
        refine g_imul (pc := 45) X dX12_spanOf_45 ?_
        obtain ⟨v12, e_v12, h⟩ := bnd_e h
        refine g_nmI e_v12 ?_
        refine g_istore_n (pc := 46) X [(2, .int v12), (0, .ref (V.2.2.1 + 92)), (1, .int l1), (3, .int x3)] rfl (Nat.le_of_ble_eq_true rfl) rfl dX12_spanOf_46 ?_
        obtain ⟨v13, e_v13, h⟩ := bnd_e h
        refine g_iinc (pc := 47) (v := v13) X [(3, .int v13), (2, .int v12), (0, .ref (V.2.2.1 + 92)), (1, .int l1)] 3 rfl (by rw [e_v13]; rfl) (Nat.le_of_ble_eq_true rfl) rfl dX12_spanOf_47 ?_
        refine g_goto (pc := 50) (tgt := 4) X dX12_spanOf_50 rfl ?_
        refine g_sub [2, 3, 1, 0] rfl ?_
        cases h
        exact hb4 _ _ hA
set_option maxRecDepth 100000 in
theorem tl_Mo_spanOf_L4 {V : Ev} {Γ : Cn} {fin : Option Value × St} {l1 : Int32} {σ : St} {x2 : Int32} {x3 : Int32} (X : Cx V Γ M_X12_spanOf)  {y2 : Int32} {n : Nat} (h : iter (fun s : (Int32 × Int32) => Mo_spanOf_L4 l1 σ s.1 s.2) n (x2, x3) = some y2) (hK : Go V Γ M_X12_spanOf (Zm V Γ 2 fin) 53 [(2, .int y2)] [] σ) : Go V Γ M_X12_spanOf (Zm V Γ 2 fin) 4 [(0, .ref (V.2.2.1 + 92)), (1, .int l1), (2, .int x2), (3, .int x3)] [] σ := by
  refine iter_go (G := (fun s : (Int32 × Int32) => Go V Γ M_X12_spanOf (Zm V Γ 2 fin) 4 [(0, .ref (V.2.2.1 + 92)), (1, .int l1), (2, .int s.1), (3, .int s.2)] [] σ)) (fun s o ho hS => ?_) n (x2, x3) h
  exact tb_Mo_spanOf_L4 X  (fun _ _ h9 => h9) (fun _ he => by cases he; exact hK) ho hS
noncomputable def Mo_spanOf (σ : St) (p1 : Int32) : Option Int32 :=
  bd (iter (fun s : (Int32 × Int32) => Mo_spanOf_L4 p1 σ s.1 s.2) FUEL (1, 0)) (fun v17 => if v17 ≤ 5040 then (some v17) else (some (-1)))
set_option maxRecDepth 100000 in
set_option maxHeartbeats 4000000 in
theorem tm_Mo_spanOf {V : Ev} {Γ : Cn} {fin : Option Value × St} {σ : St} {p1 : Int32} {o : Int32} (X : Cx V Γ M_X12_spanOf) {A : Int32 → Prop}  (hr : ∀ (r : Int32), A r → (some (.int r), σ) = fin) (h : Mo_spanOf σ p1 = some o) (hA : A o) : Go V Γ M_X12_spanOf (Zm V Γ 2 fin) 0 [(0, .ref (V.2.2.1 + 92)), (1, .int p1)] [] σ := by
  unfold Mo_spanOf at h
  refine g_iconst (v := 1) (pc := 0) X rfl dX12_spanOf_0 ?_
  refine g_istore_n (pc := 1) X [(2, .int 1), (0, .ref (V.2.2.1 + 92)), (1, .int p1)] rfl (Nat.le_of_ble_eq_true rfl) rfl dX12_spanOf_1 ?_
  refine g_iconst (v := 0) (pc := 2) X rfl dX12_spanOf_2 ?_
  refine g_istore_n (pc := 3) X [(3, .int 0), (2, .int 1), (0, .ref (V.2.2.1 + 92)), (1, .int p1)] rfl (Nat.le_of_ble_eq_true rfl) rfl dX12_spanOf_3 ?_
  refine g_sub [2, 3, 1, 0] rfl ?_
  obtain ⟨v17, hi18, h⟩ := bd_e h
  refine tl_Mo_spanOf_L4 X  hi18 ?_
  refine g_iload_n (pc := 53) X 0 rfl dX12_spanOf_53 ?_
  refine g_sipush (v := 5040) (pc := 54) X (by decide) dX12_spanOf_54 ?_
  refine g_icmp_le (pc := 57) (tgt := 64) X dX12_spanOf_57 rfl (fun c19 => ?_) (fun c19 => ?_)
  · replace h := if_t c19 h
    refine g_iload_n (pc := 64) X 0 rfl dX12_spanOf_64 ?_
    cases h
    exact g_iret (pc := 65) X rfl rfl (hr _ hA) dX12_spanOf_65
  · replace h := if_f c19 h
    refine g_iconst (v := (-1)) (pc := 60) X rfl dX12_spanOf_60 ?_
    refine g_goto (pc := 61) (tgt := 65) X dX12_spanOf_61 rfl ?_
    cases h
    exact g_iret (pc := 65) X rfl rfl (hr _ hA) dX12_spanOf_65
set_option maxRecDepth 100000 in
theorem run_Mo_spanOf {V : Ev} {σ : St} {p1 : Int32} {o : Int32}   (h : Mo_spanOf σ p1 = some o) : Rs V 2 M_X12_spanOf [.ref (V.2.2.1 + 92), .int p1] σ (some (.int o), σ) := by
  refine Rs.of (by decide +kernel) (Nat.le_of_ble_eq_true rfl) (fun Γ X => ?_)
  exact tm_Mo_spanOf X (A := fun o1 => o1 = o)  (fun _ e => by rw [e]) h rfl
theorem dX12_lays_0 : decode cX12_lays 0 = .ok (.aload_n 0, 1) := by decide +kernel
theorem dX12_lays_1 : decode cX12_lays 1 = .ok (.aload_n 0, 1) := by decide +kernel
theorem dX12_lays_2 : decode cX12_lays 2 = .ok (.iload_n 1, 1) := by decide +kernel
theorem dX12_lays_3 : decode cX12_lays 3 = .ok (.invokevirtual 250, 3) := by decide +kernel
theorem dX12_lays_6 : decode cX12_lays 6 = .ok (.putfield 253, 3) := by decide +kernel
theorem dX12_lays_9 : decode cX12_lays 9 = .ok (.iconst 0, 1) := by decide +kernel
theorem dX12_lays_10 : decode cX12_lays 10 = .ok (.istore_n 2, 1) := by decide +kernel
theorem dX12_lays_11 : decode cX12_lays 11 = .ok (.iload_n 2, 1) := by decide +kernel
theorem dX12_lays_12 : decode cX12_lays 12 = .ok (.aload_n 0, 1) := by decide +kernel
theorem dX12_lays_13 : decode cX12_lays 13 = .ok (.getfield 253, 3) := by decide +kernel
theorem dX12_lays_16 : decode cX12_lays 16 = .ok (.if_icmp .ge 16, 3) := by decide +kernel
theorem dX12_lays_19 : decode cX12_lays 19 = .ok (.aload_n 0, 1) := by decide +kernel
theorem dX12_lays_20 : decode cX12_lays 20 = .ok (.getfield 47, 3) := by decide +kernel
theorem dX12_lays_23 : decode cX12_lays 23 = .ok (.iload_n 2, 1) := by decide +kernel
theorem dX12_lays_24 : decode cX12_lays 24 = .ok (.iconst 0, 1) := by decide +kernel
theorem dX12_lays_25 : decode cX12_lays 25 = .ok (.iastore, 1) := by decide +kernel
theorem dX12_lays_26 : decode cX12_lays 26 = .ok (.iinc 2 1, 3) := by decide +kernel
theorem dX12_lays_29 : decode cX12_lays 29 = .ok (.goto (-18), 3) := by decide +kernel
theorem dX12_lays_32 : decode cX12_lays 32 = .ok (.iconst 0, 1) := by decide +kernel
theorem dX12_lays_33 : decode cX12_lays 33 = .ok (.istore_n 2, 1) := by decide +kernel
theorem dX12_lays_34 : decode cX12_lays 34 = .ok (.iload_n 2, 1) := by decide +kernel
theorem dX12_lays_35 : decode cX12_lays 35 = .ok (.aload_n 0, 1) := by decide +kernel
theorem dX12_lays_36 : decode cX12_lays 36 = .ok (.getfield 7, 3) := by decide +kernel
theorem dX12_lays_39 : decode cX12_lays 39 = .ok (.iconst 0, 1) := by decide +kernel
theorem dX12_lays_40 : decode cX12_lays 40 = .ok (.iaload, 1) := by decide +kernel
theorem dX12_lays_41 : decode cX12_lays 41 = .ok (.if_icmp .ge 62, 3) := by decide +kernel
theorem dX12_lays_44 : decode cX12_lays 44 = .ok (.aload_n 0, 1) := by decide +kernel
theorem dX12_lays_45 : decode cX12_lays 45 = .ok (.getfield 253, 3) := by decide +kernel
theorem dX12_lays_48 : decode cX12_lays 48 = .ok (.iconst (-1), 1) := by decide +kernel
theorem dX12_lays_49 : decode cX12_lays 49 = .ok (.if_icmp .eq 54, 3) := by decide +kernel
theorem dX12_lays_52 : decode cX12_lays 52 = .ok (.aload_n 0, 1) := by decide +kernel
theorem dX12_lays_53 : decode cX12_lays 53 = .ok (.iload_n 2, 1) := by decide +kernel
theorem dX12_lays_54 : decode cX12_lays 54 = .ok (.invokevirtual 256, 3) := by decide +kernel
theorem dX12_lays_57 : decode cX12_lays 57 = .ok (.istore_n 3, 1) := by decide +kernel
theorem dX12_lays_58 : decode cX12_lays 58 = .ok (.iload_n 3, 1) := by decide +kernel
theorem dX12_lays_59 : decode cX12_lays 59 = .ok (.aload_n 0, 1) := by decide +kernel
theorem dX12_lays_60 : decode cX12_lays 60 = .ok (.getfield 253, 3) := by decide +kernel
theorem dX12_lays_63 : decode cX12_lays 63 = .ok (.if_icmp .ge 34, 3) := by decide +kernel
theorem dX12_lays_66 : decode cX12_lays 66 = .ok (.iload_n 1, 1) := by decide +kernel
theorem dX12_lays_67 : decode cX12_lays 67 = .ok (.iload_n 2, 1) := by decide +kernel
theorem dX12_lays_68 : decode cX12_lays 68 = .ok (.invokestatic 241, 3) := by decide +kernel
theorem dX12_lays_71 : decode cX12_lays 71 = .ok (.ifCond .eq 26, 3) := by decide +kernel
theorem dX12_lays_74 : decode cX12_lays 74 = .ok (.aload_n 0, 1) := by decide +kernel
theorem dX12_lays_75 : decode cX12_lays 75 = .ok (.getfield 47, 3) := by decide +kernel
theorem dX12_lays_78 : decode cX12_lays 78 = .ok (.iload_n 3, 1) := by decide +kernel
theorem dX12_lays_79 : decode cX12_lays 79 = .ok (.dup2, 1) := by decide +kernel
theorem dX12_lays_80 : decode cX12_lays 80 = .ok (.iaload, 1) := by decide +kernel
theorem dX12_lays_81 : decode cX12_lays 81 = .ok (.iconst 1, 1) := by decide +kernel
theorem dX12_lays_82 : decode cX12_lays 82 = .ok (.iload_n 2, 1) := by decide +kernel
theorem dX12_lays_83 : decode cX12_lays 83 = .ok (.ishl, 1) := by decide +kernel
theorem dX12_lays_84 : decode cX12_lays 84 = .ok (.ior, 1) := by decide +kernel
theorem dX12_lays_85 : decode cX12_lays 85 = .ok (.iastore, 1) := by decide +kernel
theorem dX12_lays_86 : decode cX12_lays 86 = .ok (.iload_n 3, 1) := by decide +kernel
theorem dX12_lays_87 : decode cX12_lays 87 = .ok (.aload_n 0, 1) := by decide +kernel
theorem dX12_lays_88 : decode cX12_lays 88 = .ok (.iload_n 2, 1) := by decide +kernel
theorem dX12_lays_89 : decode cX12_lays 89 = .ok (.invokevirtual 244, 3) := by decide +kernel
theorem dX12_lays_92 : decode cX12_lays 92 = .ok (.iadd, 1) := by decide +kernel
theorem dX12_lays_93 : decode cX12_lays 93 = .ok (.istore_n 3, 1) := by decide +kernel
theorem dX12_lays_94 : decode cX12_lays 94 = .ok (.goto (-36), 3) := by decide +kernel
theorem dX12_lays_97 : decode cX12_lays 97 = .ok (.iinc 2 1, 3) := by decide +kernel
theorem dX12_lays_100 : decode cX12_lays 100 = .ok (.goto (-66), 3) := by decide +kernel
theorem dX12_lays_103 : decode cX12_lays 103 = .ok (.aload_n 0, 1) := by decide +kernel
theorem dX12_lays_104 : decode cX12_lays 104 = .ok (.getfield 253, 3) := by decide +kernel
theorem dX12_lays_107 : decode cX12_lays 107 = .ok (.iconst (-1), 1) := by decide +kernel
theorem dX12_lays_108 : decode cX12_lays 108 = .ok (.if_icmp .eq 7, 3) := by decide +kernel
theorem dX12_lays_111 : decode cX12_lays 111 = .ok (.iconst 1, 1) := by decide +kernel
theorem dX12_lays_112 : decode cX12_lays 112 = .ok (.goto 4, 3) := by decide +kernel
theorem dX12_lays_115 : decode cX12_lays 115 = .ok (.iconst 0, 1) := by decide +kernel
theorem dX12_lays_116 : decode cX12_lays 116 = .ok (.ireturn, 1) := by decide +kernel
noncomputable def Mo_lays_L11 (l1 : Int32) (σ : St) (x2 : Int32) : Option ((Int32 × St) ⊕ St) :=
  if (σ.1 92 23) ≤ x2 then (some (.inr σ)) else (chk (ix x2 5040) (bnd (wI σ 101 (tn x2) 0) (fun σ5 => bnd (x2 + 1) (fun v6 => some (.inl (v6, σ5))))))
set_option maxRecDepth 100000 in
set_option maxHeartbeats 4000000 in
theorem tb_Mo_lays_L11 {V : Ev} {Γ : Cn} {fin : Option Value × St} {l1 : Int32} {σ : St} {x2 : Int32} {o : ((Int32 × St) ⊕ St)} (X : Cx V Γ M_X12_lays) {A : ((Int32 × St) ⊕ St) → Prop}  (hb11 : ∀ (x2 : Int32) (σ9 : St), A (.inl (x2, σ9)) → Go V Γ M_X12_lays (Zm V Γ 3 fin) 11 [(0, .ref (V.2.2.1 + 92)), (1, .int l1), (2, .int x2)] [] σ9) (hx11 : ∀ (σ9 : St), A (.inr σ9) → Go V Γ M_X12_lays (Zm V Γ 3 fin) 32 [(0, .ref (V.2.2.1 + 92)), (1, .int l1)] [] σ9) (h : Mo_lays_L11 l1 σ x2 = some o) (hA : A o) : Go V Γ M_X12_lays (Zm V Γ 3 fin) 11 [(0, .ref (V.2.2.1 + 92)), (1, .int l1), (2, .int x2)] [] σ := by
  unfold Mo_lays_L11 at h
  refine g_iload_n (pc := 11) X 2 rfl dX12_lays_11 ?_
  refine g_aload_n (pc := 12) X 0 rfl dX12_lays_12 ?_
  refine g_getI (pc := 13) X k_fl_X12_253 s_92 rfl dX12_lays_13 ?_
  refine g_icmp_ge (pc := 16) (tgt := 32) X dX12_lays_16 rfl (fun c7 => ?_) (fun c7 => ?_)
  · replace h := if_t c7 h
    refine g_sub [0, 1] rfl ?_
    cases h
    exact hx11 _ hA
  · replace h := if_f c7 h
    refine g_aload_n (pc := 19) X 0 rfl dX12_lays_19 ?_
    refine g_getR (r := 101) (pc := 20) X k_fl_X12_47 s_92 rfl dX12_lays_20 ?_
    refine g_iload_n (pc := 23) X 2 rfl dX12_lays_23 ?_
    refine g_iconst (v := 0) (pc := 24) X rfl dX12_lays_24 ?_
    obtain ⟨c4, h⟩ := chk_e h
    refine g_iast (pc := 25) X s_101 c4 dX12_lays_25 ?_
    obtain ⟨σ5, e_σ5, h⟩ := bnd_e h
    refine g_nmS e_σ5 ?_
    obtain ⟨v6, e_v6, h⟩ := bnd_e h
    refine g_iinc (pc := 26) (v := v6) X [(2, .int v6), (0, .ref (V.2.2.1 + 92)), (1, .int l1)] 2 rfl (by rw [e_v6]; rfl) (Nat.le_of_ble_eq_true rfl) rfl dX12_lays_26 ?_
    refine g_goto (pc := 29) (tgt := 11) X dX12_lays_29 rfl ?_
    refine g_sub [1, 2, 0] rfl ?_
    cases h
    exact hb11 _ _ hA
set_option maxRecDepth 100000 in
theorem tl_Mo_lays_L11 {V : Ev} {Γ : Cn} {fin : Option Value × St} {l1 : Int32} {x2 : Int32} {σ9 : St} (X : Cx V Γ M_X12_lays)  {σ8 : St} {n : Nat} (h : iter (fun s : (Int32 × St) => Mo_lays_L11 l1 s.2 s.1) n (x2, σ9) = some σ8) (hK : Go V Γ M_X12_lays (Zm V Γ 3 fin) 32 [(0, .ref (V.2.2.1 + 92)), (1, .int l1)] [] σ8) : Go V Γ M_X12_lays (Zm V Γ 3 fin) 11 [(0, .ref (V.2.2.1 + 92)), (1, .int l1), (2, .int x2)] [] σ9 := by
  refine iter_go (G := (fun s : (Int32 × St) => Go V Γ M_X12_lays (Zm V Γ 3 fin) 11 [(0, .ref (V.2.2.1 + 92)), (1, .int l1), (2, .int s.1)] [] s.2)) (fun s o ho hS => ?_) n (x2, σ9) h
  exact tb_Mo_lays_L11 X  (fun _ _ h9 => h9) (fun _ he => by cases he; exact hK) ho hS
noncomputable def Mo_lays_L58 (l1 : Int32) (l2 : Int32) (σ : St) (x3 : Int32) : Option ((Int32 × St) ⊕ St) :=
  if (σ.1 92 23) ≤ x3 then (some (.inr σ)) else (bd (Mo_isIn l1 l2) (fun r14 => if r14 = 0 then (some (.inr σ)) else (chk (ix x3 5040) (chk (ix x3 5040) (bnd (wI σ 101 (tn x3) ((σ.1 101 (tn x3)) ||| (1 <<< (l2 &&& 31)))) (fun σ17 => bd (Mo_modulusOf σ17 l2) (fun r19 => bnd ((x3 + r19)) (fun v20 => some (.inl (v20, σ17))))))))))
set_option maxRecDepth 100000 in
set_option maxHeartbeats 4000000 in
theorem tb_Mo_lays_L58 {V : Ev} {Γ : Cn} {fin : Option Value × St} {l1 : Int32} {l2 : Int32} {σ : St} {x3 : Int32} {o : ((Int32 × St) ⊕ St)} (X : Cx V Γ M_X12_lays) {A : ((Int32 × St) ⊕ St) → Prop}  (hb58 : ∀ (x3 : Int32) (σ9 : St), A (.inl (x3, σ9)) → Go V Γ M_X12_lays (Zm V Γ 3 fin) 58 [(0, .ref (V.2.2.1 + 92)), (1, .int l1), (2, .int l2), (3, .int x3)] [] σ9) (hx58 : ∀ (σ9 : St), A (.inr σ9) → Go V Γ M_X12_lays (Zm V Γ 3 fin) 97 [(0, .ref (V.2.2.1 + 92)), (1, .int l1), (2, .int l2)] [] σ9) (h : Mo_lays_L58 l1 l2 σ x3 = some o) (hA : A o) : Go V Γ M_X12_lays (Zm V Γ 3 fin) 58 [(0, .ref (V.2.2.1 + 92)), (1, .int l1), (2, .int l2), (3, .int x3)] [] σ := by
  unfold Mo_lays_L58 at h
  refine g_iload_n (pc := 58) X 3 rfl dX12_lays_58 ?_
  refine g_aload_n (pc := 59) X 0 rfl dX12_lays_59 ?_
  refine g_getI (pc := 60) X k_fl_X12_253 s_92 rfl dX12_lays_60 ?_
  refine g_icmp_ge (pc := 63) (tgt := 97) X dX12_lays_63 rfl (fun c22 => ?_) (fun c22 => ?_)
  · replace h := if_t c22 h
    refine g_sub [0, 1, 2] rfl ?_
    cases h
    exact hx58 _ hA
  · replace h := if_f c22 h
    refine g_iload_n (pc := 66) X 1 rfl dX12_lays_66 ?_
    refine g_iload_n (pc := 67) X 2 rfl dX12_lays_67 ?_
    obtain ⟨r14, hc13, h⟩ := bd_e h
    refine g_callS (pc := 68) X k_ml_X12_241 (run_Mo_isIn  hc13) rfl (room_ok (Nat.le_of_ble_eq_true rfl) (Nat.le_of_ble_eq_true rfl)) ⟨Nat.le_refl _, Nat.le_refl _⟩ _ rfl (Nat.le_of_ble_eq_true rfl) dX12_lays_68 ?_
    show Go V Γ M_X12_lays (Zm V Γ 3 fin) 71 [(0, .ref (V.2.2.1 + 92)), (1, .int l1), (2, .int l2), (3, .int x3)] [.int r14] σ
    refine g_if_eq (pc := 71) (tgt := 97) X dX12_lays_71 rfl (fun c21 => ?_) (fun c21 => ?_)
    · replace h := if_t c21 h
      refine g_sub [0, 1, 2] rfl ?_
      cases h
      exact hx58 _ hA
    · replace h := if_f c21 h
      refine g_aload_n (pc := 74) X 0 rfl dX12_lays_74 ?_
      refine g_getR (r := 101) (pc := 75) X k_fl_X12_47 s_92 rfl dX12_lays_75 ?_
      refine g_iload_n (pc := 78) X 3 rfl dX12_lays_78 ?_
      refine g_dup2 (pc := 79) X rfl rfl dX12_lays_79 ?_
      obtain ⟨c15, h⟩ := chk_e h
      refine g_iald (pc := 80) X s_101 c15 dX12_lays_80 ?_
      refine g_iconst (v := 1) (pc := 81) X rfl dX12_lays_81 ?_
      refine g_iload_n (pc := 82) X 2 rfl dX12_lays_82 ?_
      refine g_ishl (pc := 83) X dX12_lays_83 ?_
      refine g_ior (pc := 84) X dX12_lays_84 ?_
      obtain ⟨c16, h⟩ := chk_e h
      refine g_iast (pc := 85) X s_101 c16 dX12_lays_85 ?_
      obtain ⟨σ17, e_σ17, h⟩ := bnd_e h
      refine g_nmS e_σ17 ?_
      refine g_iload_n (pc := 86) X 3 rfl dX12_lays_86 ?_
      refine g_aload_n (pc := 87) X 0 rfl dX12_lays_87 ?_
      refine g_iload_n (pc := 88) X 2 rfl dX12_lays_88 ?_
      obtain ⟨r19, hc18, h⟩ := bd_e h
      refine g_callV (pc := 89) X k_ml_X12_244 (run_Mo_modulusOf  hc18) s_92 rfl (room_ok (Nat.le_of_ble_eq_true rfl) (Nat.le_of_ble_eq_true rfl)) ⟨Nat.le_refl _, Nat.le_refl _⟩ _ rfl (Nat.le_of_ble_eq_true rfl) dX12_lays_89 ?_
      show Go V Γ M_X12_lays (Zm V Γ 3 fin) 92 [(0, .ref (V.2.2.1 + 92)), (1, .int l1), (2, .int l2), (3, .int x3)] [.int r19, .int x3] σ17
      refine g_iadd (pc := 92) X dX12_lays_92 ?_
      obtain ⟨v20, e_v20, h⟩ := bnd_e h
      refine g_nmI e_v20 ?_
      refine g_istore_n (pc := 93) X [(3, .int v20), (0, .ref (V.2.2.1 + 92)), (1, .int l1), (2, .int l2)] rfl (Nat.le_of_ble_eq_true rfl) rfl dX12_lays_93 ?_
      refine g_goto (pc := 94) (tgt := 58) X dX12_lays_94 rfl ?_
      refine g_sub [1, 2, 3, 0] rfl ?_
      cases h
      exact hb58 _ _ hA
set_option maxRecDepth 100000 in
theorem tl_Mo_lays_L58 {V : Ev} {Γ : Cn} {fin : Option Value × St} {l1 : Int32} {l2 : Int32} {x3 : Int32} {σ9 : St} (X : Cx V Γ M_X12_lays)  {σ8 : St} {n : Nat} (h : iter (fun s : (Int32 × St) => Mo_lays_L58 l1 l2 s.2 s.1) n (x3, σ9) = some σ8) (hK : Go V Γ M_X12_lays (Zm V Γ 3 fin) 97 [(0, .ref (V.2.2.1 + 92)), (1, .int l1), (2, .int l2)] [] σ8) : Go V Γ M_X12_lays (Zm V Γ 3 fin) 58 [(0, .ref (V.2.2.1 + 92)), (1, .int l1), (2, .int l2), (3, .int x3)] [] σ9 := by
  refine iter_go (G := (fun s : (Int32 × St) => Go V Γ M_X12_lays (Zm V Γ 3 fin) 58 [(0, .ref (V.2.2.1 + 92)), (1, .int l1), (2, .int l2), (3, .int s.1)] [] s.2)) (fun s o ho hS => ?_) n (x3, σ9) h
  exact tb_Mo_lays_L58 X  (fun _ _ h9 => h9) (fun _ he => by cases he; exact hK) ho hS
noncomputable def Mo_lays_L34 (l1 : Int32) (σ : St) (x2 : Int32) : Option ((Int32 × St) ⊕ St) :=
  chk (ix 0 2060) (if (σ.1 93 (tn 0)) ≤ x2 then (some (.inr σ)) else (if (σ.1 92 23) = (-1) then (some (.inr σ)) else (bd (Mo_restOf σ x2) (fun r12 => bd (iter (fun s : (Int32 × St) => Mo_lays_L58 l1 x2 s.2 s.1) FUEL (r12, σ)) (fun σ23 => bnd (x2 + 1) (fun v25 => some (.inl (v25, σ23))))))))
set_option maxRecDepth 100000 in
set_option maxHeartbeats 4000000 in
theorem tb_Mo_lays_L34 {V : Ev} {Γ : Cn} {fin : Option Value × St} {l1 : Int32} {σ : St} {x2 : Int32} {o : ((Int32 × St) ⊕ St)} (X : Cx V Γ M_X12_lays) {A : ((Int32 × St) ⊕ St) → Prop}  (hb34 : ∀ (x2 : Int32) (σ9 : St), A (.inl (x2, σ9)) → Go V Γ M_X12_lays (Zm V Γ 3 fin) 34 [(0, .ref (V.2.2.1 + 92)), (1, .int l1), (2, .int x2)] [] σ9) (hx34 : ∀ (σ9 : St), A (.inr σ9) → Go V Γ M_X12_lays (Zm V Γ 3 fin) 103 [(0, .ref (V.2.2.1 + 92))] [] σ9) (h : Mo_lays_L34 l1 σ x2 = some o) (hA : A o) : Go V Γ M_X12_lays (Zm V Γ 3 fin) 34 [(0, .ref (V.2.2.1 + 92)), (1, .int l1), (2, .int x2)] [] σ := by
  unfold Mo_lays_L34 at h
  refine g_iload_n (pc := 34) X 2 rfl dX12_lays_34 ?_
  refine g_aload_n (pc := 35) X 0 rfl dX12_lays_35 ?_
  refine g_getR (r := 93) (pc := 36) X k_fl_X12_7 s_92 rfl dX12_lays_36 ?_
  refine g_iconst (v := 0) (pc := 39) X rfl dX12_lays_39 ?_
  obtain ⟨c10, h⟩ := chk_e h
  refine g_iald (pc := 40) X s_93 c10 dX12_lays_40 ?_
  refine g_icmp_ge (pc := 41) (tgt := 103) X dX12_lays_41 rfl (fun c27 => ?_) (fun c27 => ?_)
  · replace h := if_t c27 h
    refine g_sub [0] rfl ?_
    cases h
    exact hx34 _ hA
  · replace h := if_f c27 h
    refine g_aload_n (pc := 44) X 0 rfl dX12_lays_44 ?_
    refine g_getI (pc := 45) X k_fl_X12_253 s_92 rfl dX12_lays_45 ?_
    refine g_iconst (v := (-1)) (pc := 48) X rfl dX12_lays_48 ?_
    refine g_icmp_eq (pc := 49) (tgt := 103) X dX12_lays_49 rfl (fun c26 => ?_) (fun c26 => ?_)
    · replace h := if_t c26 h
      refine g_sub [0] rfl ?_
      cases h
      exact hx34 _ hA
    · replace h := if_f c26 h
      refine g_aload_n (pc := 52) X 0 rfl dX12_lays_52 ?_
      refine g_iload_n (pc := 53) X 2 rfl dX12_lays_53 ?_
      obtain ⟨r12, hc11, h⟩ := bd_e h
      refine g_callV (pc := 54) X k_ml_X12_256 (run_Mo_restOf  hc11) s_92 rfl (room_ok (Nat.le_of_ble_eq_true rfl) (Nat.le_of_ble_eq_true rfl)) ⟨Nat.le_refl _, Nat.le_refl _⟩ _ rfl (Nat.le_of_ble_eq_true rfl) dX12_lays_54 ?_
      show Go V Γ M_X12_lays (Zm V Γ 3 fin) 57 [(0, .ref (V.2.2.1 + 92)), (1, .int l1), (2, .int x2)] [.int r12] σ
      refine g_istore_n (pc := 57) X [(3, .int r12), (0, .ref (V.2.2.1 + 92)), (1, .int l1), (2, .int x2)] rfl (Nat.le_of_ble_eq_true rfl) rfl dX12_lays_57 ?_
      refine g_sub [1, 2, 3, 0] rfl ?_
      obtain ⟨σ23, hi24, h⟩ := bd_e h
      refine tl_Mo_lays_L58 X  hi24 ?_
      obtain ⟨v25, e_v25, h⟩ := bnd_e h
      refine g_iinc (pc := 97) (v := v25) X [(2, .int v25), (0, .ref (V.2.2.1 + 92)), (1, .int l1)] 2 rfl (by rw [e_v25]; rfl) (Nat.le_of_ble_eq_true rfl) rfl dX12_lays_97 ?_
      refine g_goto (pc := 100) (tgt := 34) X dX12_lays_100 rfl ?_
      refine g_sub [1, 2, 0] rfl ?_
      cases h
      exact hb34 _ _ hA
set_option maxRecDepth 100000 in
theorem tl_Mo_lays_L34 {V : Ev} {Γ : Cn} {fin : Option Value × St} {l1 : Int32} {x2 : Int32} {σ9 : St} (X : Cx V Γ M_X12_lays)  {σ8 : St} {n : Nat} (h : iter (fun s : (Int32 × St) => Mo_lays_L34 l1 s.2 s.1) n (x2, σ9) = some σ8) (hK : Go V Γ M_X12_lays (Zm V Γ 3 fin) 103 [(0, .ref (V.2.2.1 + 92))] [] σ8) : Go V Γ M_X12_lays (Zm V Γ 3 fin) 34 [(0, .ref (V.2.2.1 + 92)), (1, .int l1), (2, .int x2)] [] σ9 := by
  refine iter_go (G := (fun s : (Int32 × St) => Go V Γ M_X12_lays (Zm V Γ 3 fin) 34 [(0, .ref (V.2.2.1 + 92)), (1, .int l1), (2, .int s.1)] [] s.2)) (fun s o ho hS => ?_) n (x2, σ9) h
  exact tb_Mo_lays_L34 X  (fun _ _ h9 => h9) (fun _ he => by cases he; exact hK) ho hS
noncomputable def Mo_lays (σ : St) (p1 : Int32) : Option (Int32 × St) :=
  bd (Mo_spanOf σ p1) (fun r2 => bnd (wI σ 92 23 r2) (fun σ3 => bd (iter (fun s : (Int32 × St) => Mo_lays_L11 p1 s.2 s.1) FUEL (0, σ3)) (fun σ8 => bd (iter (fun s : (Int32 × St) => Mo_lays_L34 p1 s.2 s.1) FUEL (0, σ8)) (fun σ28 => if (σ28.1 92 23) = (-1) then (some (0, σ28)) else (some (1, σ28))))))
set_option maxRecDepth 100000 in
set_option maxHeartbeats 4000000 in
theorem tm_Mo_lays {V : Ev} {Γ : Cn} {fin : Option Value × St} {σ : St} {p1 : Int32} {o : (Int32 × St)} (X : Cx V Γ M_X12_lays) {A : (Int32 × St) → Prop}  (hr : ∀ (r : Int32) (σ9 : St), A (r, σ9) → (some (.int r), σ9) = fin) (h : Mo_lays σ p1 = some o) (hA : A o) : Go V Γ M_X12_lays (Zm V Γ 3 fin) 0 [(0, .ref (V.2.2.1 + 92)), (1, .int p1)] [] σ := by
  unfold Mo_lays at h
  refine g_aload_n (pc := 0) X 0 rfl dX12_lays_0 ?_
  refine g_aload_n (pc := 1) X 0 rfl dX12_lays_1 ?_
  refine g_iload_n (pc := 2) X 1 rfl dX12_lays_2 ?_
  obtain ⟨r2, hc1, h⟩ := bd_e h
  refine g_callV (pc := 3) X k_ml_X12_250 (run_Mo_spanOf  hc1) s_92 rfl (room_ok (Nat.le_of_ble_eq_true rfl) (Nat.le_of_ble_eq_true rfl)) ⟨Nat.le_refl _, Nat.le_refl _⟩ _ rfl (Nat.le_of_ble_eq_true rfl) dX12_lays_3 ?_
  show Go V Γ M_X12_lays (Zm V Γ 3 fin) 6 [(0, .ref (V.2.2.1 + 92)), (1, .int p1)] [.int r2, .ref (V.2.2.1 + 92)] σ
  refine g_putI (pc := 6) X k_fl_X12_253 s_92 rfl rfl rfl dX12_lays_6 ?_
  obtain ⟨σ3, e_σ3, h⟩ := bnd_e h
  refine g_nmS e_σ3 ?_
  refine g_iconst (v := 0) (pc := 9) X rfl dX12_lays_9 ?_
  refine g_istore_n (pc := 10) X [(2, .int 0), (0, .ref (V.2.2.1 + 92)), (1, .int p1)] rfl (Nat.le_of_ble_eq_true rfl) rfl dX12_lays_10 ?_
  refine g_sub [1, 2, 0] rfl ?_
  obtain ⟨σ8, hi9, h⟩ := bd_e h
  refine tl_Mo_lays_L11 X  hi9 ?_
  refine g_iconst (v := 0) (pc := 32) X rfl dX12_lays_32 ?_
  refine g_istore_n (pc := 33) X [(2, .int 0), (0, .ref (V.2.2.1 + 92)), (1, .int p1)] rfl (Nat.le_of_ble_eq_true rfl) rfl dX12_lays_33 ?_
  refine g_sub [1, 2, 0] rfl ?_
  obtain ⟨σ28, hi29, h⟩ := bd_e h
  refine tl_Mo_lays_L34 X  hi29 ?_
  refine g_aload_n (pc := 103) X 0 rfl dX12_lays_103 ?_
  refine g_getI (pc := 104) X k_fl_X12_253 s_92 rfl dX12_lays_104 ?_
  refine g_iconst (v := (-1)) (pc := 107) X rfl dX12_lays_107 ?_
  refine g_icmp_eq (pc := 108) (tgt := 115) X dX12_lays_108 rfl (fun c30 => ?_) (fun c30 => ?_)
  · replace h := if_t c30 h
    refine g_iconst (v := 0) (pc := 115) X rfl dX12_lays_115 ?_
    cases h
    exact g_iret (pc := 116) X rfl nz0.1 (hr _ _ hA) dX12_lays_116
  · replace h := if_f c30 h
    refine g_iconst (v := 1) (pc := 111) X rfl dX12_lays_111 ?_
    refine g_goto (pc := 112) (tgt := 116) X dX12_lays_112 rfl ?_
    cases h
    exact g_iret (pc := 116) X rfl nz1.1 (hr _ _ hA) dX12_lays_116
set_option maxRecDepth 100000 in
theorem run_Mo_lays {V : Ev} {σ : St} {p1 : Int32} {o : (Int32 × St)}   (h : Mo_lays σ p1 = some o) : Rs V 3 M_X12_lays [.ref (V.2.2.1 + 92), .int p1] σ (some (.int o.1), o.2) := by
  refine Rs.of (by decide +kernel) (Nat.le_of_ble_eq_true rfl) (fun Γ X => ?_)
  exact tm_Mo_lays X (A := fun o1 => o1 = o)  (fun _ _ e => by rw [← e]) h rfl
theorem dX12_laysNow_0 : decode cX12_laysNow 0 = .ok (.aload_n 0, 1) := by decide +kernel
theorem dX12_laysNow_1 : decode cX12_laysNow 1 = .ok (.aload_n 0, 1) := by decide +kernel
theorem dX12_laysNow_2 : decode cX12_laysNow 2 = .ok (.invokevirtual 259, 3) := by decide +kernel
theorem dX12_laysNow_5 : decode cX12_laysNow 5 = .ok (.invokevirtual 262, 3) := by decide +kernel
theorem dX12_laysNow_8 : decode cX12_laysNow 8 = .ok (.ireturn, 1) := by decide +kernel
noncomputable def Mo_laysNow (σ : St) : Option (Int32 × St) :=
  bd (Mo_onSet σ) (fun r2 => bd2 (Mo_lays σ r2) (fun r4 σ5 => chk (ckz r4) (some (r4, σ5))))
set_option maxRecDepth 100000 in
set_option maxHeartbeats 4000000 in
theorem tm_Mo_laysNow {V : Ev} {Γ : Cn} {fin : Option Value × St} {σ : St} {o : (Int32 × St)} (X : Cx V Γ M_X12_laysNow) {A : (Int32 × St) → Prop}  (hr : ∀ (r : Int32) (σ9 : St), A (r, σ9) → (some (.int r), σ9) = fin) (h : Mo_laysNow σ = some o) (hA : A o) : Go V Γ M_X12_laysNow (Zm V Γ 4 fin) 0 [(0, .ref (V.2.2.1 + 92))] [] σ := by
  unfold Mo_laysNow at h
  refine g_aload_n (pc := 0) X 0 rfl dX12_laysNow_0 ?_
  refine g_aload_n (pc := 1) X 0 rfl dX12_laysNow_1 ?_
  obtain ⟨r2, hc1, h⟩ := bd_e h
  refine g_callV (pc := 2) X k_ml_X12_259 (run_Mo_onSet  hc1) s_92 rfl (room_ok (Nat.le_of_ble_eq_true rfl) (Nat.le_of_ble_eq_true rfl)) ⟨Nat.le_refl _, Nat.le_refl _⟩ _ rfl (Nat.le_of_ble_eq_true rfl) dX12_laysNow_2 ?_
  show Go V Γ M_X12_laysNow (Zm V Γ 4 fin) 5 [(0, .ref (V.2.2.1 + 92))] [.int r2, .ref (V.2.2.1 + 92)] σ
  obtain ⟨r4, σ5, hc3, h⟩ := bd2_e h
  refine g_callV (pc := 5) X k_ml_X12_262 (run_Mo_lays  hc3) s_92 rfl (room_ok (Nat.le_of_ble_eq_true rfl) (Nat.le_of_ble_eq_true rfl)) ⟨Nat.le_refl _, Nat.le_refl _⟩ _ rfl (Nat.le_of_ble_eq_true rfl) dX12_laysNow_5 ?_
  show Go V Γ M_X12_laysNow (Zm V Γ 4 fin) 8 [(0, .ref (V.2.2.1 + 92))] [.int r4] σ5
  obtain ⟨c6, h⟩ := chk_e h
  cases h
  exact g_iret (pc := 8) X rfl (ckz_e c6).1 (hr _ _ hA) dX12_laysNow_8
set_option maxRecDepth 100000 in
theorem run_Mo_laysNow {V : Ev} {σ : St} {o : (Int32 × St)}   (h : Mo_laysNow σ = some o) : Rs V 4 M_X12_laysNow [.ref (V.2.2.1 + 92)] σ (some (.int o.1), o.2) := by
  refine Rs.of (by decide +kernel) (Nat.le_of_ble_eq_true rfl) (fun Γ X => ?_)
  exact tm_Mo_laysNow X (A := fun o1 => o1 = o)  (fun _ _ e => by rw [← e]) h rfl
theorem dX12_justBy_0 : decode cX12_justBy 0 = .ok (.iconst 0, 1) := by decide +kernel
theorem dX12_justBy_1 : decode cX12_justBy 1 = .ok (.istore_n 2, 1) := by decide +kernel
theorem dX12_justBy_2 : decode cX12_justBy 2 = .ok (.iconst 0, 1) := by decide +kernel
theorem dX12_justBy_3 : decode cX12_justBy 3 = .ok (.istore_n 3, 1) := by decide +kernel
theorem dX12_justBy_4 : decode cX12_justBy 4 = .ok (.iload_n 3, 1) := by decide +kernel
theorem dX12_justBy_5 : decode cX12_justBy 5 = .ok (.aload_n 0, 1) := by decide +kernel
theorem dX12_justBy_6 : decode cX12_justBy 6 = .ok (.getfield 253, 3) := by decide +kernel
theorem dX12_justBy_9 : decode cX12_justBy 9 = .ok (.if_icmp .ge 27, 3) := by decide +kernel
theorem dX12_justBy_12 : decode cX12_justBy 12 = .ok (.iload_n 2, 1) := by decide +kernel
theorem dX12_justBy_13 : decode cX12_justBy 13 = .ok (.aload_n 0, 1) := by decide +kernel
theorem dX12_justBy_14 : decode cX12_justBy 14 = .ok (.getfield 47, 3) := by decide +kernel
theorem dX12_justBy_17 : decode cX12_justBy 17 = .ok (.iload_n 3, 1) := by decide +kernel
theorem dX12_justBy_18 : decode cX12_justBy 18 = .ok (.iaload, 1) := by decide +kernel
theorem dX12_justBy_19 : decode cX12_justBy 19 = .ok (.iload_n 1, 1) := by decide +kernel
theorem dX12_justBy_20 : decode cX12_justBy 20 = .ok (.if_icmp .ne 7, 3) := by decide +kernel
theorem dX12_justBy_23 : decode cX12_justBy 23 = .ok (.iconst 1, 1) := by decide +kernel
theorem dX12_justBy_24 : decode cX12_justBy 24 = .ok (.goto 4, 3) := by decide +kernel
theorem dX12_justBy_27 : decode cX12_justBy 27 = .ok (.iconst 0, 1) := by decide +kernel
theorem dX12_justBy_28 : decode cX12_justBy 28 = .ok (.iadd, 1) := by decide +kernel
theorem dX12_justBy_29 : decode cX12_justBy 29 = .ok (.istore_n 2, 1) := by decide +kernel
theorem dX12_justBy_30 : decode cX12_justBy 30 = .ok (.iinc 3 1, 3) := by decide +kernel
theorem dX12_justBy_33 : decode cX12_justBy 33 = .ok (.goto (-29), 3) := by decide +kernel
theorem dX12_justBy_36 : decode cX12_justBy 36 = .ok (.iload_n 2, 1) := by decide +kernel
theorem dX12_justBy_37 : decode cX12_justBy 37 = .ok (.ireturn, 1) := by decide +kernel
noncomputable def Mo_justBy_L4 (l1 : Int32) (σ : St) (x2 : Int32) (x3 : Int32) : Option ((Int32 × Int32) ⊕ Int32) :=
  if (σ.1 92 23) ≤ x3 then (some (.inr x2)) else (chk (ix x3 5040) (if (σ.1 101 (tn x3)) = l1 then (bnd ((x2 + 1)) (fun v4 => bnd (x3 + 1) (fun v5 => some (.inl (v4, v5))))) else (bnd ((x2 + 0)) (fun v2 => bnd (x3 + 1) (fun v3 => some (.inl (v2, v3)))))))
set_option maxRecDepth 100000 in
set_option maxHeartbeats 4000000 in
theorem tb_Mo_justBy_L4 {V : Ev} {Γ : Cn} {fin : Option Value × St} {l1 : Int32} {σ : St} {x2 : Int32} {x3 : Int32} {o : ((Int32 × Int32) ⊕ Int32)} (X : Cx V Γ M_X12_justBy) {A : ((Int32 × Int32) ⊕ Int32) → Prop}  (hb4 : ∀ (x2 : Int32) (x3 : Int32), A (.inl (x2, x3)) → Go V Γ M_X12_justBy (Zm V Γ 0 fin) 4 [(0, .ref (V.2.2.1 + 92)), (1, .int l1), (2, .int x2), (3, .int x3)] [] σ) (hx4 : ∀ (x2 : Int32), A (.inr x2) → Go V Γ M_X12_justBy (Zm V Γ 0 fin) 36 [(2, .int x2)] [] σ) (h : Mo_justBy_L4 l1 σ x2 x3 = some o) (hA : A o) : Go V Γ M_X12_justBy (Zm V Γ 0 fin) 4 [(0, .ref (V.2.2.1 + 92)), (1, .int l1), (2, .int x2), (3, .int x3)] [] σ := by
  unfold Mo_justBy_L4 at h
  refine g_iload_n (pc := 4) X 3 rfl dX12_justBy_4 ?_
  refine g_aload_n (pc := 5) X 0 rfl dX12_justBy_5 ?_
  refine g_getI (pc := 6) X k_fl_X12_253 s_92 rfl dX12_justBy_6 ?_
  refine g_icmp_ge (pc := 9) (tgt := 36) X dX12_justBy_9 rfl (fun c7 => ?_) (fun c7 => ?_)
  · replace h := if_t c7 h
    refine g_sub [2] rfl ?_
    cases h
    exact hx4 _ hA
  · replace h := if_f c7 h
    refine g_iload_n (pc := 12) X 2 rfl dX12_justBy_12 ?_
    refine g_aload_n (pc := 13) X 0 rfl dX12_justBy_13 ?_
    refine g_getR (r := 101) (pc := 14) X k_fl_X12_47 s_92 rfl dX12_justBy_14 ?_
    refine g_iload_n (pc := 17) X 3 rfl dX12_justBy_17 ?_
    obtain ⟨c1, h⟩ := chk_e h
    refine g_iald (pc := 18) X s_101 c1 dX12_justBy_18 ?_
    refine g_iload_n (pc := 19) X 1 rfl dX12_justBy_19 ?_
    refine g_icmp_ne (pc := 20) (tgt := 27) X dX12_justBy_20 rfl (fun c6 => ?_) (fun c6 => ?_)
    · replace h := if_f c6 h
      refine g_iconst (v := 0) (pc := 27) X rfl dX12_justBy_27 ?_
      refine g_iadd (pc := 28) X dX12_justBy_28 ?_
      obtain ⟨v2, e_v2, h⟩ := bnd_e h
      refine g_nmI e_v2 ?_
      refine g_istore_n (pc := 29) X [(2, .int v2), (0, .ref (V.2.2.1 + 92)), (1, .int l1), (3, .int x3)] rfl (Nat.le_of_ble_eq_true rfl) rfl dX12_justBy_29 ?_
      obtain ⟨v3, e_v3, h⟩ := bnd_e h
      refine g_iinc (pc := 30) (v := v3) X [(3, .int v3), (2, .int v2), (0, .ref (V.2.2.1 + 92)), (1, .int l1)] 3 rfl (by rw [e_v3]; rfl) (Nat.le_of_ble_eq_true rfl) rfl dX12_justBy_30 ?_
      refine g_goto (pc := 33) (tgt := 4) X dX12_justBy_33 rfl ?_
      refine g_sub [2, 3, 1, 0] rfl ?_
      cases h
      exact hb4 _ _ hA
    · replace h := if_t c6 h
      refine g_iconst (v := 1) (pc := 23) X rfl dX12_justBy_23 ?_
      refine g_goto (pc := 24) (tgt := 28) X dX12_justBy_24 rfl ?_
      refine g_iadd (pc := 28) X dX12_justBy_28 ?_
      obtain ⟨v4, e_v4, h⟩ := bnd_e h
      refine g_nmI e_v4 ?_
      refine g_istore_n (pc := 29) X [(2, .int v4), (0, .ref (V.2.2.1 + 92)), (1, .int l1), (3, .int x3)] rfl (Nat.le_of_ble_eq_true rfl) rfl dX12_justBy_29 ?_
      obtain ⟨v5, e_v5, h⟩ := bnd_e h
      refine g_iinc (pc := 30) (v := v5) X [(3, .int v5), (2, .int v4), (0, .ref (V.2.2.1 + 92)), (1, .int l1)] 3 rfl (by rw [e_v5]; rfl) (Nat.le_of_ble_eq_true rfl) rfl dX12_justBy_30 ?_
      refine g_goto (pc := 33) (tgt := 4) X dX12_justBy_33 rfl ?_
      refine g_sub [2, 3, 1, 0] rfl ?_
      cases h
      exact hb4 _ _ hA
set_option maxRecDepth 100000 in
theorem tl_Mo_justBy_L4 {V : Ev} {Γ : Cn} {fin : Option Value × St} {l1 : Int32} {σ : St} {x2 : Int32} {x3 : Int32} (X : Cx V Γ M_X12_justBy)  {y2 : Int32} {n : Nat} (h : iter (fun s : (Int32 × Int32) => Mo_justBy_L4 l1 σ s.1 s.2) n (x2, x3) = some y2) (hK : Go V Γ M_X12_justBy (Zm V Γ 0 fin) 36 [(2, .int y2)] [] σ) : Go V Γ M_X12_justBy (Zm V Γ 0 fin) 4 [(0, .ref (V.2.2.1 + 92)), (1, .int l1), (2, .int x2), (3, .int x3)] [] σ := by
  refine iter_go (G := (fun s : (Int32 × Int32) => Go V Γ M_X12_justBy (Zm V Γ 0 fin) 4 [(0, .ref (V.2.2.1 + 92)), (1, .int l1), (2, .int s.1), (3, .int s.2)] [] σ)) (fun s o ho hS => ?_) n (x2, x3) h
  exact tb_Mo_justBy_L4 X  (fun _ _ h9 => h9) (fun _ he => by cases he; exact hK) ho hS
noncomputable def Mo_justBy (σ : St) (p1 : Int32) : Option Int32 :=
  bd (iter (fun s : (Int32 × Int32) => Mo_justBy_L4 p1 σ s.1 s.2) FUEL (0, 0)) (fun v8 => some v8)
set_option maxRecDepth 100000 in
set_option maxHeartbeats 4000000 in
theorem tm_Mo_justBy {V : Ev} {Γ : Cn} {fin : Option Value × St} {σ : St} {p1 : Int32} {o : Int32} (X : Cx V Γ M_X12_justBy) {A : Int32 → Prop}  (hr : ∀ (r : Int32), A r → (some (.int r), σ) = fin) (h : Mo_justBy σ p1 = some o) (hA : A o) : Go V Γ M_X12_justBy (Zm V Γ 0 fin) 0 [(0, .ref (V.2.2.1 + 92)), (1, .int p1)] [] σ := by
  unfold Mo_justBy at h
  refine g_iconst (v := 0) (pc := 0) X rfl dX12_justBy_0 ?_
  refine g_istore_n (pc := 1) X [(2, .int 0), (0, .ref (V.2.2.1 + 92)), (1, .int p1)] rfl (Nat.le_of_ble_eq_true rfl) rfl dX12_justBy_1 ?_
  refine g_iconst (v := 0) (pc := 2) X rfl dX12_justBy_2 ?_
  refine g_istore_n (pc := 3) X [(3, .int 0), (2, .int 0), (0, .ref (V.2.2.1 + 92)), (1, .int p1)] rfl (Nat.le_of_ble_eq_true rfl) rfl dX12_justBy_3 ?_
  refine g_sub [2, 3, 1, 0] rfl ?_
  obtain ⟨v8, hi9, h⟩ := bd_e h
  refine tl_Mo_justBy_L4 X  hi9 ?_
  refine g_iload_n (pc := 36) X 0 rfl dX12_justBy_36 ?_
  cases h
  exact g_iret (pc := 37) X rfl rfl (hr _ hA) dX12_justBy_37
set_option maxRecDepth 100000 in
theorem run_Mo_justBy {V : Ev} {σ : St} {p1 : Int32} {o : Int32}   (h : Mo_justBy σ p1 = some o) : Rs V 0 M_X12_justBy [.ref (V.2.2.1 + 92), .int p1] σ (some (.int o), σ) := by
  refine Rs.of (by decide +kernel) (Nat.le_of_ble_eq_true rfl) (fun Γ X => ?_)
  exact tm_Mo_justBy X (A := fun o1 => o1 = o)  (fun _ e => by rw [e]) h rfl
theorem dX12_doMeet_0 : decode cX12_doMeet 0 = .ok (.aload_n 0, 1) := by decide +kernel
theorem dX12_doMeet_1 : decode cX12_doMeet 1 = .ok (.iload_n 1, 1) := by decide +kernel
theorem dX12_doMeet_2 : decode cX12_doMeet 2 = .ok (.invokevirtual 256, 3) := by decide +kernel
theorem dX12_doMeet_5 : decode cX12_doMeet 5 = .ok (.aload_n 0, 1) := by decide +kernel
theorem dX12_doMeet_6 : decode cX12_doMeet 6 = .ok (.iload_n 2, 1) := by decide +kernel
theorem dX12_doMeet_7 : decode cX12_doMeet 7 = .ok (.invokevirtual 256, 3) := by decide +kernel
theorem dX12_doMeet_10 : decode cX12_doMeet 10 = .ok (.isub, 1) := by decide +kernel
theorem dX12_doMeet_11 : decode cX12_doMeet 11 = .ok (.aload_n 0, 1) := by decide +kernel
theorem dX12_doMeet_12 : decode cX12_doMeet 12 = .ok (.iload_n 1, 1) := by decide +kernel
theorem dX12_doMeet_13 : decode cX12_doMeet 13 = .ok (.invokevirtual 244, 3) := by decide +kernel
theorem dX12_doMeet_16 : decode cX12_doMeet 16 = .ok (.aload_n 0, 1) := by decide +kernel
theorem dX12_doMeet_17 : decode cX12_doMeet 17 = .ok (.iload_n 2, 1) := by decide +kernel
theorem dX12_doMeet_18 : decode cX12_doMeet 18 = .ok (.invokevirtual 244, 3) := by decide +kernel
theorem dX12_doMeet_21 : decode cX12_doMeet 21 = .ok (.invokestatic 247, 3) := by decide +kernel
theorem dX12_doMeet_24 : decode cX12_doMeet 24 = .ok (.irem, 1) := by decide +kernel
theorem dX12_doMeet_25 : decode cX12_doMeet 25 = .ok (.ifCond .ne 7, 3) := by decide +kernel
theorem dX12_doMeet_28 : decode cX12_doMeet 28 = .ok (.iconst 1, 1) := by decide +kernel
theorem dX12_doMeet_29 : decode cX12_doMeet 29 = .ok (.goto 4, 3) := by decide +kernel
theorem dX12_doMeet_32 : decode cX12_doMeet 32 = .ok (.iconst 0, 1) := by decide +kernel
theorem dX12_doMeet_33 : decode cX12_doMeet 33 = .ok (.ireturn, 1) := by decide +kernel
noncomputable def Mo_doMeet (σ : St) (p1 : Int32) (p2 : Int32) : Option Int32 :=
  bd (Mo_restOf σ p1) (fun r2 => bd (Mo_restOf σ p2) (fun r4 => bd (Mo_modulusOf σ p1) (fun r6 => bd (Mo_modulusOf σ p2) (fun r8 => bd (Mo_common r6 r8) (fun r10 => chk (nzI r10) (if (jrem (r2 - r4) r10) = 0 then (some 1) else (some 0)))))))
set_option maxRecDepth 100000 in
set_option maxHeartbeats 4000000 in
theorem tm_Mo_doMeet {V : Ev} {Γ : Cn} {fin : Option Value × St} {σ : St} {p1 : Int32} {p2 : Int32} {o : Int32} (X : Cx V Γ M_X12_doMeet) {A : Int32 → Prop}  (hr : ∀ (r : Int32), A r → (some (.int r), σ) = fin) (h : Mo_doMeet σ p1 p2 = some o) (hA : A o) : Go V Γ M_X12_doMeet (Zm V Γ 2 fin) 0 [(0, .ref (V.2.2.1 + 92)), (1, .int p1), (2, .int p2)] [] σ := by
  unfold Mo_doMeet at h
  refine g_aload_n (pc := 0) X 0 rfl dX12_doMeet_0 ?_
  refine g_iload_n (pc := 1) X 1 rfl dX12_doMeet_1 ?_
  obtain ⟨r2, hc1, h⟩ := bd_e h
  refine g_callV (pc := 2) X k_ml_X12_256 (run_Mo_restOf  hc1) s_92 rfl (room_ok (Nat.le_of_ble_eq_true rfl) (Nat.le_of_ble_eq_true rfl)) ⟨Nat.le_refl _, Nat.le_refl _⟩ _ rfl (Nat.le_of_ble_eq_true rfl) dX12_doMeet_2 ?_
  show Go V Γ M_X12_doMeet (Zm V Γ 2 fin) 5 [(0, .ref (V.2.2.1 + 92)), (1, .int p1), (2, .int p2)] [.int r2] σ
  refine g_aload_n (pc := 5) X 0 rfl dX12_doMeet_5 ?_
  refine g_iload_n (pc := 6) X 2 rfl dX12_doMeet_6 ?_
  obtain ⟨r4, hc3, h⟩ := bd_e h
  refine g_callV (pc := 7) X k_ml_X12_256 (run_Mo_restOf  hc3) s_92 rfl (room_ok (Nat.le_of_ble_eq_true rfl) (Nat.le_of_ble_eq_true rfl)) ⟨Nat.le_refl _, Nat.le_refl _⟩ _ rfl (Nat.le_of_ble_eq_true rfl) dX12_doMeet_7 ?_
  show Go V Γ M_X12_doMeet (Zm V Γ 2 fin) 10 [(0, .ref (V.2.2.1 + 92)), (1, .int p1), (2, .int p2)] [.int r4, .int r2] σ
  refine g_isub (pc := 10) X dX12_doMeet_10 ?_
  refine g_aload_n (pc := 11) X 0 rfl dX12_doMeet_11 ?_
  refine g_iload_n (pc := 12) X 1 rfl dX12_doMeet_12 ?_
  obtain ⟨r6, hc5, h⟩ := bd_e h
  refine g_callV (pc := 13) X k_ml_X12_244 (run_Mo_modulusOf  hc5) s_92 rfl (room_ok (Nat.le_of_ble_eq_true rfl) (Nat.le_of_ble_eq_true rfl)) ⟨Nat.le_refl _, Nat.le_refl _⟩ _ rfl (Nat.le_of_ble_eq_true rfl) dX12_doMeet_13 ?_
  show Go V Γ M_X12_doMeet (Zm V Γ 2 fin) 16 [(0, .ref (V.2.2.1 + 92)), (1, .int p1), (2, .int p2)] [.int r6, .int (r2 - r4)] σ
  refine g_aload_n (pc := 16) X 0 rfl dX12_doMeet_16 ?_
  refine g_iload_n (pc := 17) X 2 rfl dX12_doMeet_17 ?_
  obtain ⟨r8, hc7, h⟩ := bd_e h
  refine g_callV (pc := 18) X k_ml_X12_244 (run_Mo_modulusOf  hc7) s_92 rfl (room_ok (Nat.le_of_ble_eq_true rfl) (Nat.le_of_ble_eq_true rfl)) ⟨Nat.le_refl _, Nat.le_refl _⟩ _ rfl (Nat.le_of_ble_eq_true rfl) dX12_doMeet_18 ?_
  show Go V Γ M_X12_doMeet (Zm V Γ 2 fin) 21 [(0, .ref (V.2.2.1 + 92)), (1, .int p1), (2, .int p2)] [.int r8, .int r6, .int (r2 - r4)] σ
  obtain ⟨r10, hc9, h⟩ := bd_e h
  refine g_callS (pc := 21) X k_ml_X12_247 (run_Mo_common  hc9) rfl (room_ok (Nat.le_of_ble_eq_true rfl) (Nat.le_of_ble_eq_true rfl)) ⟨Nat.le_refl _, Nat.le_refl _⟩ _ rfl (Nat.le_of_ble_eq_true rfl) dX12_doMeet_21 ?_
  show Go V Γ M_X12_doMeet (Zm V Γ 2 fin) 24 [(0, .ref (V.2.2.1 + 92)), (1, .int p1), (2, .int p2)] [.int r10, .int (r2 - r4)] σ
  obtain ⟨c11, h⟩ := chk_e h
  refine g_irem (pc := 24) X (nzI_e c11) dX12_doMeet_24 ?_
  refine g_if_ne (pc := 25) (tgt := 32) X dX12_doMeet_25 rfl (fun c12 => ?_) (fun c12 => ?_)
  · replace h := if_f c12 h
    refine g_iconst (v := 0) (pc := 32) X rfl dX12_doMeet_32 ?_
    cases h
    exact g_iret (pc := 33) X rfl nz0.1 (hr _ hA) dX12_doMeet_33
  · replace h := if_t c12 h
    refine g_iconst (v := 1) (pc := 28) X rfl dX12_doMeet_28 ?_
    refine g_goto (pc := 29) (tgt := 33) X dX12_doMeet_29 rfl ?_
    cases h
    exact g_iret (pc := 33) X rfl nz1.1 (hr _ hA) dX12_doMeet_33
set_option maxRecDepth 100000 in
theorem run_Mo_doMeet {V : Ev} {σ : St} {p1 : Int32} {p2 : Int32} {o : Int32}   (h : Mo_doMeet σ p1 p2 = some o) : Rs V 2 M_X12_doMeet [.ref (V.2.2.1 + 92), .int p1, .int p2] σ (some (.int o), σ) := by
  refine Rs.of (by decide +kernel) (Nat.le_of_ble_eq_true rfl) (fun Γ X => ?_)
  exact tm_Mo_doMeet X (A := fun o1 => o1 = o)  (fun _ e => by rw [e]) h rfl
theorem dX12_couples_0 : decode cX12_couples 0 = .ok (.iconst 0, 1) := by decide +kernel
theorem dX12_couples_1 : decode cX12_couples 1 = .ok (.istore_n 1, 1) := by decide +kernel
theorem dX12_couples_2 : decode cX12_couples 2 = .ok (.iconst 0, 1) := by decide +kernel
theorem dX12_couples_3 : decode cX12_couples 3 = .ok (.istore_n 2, 1) := by decide +kernel
theorem dX12_couples_4 : decode cX12_couples 4 = .ok (.iload_n 2, 1) := by decide +kernel
theorem dX12_couples_5 : decode cX12_couples 5 = .ok (.aload_n 0, 1) := by decide +kernel
theorem dX12_couples_6 : decode cX12_couples 6 = .ok (.getfield 7, 3) := by decide +kernel
theorem dX12_couples_9 : decode cX12_couples 9 = .ok (.iconst 0, 1) := by decide +kernel
theorem dX12_couples_10 : decode cX12_couples 10 = .ok (.iaload, 1) := by decide +kernel
theorem dX12_couples_11 : decode cX12_couples 11 = .ok (.if_icmp .ge 55, 3) := by decide +kernel
theorem dX12_couples_14 : decode cX12_couples 14 = .ok (.iconst 0, 1) := by decide +kernel
theorem dX12_couples_15 : decode cX12_couples 15 = .ok (.istore_n 3, 1) := by decide +kernel
theorem dX12_couples_16 : decode cX12_couples 16 = .ok (.iload_n 3, 1) := by decide +kernel
theorem dX12_couples_17 : decode cX12_couples 17 = .ok (.iload_n 2, 1) := by decide +kernel
theorem dX12_couples_18 : decode cX12_couples 18 = .ok (.if_icmp .ge 42, 3) := by decide +kernel
theorem dX12_couples_21 : decode cX12_couples 21 = .ok (.iload_n 1, 1) := by decide +kernel
theorem dX12_couples_22 : decode cX12_couples 22 = .ok (.aload_n 0, 1) := by decide +kernel
theorem dX12_couples_23 : decode cX12_couples 23 = .ok (.iload_n 2, 1) := by decide +kernel
theorem dX12_couples_24 : decode cX12_couples 24 = .ok (.invokevirtual 238, 3) := by decide +kernel
theorem dX12_couples_27 : decode cX12_couples 27 = .ok (.ifCond .eq 24, 3) := by decide +kernel
theorem dX12_couples_30 : decode cX12_couples 30 = .ok (.aload_n 0, 1) := by decide +kernel
theorem dX12_couples_31 : decode cX12_couples 31 = .ok (.iload_n 3, 1) := by decide +kernel
theorem dX12_couples_32 : decode cX12_couples 32 = .ok (.invokevirtual 238, 3) := by decide +kernel
theorem dX12_couples_35 : decode cX12_couples 35 = .ok (.ifCond .eq 16, 3) := by decide +kernel
theorem dX12_couples_38 : decode cX12_couples 38 = .ok (.aload_n 0, 1) := by decide +kernel
theorem dX12_couples_39 : decode cX12_couples 39 = .ok (.iload_n 2, 1) := by decide +kernel
theorem dX12_couples_40 : decode cX12_couples 40 = .ok (.iload_n 3, 1) := by decide +kernel
theorem dX12_couples_41 : decode cX12_couples 41 = .ok (.invokevirtual 265, 3) := by decide +kernel
theorem dX12_couples_44 : decode cX12_couples 44 = .ok (.ifCond .eq 7, 3) := by decide +kernel
theorem dX12_couples_47 : decode cX12_couples 47 = .ok (.iconst 1, 1) := by decide +kernel
theorem dX12_couples_48 : decode cX12_couples 48 = .ok (.goto 4, 3) := by decide +kernel
theorem dX12_couples_51 : decode cX12_couples 51 = .ok (.iconst 0, 1) := by decide +kernel
theorem dX12_couples_52 : decode cX12_couples 52 = .ok (.iadd, 1) := by decide +kernel
theorem dX12_couples_53 : decode cX12_couples 53 = .ok (.istore_n 1, 1) := by decide +kernel
theorem dX12_couples_54 : decode cX12_couples 54 = .ok (.iinc 3 1, 3) := by decide +kernel
theorem dX12_couples_57 : decode cX12_couples 57 = .ok (.goto (-41), 3) := by decide +kernel
theorem dX12_couples_60 : decode cX12_couples 60 = .ok (.iinc 2 1, 3) := by decide +kernel
theorem dX12_couples_63 : decode cX12_couples 63 = .ok (.goto (-59), 3) := by decide +kernel
theorem dX12_couples_66 : decode cX12_couples 66 = .ok (.iload_n 1, 1) := by decide +kernel
theorem dX12_couples_67 : decode cX12_couples 67 = .ok (.ireturn, 1) := by decide +kernel
noncomputable def Mo_couples_L16 (l2 : Int32) (σ : St) (x1 : Int32) (x3 : Int32) : Option ((Int32 × Int32) ⊕ Int32) :=
  if l2 ≤ x3 then (some (.inr x1)) else (bd (Mo_isOn σ l2) (fun r3 => if r3 = 0 then (bnd ((x1 + 0)) (fun v4 => bnd (x3 + 1) (fun v5 => some (.inl (v4, v5))))) else (bd (Mo_isOn σ x3) (fun r7 => if r7 = 0 then (bnd ((x1 + 0)) (fun v8 => bnd (x3 + 1) (fun v9 => some (.inl (v8, v9))))) else (bd (Mo_doMeet σ l2 x3) (fun r11 => if r11 = 0 then (bnd ((x1 + 0)) (fun v12 => bnd (x3 + 1) (fun v13 => some (.inl (v12, v13))))) else (bnd ((x1 + 1)) (fun v14 => bnd (x3 + 1) (fun v15 => some (.inl (v14, v15)))))))))))
set_option maxRecDepth 100000 in
set_option maxHeartbeats 4000000 in
theorem tb_Mo_couples_L16 {V : Ev} {Γ : Cn} {fin : Option Value × St} {l2 : Int32} {σ : St} {x1 : Int32} {x3 : Int32} {o : ((Int32 × Int32) ⊕ Int32)} (X : Cx V Γ M_X12_couples) {A : ((Int32 × Int32) ⊕ Int32) → Prop}  (hb16 : ∀ (x1 : Int32) (x3 : Int32), A (.inl (x1, x3)) → Go V Γ M_X12_couples (Zm V Γ 3 fin) 16 [(0, .ref (V.2.2.1 + 92)), (1, .int x1), (2, .int l2), (3, .int x3)] [] σ) (hx16 : ∀ (x1 : Int32), A (.inr x1) → Go V Γ M_X12_couples (Zm V Γ 3 fin) 60 [(0, .ref (V.2.2.1 + 92)), (1, .int x1), (2, .int l2)] [] σ) (h : Mo_couples_L16 l2 σ x1 x3 = some o) (hA : A o) : Go V Γ M_X12_couples (Zm V Γ 3 fin) 16 [(0, .ref (V.2.2.1 + 92)), (1, .int x1), (2, .int l2), (3, .int x3)] [] σ := by
  unfold Mo_couples_L16 at h
  refine g_iload_n (pc := 16) X 3 rfl dX12_couples_16 ?_
  refine g_iload_n (pc := 17) X 2 rfl dX12_couples_17 ?_
  refine g_icmp_ge (pc := 18) (tgt := 60) X dX12_couples_18 rfl (fun c19 => ?_) (fun c19 => ?_)
  · replace h := if_t c19 h
    refine g_sub [0, 1, 2] rfl ?_
    cases h
    exact hx16 _ hA
  · replace h := if_f c19 h
    refine g_iload_n (pc := 21) X 1 rfl dX12_couples_21 ?_
    refine g_aload_n (pc := 22) X 0 rfl dX12_couples_22 ?_
    refine g_iload_n (pc := 23) X 2 rfl dX12_couples_23 ?_
    obtain ⟨r3, hc2, h⟩ := bd_e h
    refine g_callV (pc := 24) X k_ml_X12_238 (run_Mo_isOn  hc2) s_92 rfl (room_ok (Nat.le_of_ble_eq_true rfl) (Nat.le_of_ble_eq_true rfl)) ⟨Nat.le_refl _, Nat.le_refl _⟩ _ rfl (Nat.le_of_ble_eq_true rfl) dX12_couples_24 ?_
    show Go V Γ M_X12_couples (Zm V Γ 3 fin) 27 [(0, .ref (V.2.2.1 + 92)), (1, .int x1), (2, .int l2), (3, .int x3)] [.int r3, .int x1] σ
    refine g_if_eq (pc := 27) (tgt := 51) X dX12_couples_27 rfl (fun c18 => ?_) (fun c18 => ?_)
    · replace h := if_t c18 h
      refine g_iconst (v := 0) (pc := 51) X rfl dX12_couples_51 ?_
      refine g_iadd (pc := 52) X dX12_couples_52 ?_
      obtain ⟨v4, e_v4, h⟩ := bnd_e h
      refine g_nmI e_v4 ?_
      refine g_istore_n (pc := 53) X [(1, .int v4), (0, .ref (V.2.2.1 + 92)), (2, .int l2), (3, .int x3)] rfl (Nat.le_of_ble_eq_true rfl) rfl dX12_couples_53 ?_
      obtain ⟨v5, e_v5, h⟩ := bnd_e h
      refine g_iinc (pc := 54) (v := v5) X [(3, .int v5), (1, .int v4), (0, .ref (V.2.2.1 + 92)), (2, .int l2)] 3 rfl (by rw [e_v5]; rfl) (Nat.le_of_ble_eq_true rfl) rfl dX12_couples_54 ?_
      refine g_goto (pc := 57) (tgt := 16) X dX12_couples_57 rfl ?_
      refine g_sub [2, 1, 3, 0] rfl ?_
      cases h
      exact hb16 _ _ hA
    · replace h := if_f c18 h
      refine g_aload_n (pc := 30) X 0 rfl dX12_couples_30 ?_
      refine g_iload_n (pc := 31) X 3 rfl dX12_couples_31 ?_
      obtain ⟨r7, hc6, h⟩ := bd_e h
      refine g_callV (pc := 32) X k_ml_X12_238 (run_Mo_isOn  hc6) s_92 rfl (room_ok (Nat.le_of_ble_eq_true rfl) (Nat.le_of_ble_eq_true rfl)) ⟨Nat.le_refl _, Nat.le_refl _⟩ _ rfl (Nat.le_of_ble_eq_true rfl) dX12_couples_32 ?_
      show Go V Γ M_X12_couples (Zm V Γ 3 fin) 35 [(0, .ref (V.2.2.1 + 92)), (1, .int x1), (2, .int l2), (3, .int x3)] [.int r7, .int x1] σ
      refine g_if_eq (pc := 35) (tgt := 51) X dX12_couples_35 rfl (fun c17 => ?_) (fun c17 => ?_)
      · replace h := if_t c17 h
        refine g_iconst (v := 0) (pc := 51) X rfl dX12_couples_51 ?_
        refine g_iadd (pc := 52) X dX12_couples_52 ?_
        obtain ⟨v8, e_v8, h⟩ := bnd_e h
        refine g_nmI e_v8 ?_
        refine g_istore_n (pc := 53) X [(1, .int v8), (0, .ref (V.2.2.1 + 92)), (2, .int l2), (3, .int x3)] rfl (Nat.le_of_ble_eq_true rfl) rfl dX12_couples_53 ?_
        obtain ⟨v9, e_v9, h⟩ := bnd_e h
        refine g_iinc (pc := 54) (v := v9) X [(3, .int v9), (1, .int v8), (0, .ref (V.2.2.1 + 92)), (2, .int l2)] 3 rfl (by rw [e_v9]; rfl) (Nat.le_of_ble_eq_true rfl) rfl dX12_couples_54 ?_
        refine g_goto (pc := 57) (tgt := 16) X dX12_couples_57 rfl ?_
        refine g_sub [2, 1, 3, 0] rfl ?_
        cases h
        exact hb16 _ _ hA
      · replace h := if_f c17 h
        refine g_aload_n (pc := 38) X 0 rfl dX12_couples_38 ?_
        refine g_iload_n (pc := 39) X 2 rfl dX12_couples_39 ?_
        refine g_iload_n (pc := 40) X 3 rfl dX12_couples_40 ?_
        obtain ⟨r11, hc10, h⟩ := bd_e h
        refine g_callV (pc := 41) X k_ml_X12_265 (run_Mo_doMeet  hc10) s_92 rfl (room_ok (Nat.le_of_ble_eq_true rfl) (Nat.le_of_ble_eq_true rfl)) ⟨Nat.le_refl _, Nat.le_refl _⟩ _ rfl (Nat.le_of_ble_eq_true rfl) dX12_couples_41 ?_
        show Go V Γ M_X12_couples (Zm V Γ 3 fin) 44 [(0, .ref (V.2.2.1 + 92)), (1, .int x1), (2, .int l2), (3, .int x3)] [.int r11, .int x1] σ
        refine g_if_eq (pc := 44) (tgt := 51) X dX12_couples_44 rfl (fun c16 => ?_) (fun c16 => ?_)
        · replace h := if_t c16 h
          refine g_iconst (v := 0) (pc := 51) X rfl dX12_couples_51 ?_
          refine g_iadd (pc := 52) X dX12_couples_52 ?_
          obtain ⟨v12, e_v12, h⟩ := bnd_e h
          refine g_nmI e_v12 ?_
          refine g_istore_n (pc := 53) X [(1, .int v12), (0, .ref (V.2.2.1 + 92)), (2, .int l2), (3, .int x3)] rfl (Nat.le_of_ble_eq_true rfl) rfl dX12_couples_53 ?_
          obtain ⟨v13, e_v13, h⟩ := bnd_e h
          refine g_iinc (pc := 54) (v := v13) X [(3, .int v13), (1, .int v12), (0, .ref (V.2.2.1 + 92)), (2, .int l2)] 3 rfl (by rw [e_v13]; rfl) (Nat.le_of_ble_eq_true rfl) rfl dX12_couples_54 ?_
          refine g_goto (pc := 57) (tgt := 16) X dX12_couples_57 rfl ?_
          refine g_sub [2, 1, 3, 0] rfl ?_
          cases h
          exact hb16 _ _ hA
        · replace h := if_f c16 h
          refine g_iconst (v := 1) (pc := 47) X rfl dX12_couples_47 ?_
          refine g_goto (pc := 48) (tgt := 52) X dX12_couples_48 rfl ?_
          refine g_iadd (pc := 52) X dX12_couples_52 ?_
          obtain ⟨v14, e_v14, h⟩ := bnd_e h
          refine g_nmI e_v14 ?_
          refine g_istore_n (pc := 53) X [(1, .int v14), (0, .ref (V.2.2.1 + 92)), (2, .int l2), (3, .int x3)] rfl (Nat.le_of_ble_eq_true rfl) rfl dX12_couples_53 ?_
          obtain ⟨v15, e_v15, h⟩ := bnd_e h
          refine g_iinc (pc := 54) (v := v15) X [(3, .int v15), (1, .int v14), (0, .ref (V.2.2.1 + 92)), (2, .int l2)] 3 rfl (by rw [e_v15]; rfl) (Nat.le_of_ble_eq_true rfl) rfl dX12_couples_54 ?_
          refine g_goto (pc := 57) (tgt := 16) X dX12_couples_57 rfl ?_
          refine g_sub [2, 1, 3, 0] rfl ?_
          cases h
          exact hb16 _ _ hA
set_option maxRecDepth 100000 in
theorem tl_Mo_couples_L16 {V : Ev} {Γ : Cn} {fin : Option Value × St} {l2 : Int32} {σ : St} {x1 : Int32} {x3 : Int32} (X : Cx V Γ M_X12_couples)  {y1 : Int32} {n : Nat} (h : iter (fun s : (Int32 × Int32) => Mo_couples_L16 l2 σ s.1 s.2) n (x1, x3) = some y1) (hK : Go V Γ M_X12_couples (Zm V Γ 3 fin) 60 [(0, .ref (V.2.2.1 + 92)), (1, .int y1), (2, .int l2)] [] σ) : Go V Γ M_X12_couples (Zm V Γ 3 fin) 16 [(0, .ref (V.2.2.1 + 92)), (1, .int x1), (2, .int l2), (3, .int x3)] [] σ := by
  refine iter_go (G := (fun s : (Int32 × Int32) => Go V Γ M_X12_couples (Zm V Γ 3 fin) 16 [(0, .ref (V.2.2.1 + 92)), (1, .int s.1), (2, .int l2), (3, .int s.2)] [] σ)) (fun s o ho hS => ?_) n (x1, x3) h
  exact tb_Mo_couples_L16 X  (fun _ _ h9 => h9) (fun _ he => by cases he; exact hK) ho hS
noncomputable def Mo_couples_L4 (σ : St) (x1 : Int32) (x2 : Int32) : Option ((Int32 × Int32) ⊕ Int32) :=
  chk (ix 0 2060) (if (σ.1 93 (tn 0)) ≤ x2 then (some (.inr x1)) else (bd (iter (fun s : (Int32 × Int32) => Mo_couples_L16 x2 σ s.1 s.2) FUEL (x1, 0)) (fun v20 => bnd (x2 + 1) (fun v22 => some (.inl (v20, v22))))))
set_option maxRecDepth 100000 in
set_option maxHeartbeats 4000000 in
theorem tb_Mo_couples_L4 {V : Ev} {Γ : Cn} {fin : Option Value × St} {σ : St} {x1 : Int32} {x2 : Int32} {o : ((Int32 × Int32) ⊕ Int32)} (X : Cx V Γ M_X12_couples) {A : ((Int32 × Int32) ⊕ Int32) → Prop}  (hb4 : ∀ (x1 : Int32) (x2 : Int32), A (.inl (x1, x2)) → Go V Γ M_X12_couples (Zm V Γ 3 fin) 4 [(0, .ref (V.2.2.1 + 92)), (1, .int x1), (2, .int x2)] [] σ) (hx4 : ∀ (x1 : Int32), A (.inr x1) → Go V Γ M_X12_couples (Zm V Γ 3 fin) 66 [(1, .int x1)] [] σ) (h : Mo_couples_L4 σ x1 x2 = some o) (hA : A o) : Go V Γ M_X12_couples (Zm V Γ 3 fin) 4 [(0, .ref (V.2.2.1 + 92)), (1, .int x1), (2, .int x2)] [] σ := by
  unfold Mo_couples_L4 at h
  refine g_iload_n (pc := 4) X 2 rfl dX12_couples_4 ?_
  refine g_aload_n (pc := 5) X 0 rfl dX12_couples_5 ?_
  refine g_getR (r := 93) (pc := 6) X k_fl_X12_7 s_92 rfl dX12_couples_6 ?_
  refine g_iconst (v := 0) (pc := 9) X rfl dX12_couples_9 ?_
  obtain ⟨c1, h⟩ := chk_e h
  refine g_iald (pc := 10) X s_93 c1 dX12_couples_10 ?_
  refine g_icmp_ge (pc := 11) (tgt := 66) X dX12_couples_11 rfl (fun c23 => ?_) (fun c23 => ?_)
  · replace h := if_t c23 h
    refine g_sub [1] rfl ?_
    cases h
    exact hx4 _ hA
  · replace h := if_f c23 h
    refine g_iconst (v := 0) (pc := 14) X rfl dX12_couples_14 ?_
    refine g_istore_n (pc := 15) X [(3, .int 0), (0, .ref (V.2.2.1 + 92)), (1, .int x1), (2, .int x2)] rfl (Nat.le_of_ble_eq_true rfl) rfl dX12_couples_15 ?_
    refine g_sub [1, 2, 3, 0] rfl ?_
    obtain ⟨v20, hi21, h⟩ := bd_e h
    refine tl_Mo_couples_L16 X  hi21 ?_
    obtain ⟨v22, e_v22, h⟩ := bnd_e h
    refine g_iinc (pc := 60) (v := v22) X [(2, .int v22), (0, .ref (V.2.2.1 + 92)), (1, .int v20)] 2 rfl (by rw [e_v22]; rfl) (Nat.le_of_ble_eq_true rfl) rfl dX12_couples_60 ?_
    refine g_goto (pc := 63) (tgt := 4) X dX12_couples_63 rfl ?_
    refine g_sub [1, 2, 0] rfl ?_
    cases h
    exact hb4 _ _ hA
set_option maxRecDepth 100000 in
theorem tl_Mo_couples_L4 {V : Ev} {Γ : Cn} {fin : Option Value × St} {σ : St} {x1 : Int32} {x2 : Int32} (X : Cx V Γ M_X12_couples)  {y1 : Int32} {n : Nat} (h : iter (fun s : (Int32 × Int32) => Mo_couples_L4 σ s.1 s.2) n (x1, x2) = some y1) (hK : Go V Γ M_X12_couples (Zm V Γ 3 fin) 66 [(1, .int y1)] [] σ) : Go V Γ M_X12_couples (Zm V Γ 3 fin) 4 [(0, .ref (V.2.2.1 + 92)), (1, .int x1), (2, .int x2)] [] σ := by
  refine iter_go (G := (fun s : (Int32 × Int32) => Go V Γ M_X12_couples (Zm V Γ 3 fin) 4 [(0, .ref (V.2.2.1 + 92)), (1, .int s.1), (2, .int s.2)] [] σ)) (fun s o ho hS => ?_) n (x1, x2) h
  exact tb_Mo_couples_L4 X  (fun _ _ h9 => h9) (fun _ he => by cases he; exact hK) ho hS
noncomputable def Mo_couples (σ : St) : Option Int32 :=
  bd (iter (fun s : (Int32 × Int32) => Mo_couples_L4 σ s.1 s.2) FUEL (0, 0)) (fun v24 => some v24)
set_option maxRecDepth 100000 in
set_option maxHeartbeats 4000000 in
theorem tm_Mo_couples {V : Ev} {Γ : Cn} {fin : Option Value × St} {σ : St} {o : Int32} (X : Cx V Γ M_X12_couples) {A : Int32 → Prop}  (hr : ∀ (r : Int32), A r → (some (.int r), σ) = fin) (h : Mo_couples σ = some o) (hA : A o) : Go V Γ M_X12_couples (Zm V Γ 3 fin) 0 [(0, .ref (V.2.2.1 + 92))] [] σ := by
  unfold Mo_couples at h
  refine g_iconst (v := 0) (pc := 0) X rfl dX12_couples_0 ?_
  refine g_istore_n (pc := 1) X [(1, .int 0), (0, .ref (V.2.2.1 + 92))] rfl (Nat.le_of_ble_eq_true rfl) rfl dX12_couples_1 ?_
  refine g_iconst (v := 0) (pc := 2) X rfl dX12_couples_2 ?_
  refine g_istore_n (pc := 3) X [(2, .int 0), (1, .int 0), (0, .ref (V.2.2.1 + 92))] rfl (Nat.le_of_ble_eq_true rfl) rfl dX12_couples_3 ?_
  refine g_sub [2, 1, 0] rfl ?_
  obtain ⟨v24, hi25, h⟩ := bd_e h
  refine tl_Mo_couples_L4 X  hi25 ?_
  refine g_iload_n (pc := 66) X 0 rfl dX12_couples_66 ?_
  cases h
  exact g_iret (pc := 67) X rfl rfl (hr _ hA) dX12_couples_67
set_option maxRecDepth 100000 in
theorem run_Mo_couples {V : Ev} {σ : St} {o : Int32}   (h : Mo_couples σ = some o) : Rs V 3 M_X12_couples [.ref (V.2.2.1 + 92)] σ (some (.int o), σ) := by
  refine Rs.of (by decide +kernel) (Nat.le_of_ble_eq_true rfl) (fun Γ X => ?_)
  exact tm_Mo_couples X (A := fun o1 => o1 = o)  (fun _ e => by rw [e]) h rfl
