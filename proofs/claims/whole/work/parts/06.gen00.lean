theorem dX9_holds_0 : decode cX9_holds 0 = .ok (.iload_n 1, 1) := by decide +kernel
theorem dX9_holds_1 : decode cX9_holds 1 = .ok (.ifCond .lt 25, 3) := by decide +kernel
theorem dX9_holds_4 : decode cX9_holds 4 = .ok (.iload_n 2, 1) := by decide +kernel
theorem dX9_holds_5 : decode cX9_holds 5 = .ok (.ifCond .lt 21, 3) := by decide +kernel
theorem dX9_holds_8 : decode cX9_holds 8 = .ok (.iload_n 1, 1) := by decide +kernel
theorem dX9_holds_9 : decode cX9_holds 9 = .ok (.i2l, 1) := by decide +kernel
theorem dX9_holds_10 : decode cX9_holds 10 = .ok (.iload_n 2, 1) := by decide +kernel
theorem dX9_holds_11 : decode cX9_holds 11 = .ok (.i2l, 1) := by decide +kernel
theorem dX9_holds_12 : decode cX9_holds 12 = .ok (.ladd, 1) := by decide +kernel
theorem dX9_holds_13 : decode cX9_holds 13 = .ok (.aload_n 0, 1) := by decide +kernel
theorem dX9_holds_14 : decode cX9_holds 14 = .ok (.getfield 19, 3) := by decide +kernel
theorem dX9_holds_17 : decode cX9_holds 17 = .ok (.i2l, 1) := by decide +kernel
theorem dX9_holds_18 : decode cX9_holds 18 = .ok (.lcmp, 1) := by decide +kernel
theorem dX9_holds_19 : decode cX9_holds 19 = .ok (.ifCond .gt 7, 3) := by decide +kernel
theorem dX9_holds_22 : decode cX9_holds 22 = .ok (.iconst 1, 1) := by decide +kernel
theorem dX9_holds_23 : decode cX9_holds 23 = .ok (.goto 4, 3) := by decide +kernel
theorem dX9_holds_26 : decode cX9_holds 26 = .ok (.iconst 0, 1) := by decide +kernel
theorem dX9_holds_27 : decode cX9_holds 27 = .ok (.ireturn, 1) := by decide +kernel
noncomputable def Ty_holds (σ : St) (a0 : Nat) (p1 : Int32) (p2 : Int32) : Option Int32 :=
  if p1 < 0 then (some 0) else (if p2 < 0 then (some 0) else (if ((σ.1 a0 2).toInt64) < (p1.toInt64 + p2.toInt64) then (some 0) else (some 1)))
set_option maxRecDepth 100000 in
set_option maxHeartbeats 4000000 in
theorem tm_Ty_holds {V : Ev} {Γ : Cn} {fin : Option Value × St} {σ : St} {a0 : Nat} {p1 : Int32} {p2 : Int32} {o : Int32} (X : Cx V Γ M_X9_holds) {A : Int32 → Prop} (k0 : okTy a0) (hr : ∀ (r : Int32), A r → (some (.int r), σ) = fin) (h : Ty_holds σ a0 p1 p2 = some o) (hA : A o) : Go V Γ M_X9_holds (Zm V Γ 0 fin) 0 [(0, .ref (V.2.2.1 + a0)), (1, .int p1), (2, .int p2)] [] σ := by
  unfold Ty_holds at h
  refine g_iload_n (pc := 0) X 1 rfl dX9_holds_0 ?_
  refine g_if_lt (pc := 1) (tgt := 26) X dX9_holds_1 rfl (fun c3 => ?_) (fun c3 => ?_)
  · replace h := if_t c3 h
    refine g_iconst (v := 0) (pc := 26) X rfl dX9_holds_26 ?_
    cases h
    exact g_iret (pc := 27) X rfl nz0.1 (hr _ hA) dX9_holds_27
  · replace h := if_f c3 h
    refine g_iload_n (pc := 4) X 2 rfl dX9_holds_4 ?_
    refine g_if_lt (pc := 5) (tgt := 26) X dX9_holds_5 rfl (fun c2 => ?_) (fun c2 => ?_)
    · replace h := if_t c2 h
      refine g_iconst (v := 0) (pc := 26) X rfl dX9_holds_26 ?_
      cases h
      exact g_iret (pc := 27) X rfl nz0.1 (hr _ hA) dX9_holds_27
    · replace h := if_f c2 h
      refine g_iload_n (pc := 8) X 1 rfl dX9_holds_8 ?_
      refine g_i2l (pc := 9) X dX9_holds_9 ?_
      refine g_iload_n (pc := 10) X 2 rfl dX9_holds_10 ?_
      refine g_i2l (pc := 11) X dX9_holds_11 ?_
      refine g_ladd (pc := 12) X dX9_holds_12 ?_
      refine g_aload_n (pc := 13) X 0 rfl dX9_holds_13 ?_
      refine g_getI (pc := 14) X k_fl_X9_19 (sTy_0 k0) rfl dX9_holds_14 ?_
      refine g_i2l (pc := 17) X dX9_holds_17 ?_
      refine g_lcmp_gt (pc := 18) (tgt := 26) X dX9_holds_18 dX9_holds_19 rfl (fun c1 => ?_) (fun c1 => ?_)
      · replace h := if_t c1 h
        refine g_iconst (v := 0) (pc := 26) X rfl dX9_holds_26 ?_
        cases h
        exact g_iret (pc := 27) X rfl nz0.1 (hr _ hA) dX9_holds_27
      · replace h := if_f c1 h
        refine g_iconst (v := 1) (pc := 22) X rfl dX9_holds_22 ?_
        refine g_goto (pc := 23) (tgt := 27) X dX9_holds_23 rfl ?_
        cases h
        exact g_iret (pc := 27) X rfl nz1.1 (hr _ hA) dX9_holds_27
set_option maxRecDepth 100000 in
theorem run_Ty_holds {V : Ev} {σ : St} {a0 : Nat} {p1 : Int32} {p2 : Int32} {o : Int32} (k0 : okTy a0)  (h : Ty_holds σ a0 p1 p2 = some o) : Rs V 0 M_X9_holds [.ref (V.2.2.1 + a0), .int p1, .int p2] σ (some (.int o), σ) := by
  refine Rs.of (by decide +kernel) (Nat.le_of_ble_eq_true rfl) (fun Γ X => ?_)
  exact tm_Ty_holds X (A := fun o1 => o1 = o) k0 (fun _ e => by rw [e]) h rfl
theorem dX9_at_0 : decode cX9_at 0 = .ok (.aload_n 0, 1) := by decide +kernel
theorem dX9_at_1 : decode cX9_at 1 = .ok (.iload_n 1, 1) := by decide +kernel
theorem dX9_at_2 : decode cX9_at 2 = .ok (.iconst 1, 1) := by decide +kernel
theorem dX9_at_3 : decode cX9_at 3 = .ok (.invokevirtual 28, 3) := by decide +kernel
theorem dX9_at_6 : decode cX9_at 6 = .ok (.ifCond .eq 12, 3) := by decide +kernel
theorem dX9_at_9 : decode cX9_at 9 = .ok (.aload_n 0, 1) := by decide +kernel
theorem dX9_at_10 : decode cX9_at 10 = .ok (.getfield 9, 3) := by decide +kernel
theorem dX9_at_13 : decode cX9_at 13 = .ok (.iload_n 1, 1) := by decide +kernel
theorem dX9_at_14 : decode cX9_at 14 = .ok (.laload, 1) := by decide +kernel
theorem dX9_at_15 : decode cX9_at 15 = .ok (.goto 6, 3) := by decide +kernel
theorem dX9_at_18 : decode cX9_at 18 = .ok (.ldc2_w 32, 3) := by decide +kernel
theorem dX9_at_21 : decode cX9_at 21 = .ok (.lreturn, 1) := by decide +kernel
noncomputable def Ty_at (σ : St) (a0 : Nat) (p1 : Int32) : Option Int64 :=
  bd (Ty_holds σ a0 p1 1) (fun r2 => if r2 = 0 then (some (-1)) else (chk (ix p1 60) (some (σ.2 (a0 + 1) (tn p1)))))
set_option maxRecDepth 100000 in
set_option maxHeartbeats 4000000 in
theorem tm_Ty_at {V : Ev} {Γ : Cn} {fin : Option Value × St} {σ : St} {a0 : Nat} {p1 : Int32} {o : Int64} (X : Cx V Γ M_X9_at) {A : Int64 → Prop} (k0 : okTy a0) (hr : ∀ (r : Int64), A r → (some (.long r), σ) = fin) (h : Ty_at σ a0 p1 = some o) (hA : A o) : Go V Γ M_X9_at (Zm V Γ 1 fin) 0 [(0, .ref (V.2.2.1 + a0)), (1, .int p1)] [] σ := by
  unfold Ty_at at h
  refine g_aload_n (pc := 0) X 0 rfl dX9_at_0 ?_
  refine g_iload_n (pc := 1) X 1 rfl dX9_at_1 ?_
  refine g_iconst (v := 1) (pc := 2) X rfl dX9_at_2 ?_
  obtain ⟨r2, hc1, h⟩ := bd_e h
  refine g_callV (pc := 3) X k_ml_X9_28 (run_Ty_holds k0 hc1) (sTy_0 k0) rfl (room_ok (Nat.le_of_ble_eq_true rfl) (Nat.le_of_ble_eq_true rfl)) ⟨Nat.le_refl _, Nat.le_refl _⟩ _ rfl (Nat.le_of_ble_eq_true rfl) dX9_at_3 ?_
  show Go V Γ M_X9_at (Zm V Γ 1 fin) 6 [(0, .ref (V.2.2.1 + a0)), (1, .int p1)] [.int r2] σ
  refine g_if_eq (pc := 6) (tgt := 18) X dX9_at_6 rfl (fun c4 => ?_) (fun c4 => ?_)
  · replace h := if_t c4 h
    refine g_ldc2 (v := (-1)) (pc := 18) X k_constl_X9_32 dX9_at_18 ?_
    cases h
    exact g_lret (pc := 21) X rfl (hr _ hA) dX9_at_21
  · replace h := if_f c4 h
    refine g_aload_n (pc := 9) X 0 rfl dX9_at_9 ?_
    refine g_getR (r := (a0 + 1)) (pc := 10) X k_fl_X9_9 (sTy_0 k0) rfl dX9_at_10 ?_
    refine g_iload_n (pc := 13) X 1 rfl dX9_at_13 ?_
    obtain ⟨c3, h⟩ := chk_e h
    refine g_lald (pc := 14) X (sTy_1 k0) c3 dX9_at_14 ?_
    refine g_goto (pc := 15) (tgt := 21) X dX9_at_15 rfl ?_
    cases h
    exact g_lret (pc := 21) X rfl (hr _ hA) dX9_at_21
set_option maxRecDepth 100000 in
theorem run_Ty_at {V : Ev} {σ : St} {a0 : Nat} {p1 : Int32} {o : Int64} (k0 : okTy a0)  (h : Ty_at σ a0 p1 = some o) : Rs V 1 M_X9_at [.ref (V.2.2.1 + a0), .int p1] σ (some (.long o), σ) := by
  refine Rs.of (by decide +kernel) (Nat.le_of_ble_eq_true rfl) (fun Γ X => ?_)
  exact tm_Ty_at X (A := fun o1 => o1 = o) k0 (fun _ e => by rw [e]) h rfl
theorem dX11_within_0 : decode cX11_within 0 = .ok (.lload_n 0, 1) := by decide +kernel
theorem dX11_within_1 : decode cX11_within 1 = .ok (.lload_n 2, 1) := by decide +kernel
theorem dX11_within_2 : decode cX11_within 2 = .ok (.lcmp, 1) := by decide +kernel
theorem dX11_within_3 : decode cX11_within 3 = .ok (.ifCond .lt 14, 3) := by decide +kernel
theorem dX11_within_6 : decode cX11_within 6 = .ok (.lload_n 0, 1) := by decide +kernel
theorem dX11_within_7 : decode cX11_within 7 = .ok (.lload 4, 2) := by decide +kernel
theorem dX11_within_9 : decode cX11_within 9 = .ok (.lcmp, 1) := by decide +kernel
theorem dX11_within_10 : decode cX11_within 10 = .ok (.ifCond .gt 7, 3) := by decide +kernel
theorem dX11_within_13 : decode cX11_within 13 = .ok (.iconst 1, 1) := by decide +kernel
theorem dX11_within_14 : decode cX11_within 14 = .ok (.goto 4, 3) := by decide +kernel
theorem dX11_within_17 : decode cX11_within 17 = .ok (.iconst 0, 1) := by decide +kernel
theorem dX11_within_18 : decode cX11_within 18 = .ok (.ireturn, 1) := by decide +kernel
noncomputable def RC_within (p0 : Int64) (p1 : Int64) (p2 : Int64) : Option Int32 :=
  if p0 < p1 then (some 0) else (if p2 < p0 then (some 0) else (some 1))
set_option maxRecDepth 100000 in
set_option maxHeartbeats 4000000 in
theorem tm_RC_within {V : Ev} {Γ : Cn} {fin : Option Value × St} {σ : St} {p0 : Int64} {p1 : Int64} {p2 : Int64} {o : Int32} (X : Cx V Γ M_X11_within) {A : Int32 → Prop}  (hr : ∀ (r : Int32), A r → (some (.int r), σ) = fin) (h : RC_within p0 p1 p2 = some o) (hA : A o) : Go V Γ M_X11_within (Zm V Γ 0 fin) 0 [(0, .long p0), (2, .long p1), (4, .long p2)] [] σ := by
  unfold RC_within at h
  refine g_lload_n (pc := 0) X 0 rfl dX11_within_0 ?_
  refine g_lload_n (pc := 1) X 1 rfl dX11_within_1 ?_
  refine g_lcmp_lt (pc := 2) (tgt := 17) X dX11_within_2 dX11_within_3 rfl (fun c2 => ?_) (fun c2 => ?_)
  · replace h := if_t c2 h
    refine g_iconst (v := 0) (pc := 17) X rfl dX11_within_17 ?_
    cases h
    exact g_iret (pc := 18) X rfl nz0.1 (hr _ hA) dX11_within_18
  · replace h := if_f c2 h
    refine g_lload_n (pc := 6) X 0 rfl dX11_within_6 ?_
    refine g_lload (pc := 7) X 2 rfl dX11_within_7 ?_
    refine g_lcmp_gt (pc := 9) (tgt := 17) X dX11_within_9 dX11_within_10 rfl (fun c1 => ?_) (fun c1 => ?_)
    · replace h := if_t c1 h
      refine g_iconst (v := 0) (pc := 17) X rfl dX11_within_17 ?_
      cases h
      exact g_iret (pc := 18) X rfl nz0.1 (hr _ hA) dX11_within_18
    · replace h := if_f c1 h
      refine g_iconst (v := 1) (pc := 13) X rfl dX11_within_13 ?_
      refine g_goto (pc := 14) (tgt := 18) X dX11_within_14 rfl ?_
      cases h
      exact g_iret (pc := 18) X rfl nz1.1 (hr _ hA) dX11_within_18
set_option maxRecDepth 100000 in
theorem run_RC_within {V : Ev} {σ : St} {p0 : Int64} {p1 : Int64} {p2 : Int64} {o : Int32}   (h : RC_within p0 p1 p2 = some o) : Rs V 0 M_X11_within [.long p0, .long p1, .long p2] σ (some (.int o), σ) := by
  refine Rs.of (by decide +kernel) (Nat.le_of_ble_eq_true rfl) (fun Γ X => ?_)
  exact tm_RC_within X (A := fun o1 => o1 = o)  (fun _ e => by rw [e]) h rfl
theorem dX0_takeModuli_0 : decode cX0_takeModuli 0 = .ok (.iconst 0, 1) := by decide +kernel
theorem dX0_takeModuli_1 : decode cX0_takeModuli 1 = .ok (.istore_n 3, 1) := by decide +kernel
theorem dX0_takeModuli_2 : decode cX0_takeModuli 2 = .ok (.iload_n 3, 1) := by decide +kernel
theorem dX0_takeModuli_3 : decode cX0_takeModuli 3 = .ok (.iload_n 2, 1) := by decide +kernel
theorem dX0_takeModuli_4 : decode cX0_takeModuli 4 = .ok (.if_icmp .ge 45, 3) := by decide +kernel
theorem dX0_takeModuli_7 : decode cX0_takeModuli 7 = .ok (.iload_n 3, 1) := by decide +kernel
theorem dX0_takeModuli_8 : decode cX0_takeModuli 8 = .ok (.bipush 6, 2) := by decide +kernel
theorem dX0_takeModuli_10 : decode cX0_takeModuli 10 = .ok (.if_icmp .ge 39, 3) := by decide +kernel
theorem dX0_takeModuli_13 : decode cX0_takeModuli 13 = .ok (.aload_n 1, 1) := by decide +kernel
theorem dX0_takeModuli_14 : decode cX0_takeModuli 14 = .ok (.iload_n 3, 1) := by decide +kernel
theorem dX0_takeModuli_15 : decode cX0_takeModuli 15 = .ok (.invokevirtual 33, 3) := by decide +kernel
theorem dX0_takeModuli_18 : decode cX0_takeModuli 18 = .ok (.lstore 4, 2) := by decide +kernel
theorem dX0_takeModuli_20 : decode cX0_takeModuli 20 = .ok (.lload 4, 2) := by decide +kernel
theorem dX0_takeModuli_22 : decode cX0_takeModuli 22 = .ok (.lconst 1, 1) := by decide +kernel
theorem dX0_takeModuli_23 : decode cX0_takeModuli 23 = .ok (.ldc2_w 39, 3) := by decide +kernel
theorem dX0_takeModuli_26 : decode cX0_takeModuli 26 = .ok (.invokestatic 41, 3) := by decide +kernel
theorem dX0_takeModuli_29 : decode cX0_takeModuli 29 = .ok (.ifCond .ne 5, 3) := by decide +kernel
theorem dX0_takeModuli_32 : decode cX0_takeModuli 32 = .ok (.iconst 0, 1) := by decide +kernel
theorem dX0_takeModuli_33 : decode cX0_takeModuli 33 = .ok (.ireturn, 1) := by decide +kernel
theorem dX0_takeModuli_34 : decode cX0_takeModuli 34 = .ok (.aload_n 0, 1) := by decide +kernel
theorem dX0_takeModuli_35 : decode cX0_takeModuli 35 = .ok (.getfield 9, 3) := by decide +kernel
theorem dX0_takeModuli_38 : decode cX0_takeModuli 38 = .ok (.iload_n 3, 1) := by decide +kernel
theorem dX0_takeModuli_39 : decode cX0_takeModuli 39 = .ok (.lload 4, 2) := by decide +kernel
theorem dX0_takeModuli_41 : decode cX0_takeModuli 41 = .ok (.l2i, 1) := by decide +kernel
theorem dX0_takeModuli_42 : decode cX0_takeModuli 42 = .ok (.iastore, 1) := by decide +kernel
theorem dX0_takeModuli_43 : decode cX0_takeModuli 43 = .ok (.iinc 3 1, 3) := by decide +kernel
theorem dX0_takeModuli_46 : decode cX0_takeModuli 46 = .ok (.goto (-44), 3) := by decide +kernel
theorem dX0_takeModuli_49 : decode cX0_takeModuli 49 = .ok (.aload_n 0, 1) := by decide +kernel
theorem dX0_takeModuli_50 : decode cX0_takeModuli 50 = .ok (.iload_n 2, 1) := by decide +kernel
theorem dX0_takeModuli_51 : decode cX0_takeModuli 51 = .ok (.bipush 6, 2) := by decide +kernel
theorem dX0_takeModuli_53 : decode cX0_takeModuli 53 = .ok (.invokestatic 45, 3) := by decide +kernel
theorem dX0_takeModuli_56 : decode cX0_takeModuli 56 = .ok (.putfield 23, 3) := by decide +kernel
theorem dX0_takeModuli_59 : decode cX0_takeModuli 59 = .ok (.iconst 1, 1) := by decide +kernel
theorem dX0_takeModuli_60 : decode cX0_takeModuli 60 = .ok (.ireturn, 1) := by decide +kernel
noncomputable def Ch_takeModuli_L2 (l1 : Nat) (l2 : Int32) (σ : St) (x3 : Int32) : Option ((Int32 × St) ⊕ (Int32 × St)) :=
  if l2 ≤ x3 then (bnd (wI σ 36 3 (jmin l2 6)) (fun σ1 => some (.inr (1, σ1)))) else (if 6 ≤ x3 then (bnd (wI σ 36 3 (jmin l2 6)) (fun σ2 => some (.inr (1, σ2)))) else (bd (Ty_at σ l1 x3) (fun r4 => bd (RC_within r4 1 60) (fun r6 => if r6 = 0 then (some (.inr (0, σ))) else (chk (ix x3 6) (bnd (wI σ 37 (tn x3) r4.toInt32) (fun σ8 => bnd (x3 + 1) (fun v9 => some (.inl (v9, σ8))))))))))
set_option maxRecDepth 100000 in
set_option maxHeartbeats 4000000 in
theorem tb_Ch_takeModuli_L2 {V : Ev} {Γ : Cn} {fin : Option Value × St} {l1 : Nat} {l2 : Int32} {σ : St} {x3 : Int32} {o : ((Int32 × St) ⊕ (Int32 × St))} (X : Cx V Γ M_X0_takeModuli) {A : ((Int32 × St) ⊕ (Int32 × St)) → Prop} (k_l1 : okTy l1) (hr : ∀ (r : Int32) (σ9 : St), A (.inr (r, σ9)) → (some (.int r), σ9) = fin) (hb2 : ∀ (x3 : Int32) (σ9 : St), A (.inl (x3, σ9)) → Go V Γ M_X0_takeModuli (Zm V Γ 2 fin) 2 [(0, .ref (V.2.2.1 + 36)), (1, .ref (V.2.2.1 + l1)), (2, .int l2), (3, .int x3)] [] σ9) (h : Ch_takeModuli_L2 l1 l2 σ x3 = some o) (hA : A o) : Go V Γ M_X0_takeModuli (Zm V Γ 2 fin) 2 [(0, .ref (V.2.2.1 + 36)), (1, .ref (V.2.2.1 + l1)), (2, .int l2), (3, .int x3)] [] σ := by
  unfold Ch_takeModuli_L2 at h
  refine g_iload_n (pc := 2) X 3 rfl dX0_takeModuli_2 ?_
  refine g_iload_n (pc := 3) X 2 rfl dX0_takeModuli_3 ?_
  refine g_icmp_ge (pc := 4) (tgt := 49) X dX0_takeModuli_4 rfl (fun c12 => ?_) (fun c12 => ?_)
  · replace h := if_t c12 h
    refine g_aload_n (pc := 49) X 0 rfl dX0_takeModuli_49 ?_
    refine g_iload_n (pc := 50) X 2 rfl dX0_takeModuli_50 ?_
    refine g_bipush (v := 6) (pc := 51) X (by decide) dX0_takeModuli_51 ?_
    refine g_min (pc := 53) X k_ml_X0_45 (Nat.le_of_ble_eq_true rfl) (Nat.le_of_ble_eq_true rfl) (Nat.le_refl _) (Nat.le_refl _) dX0_takeModuli_53 ?_
    refine g_putI (pc := 56) X k_fl_X0_23 s_36 rfl rfl rfl dX0_takeModuli_56 ?_
    obtain ⟨σ1, e_σ1, h⟩ := bnd_e h
    refine g_nmS e_σ1 ?_
    refine g_iconst (v := 1) (pc := 59) X rfl dX0_takeModuli_59 ?_
    cases h
    exact g_iret (pc := 60) X rfl nz1.1 (hr _ _ hA) dX0_takeModuli_60
  · replace h := if_f c12 h
    refine g_iload_n (pc := 7) X 3 rfl dX0_takeModuli_7 ?_
    refine g_bipush (v := 6) (pc := 8) X (by decide) dX0_takeModuli_8 ?_
    refine g_icmp_ge (pc := 10) (tgt := 49) X dX0_takeModuli_10 rfl (fun c11 => ?_) (fun c11 => ?_)
    · replace h := if_t c11 h
      refine g_aload_n (pc := 49) X 0 rfl dX0_takeModuli_49 ?_
      refine g_iload_n (pc := 50) X 2 rfl dX0_takeModuli_50 ?_
      refine g_bipush (v := 6) (pc := 51) X (by decide) dX0_takeModuli_51 ?_
      refine g_min (pc := 53) X k_ml_X0_45 (Nat.le_of_ble_eq_true rfl) (Nat.le_of_ble_eq_true rfl) (Nat.le_refl _) (Nat.le_refl _) dX0_takeModuli_53 ?_
      refine g_putI (pc := 56) X k_fl_X0_23 s_36 rfl rfl rfl dX0_takeModuli_56 ?_
      obtain ⟨σ2, e_σ2, h⟩ := bnd_e h
      refine g_nmS e_σ2 ?_
      refine g_iconst (v := 1) (pc := 59) X rfl dX0_takeModuli_59 ?_
      cases h
      exact g_iret (pc := 60) X rfl nz1.1 (hr _ _ hA) dX0_takeModuli_60
    · replace h := if_f c11 h
      refine g_aload_n (pc := 13) X 1 rfl dX0_takeModuli_13 ?_
      refine g_iload_n (pc := 14) X 3 rfl dX0_takeModuli_14 ?_
      obtain ⟨r4, hc3, h⟩ := bd_e h
      refine g_callV (pc := 15) X k_ml_X0_33 (run_Ty_at k_l1 hc3) (sTy_0 k_l1) rfl (room_ok (Nat.le_of_ble_eq_true rfl) (Nat.le_of_ble_eq_true rfl)) ⟨Nat.le_refl _, Nat.le_refl _⟩ _ rfl (Nat.le_of_ble_eq_true rfl) dX0_takeModuli_15 ?_
      show Go V Γ M_X0_takeModuli (Zm V Γ 2 fin) 18 [(0, .ref (V.2.2.1 + 36)), (1, .ref (V.2.2.1 + l1)), (2, .int l2), (3, .int x3)] [.long r4] σ
      refine g_lstore (pc := 18) X [(4, .long r4), (0, .ref (V.2.2.1 + 36)), (1, .ref (V.2.2.1 + l1)), (2, .int l2), (3, .int x3)] (Nat.le_of_ble_eq_true rfl) rfl dX0_takeModuli_18 ?_
      refine g_lload (pc := 20) X 0 rfl dX0_takeModuli_20 ?_
      refine g_lconst (v := 1) (pc := 22) X rfl dX0_takeModuli_22 ?_
      refine g_ldc2 (v := 60) (pc := 23) X k_constl_X0_39 dX0_takeModuli_23 ?_
      obtain ⟨r6, hc5, h⟩ := bd_e h
      refine g_callS (pc := 26) X k_ml_X0_41 (run_RC_within  hc5) rfl (room_ok (Nat.le_of_ble_eq_true rfl) (Nat.le_of_ble_eq_true rfl)) ⟨Nat.le_refl _, Nat.le_refl _⟩ _ rfl (Nat.le_of_ble_eq_true rfl) dX0_takeModuli_26 ?_
      show Go V Γ M_X0_takeModuli (Zm V Γ 2 fin) 29 [(4, .long r4), (0, .ref (V.2.2.1 + 36)), (1, .ref (V.2.2.1 + l1)), (2, .int l2), (3, .int x3)] [.int r6] σ
      refine g_if_ne (pc := 29) (tgt := 34) X dX0_takeModuli_29 rfl (fun c10 => ?_) (fun c10 => ?_)
      · replace h := if_f c10 h
        refine g_aload_n (pc := 34) X 1 rfl dX0_takeModuli_34 ?_
        refine g_getR (r := 37) (pc := 35) X k_fl_X0_9 s_36 rfl dX0_takeModuli_35 ?_
        refine g_iload_n (pc := 38) X 4 rfl dX0_takeModuli_38 ?_
        refine g_lload (pc := 39) X 0 rfl dX0_takeModuli_39 ?_
        refine g_l2i (pc := 41) X dX0_takeModuli_41 ?_
        obtain ⟨c7, h⟩ := chk_e h
        refine g_iast (pc := 42) X s_37 c7 dX0_takeModuli_42 ?_
        obtain ⟨σ8, e_σ8, h⟩ := bnd_e h
        refine g_nmS e_σ8 ?_
        obtain ⟨v9, e_v9, h⟩ := bnd_e h
        refine g_iinc (pc := 43) (v := v9) X [(3, .int v9), (4, .long r4), (0, .ref (V.2.2.1 + 36)), (1, .ref (V.2.2.1 + l1)), (2, .int l2)] 4 rfl (by rw [e_v9]; rfl) (Nat.le_of_ble_eq_true rfl) rfl dX0_takeModuli_43 ?_
        refine g_goto (pc := 46) (tgt := 2) X dX0_takeModuli_46 rfl ?_
        refine g_sub [2, 3, 4, 0] rfl ?_
        cases h
        exact hb2 _ _ hA
      · replace h := if_t c10 h
        refine g_iconst (v := 0) (pc := 32) X rfl dX0_takeModuli_32 ?_
        cases h
        exact g_iret (pc := 33) X rfl nz0.1 (hr _ _ hA) dX0_takeModuli_33
set_option maxRecDepth 100000 in
theorem tl_Ch_takeModuli_L2 {V : Ev} {Γ : Cn} {fin : Option Value × St} {l1 : Nat} {l2 : Int32} {x3 : Int32} {σ9 : St} (X : Cx V Γ M_X0_takeModuli) (k_l1 : okTy l1) {e : (Int32 × St)} {A : (Int32 × St) → Prop} (hr : ∀ (r : Int32) (σ9 : St), A (r, σ9) → (some (.int r), σ9) = fin) {n : Nat} (h : iter (fun s : (Int32 × St) => Ch_takeModuli_L2 l1 l2 s.2 s.1) n (x3, σ9) = some e) (hA : A e) : Go V Γ M_X0_takeModuli (Zm V Γ 2 fin) 2 [(0, .ref (V.2.2.1 + 36)), (1, .ref (V.2.2.1 + l1)), (2, .int l2), (3, .int x3)] [] σ9 := by
  refine iter_go (G := (fun s : (Int32 × St) => Go V Γ M_X0_takeModuli (Zm V Γ 2 fin) 2 [(0, .ref (V.2.2.1 + 36)), (1, .ref (V.2.2.1 + l1)), (2, .int l2), (3, .int s.1)] [] s.2)) (fun s o ho hS => ?_) n (x3, σ9) h
  exact tb_Ch_takeModuli_L2 X k_l1 (fun z0 z1 he => hr z0 z1 (by rw [he]; exact hA)) (fun _ _ h9 => h9) ho hS
noncomputable def Ch_takeModuli (σ : St) (a1 : Nat) (p2 : Int32) : Option (Int32 × St) :=
  iter (fun s : (Int32 × St) => Ch_takeModuli_L2 a1 p2 s.2 s.1) FUEL (0, σ)
set_option maxRecDepth 100000 in
set_option maxHeartbeats 4000000 in
theorem tm_Ch_takeModuli {V : Ev} {Γ : Cn} {fin : Option Value × St} {σ : St} {a1 : Nat} {p2 : Int32} {o : (Int32 × St)} (X : Cx V Γ M_X0_takeModuli) {A : (Int32 × St) → Prop} (k1 : okTy a1) (hr : ∀ (r : Int32) (σ9 : St), A (r, σ9) → (some (.int r), σ9) = fin) (h : Ch_takeModuli σ a1 p2 = some o) (hA : A o) : Go V Γ M_X0_takeModuli (Zm V Γ 2 fin) 0 [(0, .ref (V.2.2.1 + 36)), (1, .ref (V.2.2.1 + a1)), (2, .int p2)] [] σ := by
  unfold Ch_takeModuli at h
  refine g_iconst (v := 0) (pc := 0) X rfl dX0_takeModuli_0 ?_
  refine g_istore_n (pc := 1) X [(3, .int 0), (0, .ref (V.2.2.1 + 36)), (1, .ref (V.2.2.1 + a1)), (2, .int p2)] rfl (Nat.le_of_ble_eq_true rfl) rfl dX0_takeModuli_1 ?_
  refine g_sub [1, 2, 3, 0] rfl ?_
  exact tl_Ch_takeModuli_L2 X k1 hr h hA
set_option maxRecDepth 100000 in
theorem run_Ch_takeModuli {V : Ev} {σ : St} {a1 : Nat} {p2 : Int32} {o : (Int32 × St)} (k1 : okTy a1)  (h : Ch_takeModuli σ a1 p2 = some o) : Rs V 2 M_X0_takeModuli [.ref (V.2.2.1 + 36), .ref (V.2.2.1 + a1), .int p2] σ (some (.int o.1), o.2) := by
  refine Rs.of (by decide +kernel) (Nat.le_of_ble_eq_true rfl) (fun Γ X => ?_)
  exact tm_Ch_takeModuli X (A := fun o1 => o1 = o) k1 (fun _ _ e => by rw [← e]) h rfl
theorem dX0_product_0 : decode cX0_product 0 = .ok (.lconst 1, 1) := by decide +kernel
theorem dX0_product_1 : decode cX0_product 1 = .ok (.lstore_n 1, 1) := by decide +kernel
theorem dX0_product_2 : decode cX0_product 2 = .ok (.iconst 0, 1) := by decide +kernel
theorem dX0_product_3 : decode cX0_product 3 = .ok (.istore_n 3, 1) := by decide +kernel
theorem dX0_product_4 : decode cX0_product 4 = .ok (.iload_n 3, 1) := by decide +kernel
theorem dX0_product_5 : decode cX0_product 5 = .ok (.aload_n 0, 1) := by decide +kernel
theorem dX0_product_6 : decode cX0_product 6 = .ok (.getfield 23, 3) := by decide +kernel
theorem dX0_product_9 : decode cX0_product 9 = .ok (.if_icmp .ge 19, 3) := by decide +kernel
theorem dX0_product_12 : decode cX0_product 12 = .ok (.lload_n 1, 1) := by decide +kernel
theorem dX0_product_13 : decode cX0_product 13 = .ok (.aload_n 0, 1) := by decide +kernel
theorem dX0_product_14 : decode cX0_product 14 = .ok (.getfield 9, 3) := by decide +kernel
theorem dX0_product_17 : decode cX0_product 17 = .ok (.iload_n 3, 1) := by decide +kernel
theorem dX0_product_18 : decode cX0_product 18 = .ok (.iaload, 1) := by decide +kernel
theorem dX0_product_19 : decode cX0_product 19 = .ok (.i2l, 1) := by decide +kernel
theorem dX0_product_20 : decode cX0_product 20 = .ok (.lmul, 1) := by decide +kernel
theorem dX0_product_21 : decode cX0_product 21 = .ok (.lstore_n 1, 1) := by decide +kernel
theorem dX0_product_22 : decode cX0_product 22 = .ok (.iinc 3 1, 3) := by decide +kernel
theorem dX0_product_25 : decode cX0_product 25 = .ok (.goto (-21), 3) := by decide +kernel
theorem dX0_product_28 : decode cX0_product 28 = .ok (.lload_n 1, 1) := by decide +kernel
theorem dX0_product_29 : decode cX0_product 29 = .ok (.lreturn, 1) := by decide +kernel
noncomputable def Ch_product_L4 (σ : St) (x1 : Int64) (x3 : Int32) : Option ((Int64 × Int32) ⊕ Int64) :=
  if (σ.1 36 3) ≤ x3 then (some (.inr x1)) else (chk (ix x3 6) (bnd ((x1 * ((σ.1 37 (tn x3)).toInt64))) (fun v2 => bnd (x3 + 1) (fun v3 => some (.inl (v2, v3))))))
set_option maxRecDepth 100000 in
set_option maxHeartbeats 4000000 in
theorem tb_Ch_product_L4 {V : Ev} {Γ : Cn} {fin : Option Value × St} {σ : St} {x1 : Int64} {x3 : Int32} {o : ((Int64 × Int32) ⊕ Int64)} (X : Cx V Γ M_X0_product) {A : ((Int64 × Int32) ⊕ Int64) → Prop}  (hb4 : ∀ (x1 : Int64) (x3 : Int32), A (.inl (x1, x3)) → Go V Γ M_X0_product (Zm V Γ 0 fin) 4 [(0, .ref (V.2.2.1 + 36)), (1, .long x1), (3, .int x3)] [] σ) (hx4 : ∀ (x1 : Int64), A (.inr x1) → Go V Γ M_X0_product (Zm V Γ 0 fin) 28 [(1, .long x1)] [] σ) (h : Ch_product_L4 σ x1 x3 = some o) (hA : A o) : Go V Γ M_X0_product (Zm V Γ 0 fin) 4 [(0, .ref (V.2.2.1 + 36)), (1, .long x1), (3, .int x3)] [] σ := by
  unfold Ch_product_L4 at h
  refine g_iload_n (pc := 4) X 2 rfl dX0_product_4 ?_
  refine g_aload_n (pc := 5) X 0 rfl dX0_product_5 ?_
  refine g_getI (pc := 6) X k_fl_X0_23 s_36 rfl dX0_product_6 ?_
  refine g_icmp_ge (pc := 9) (tgt := 28) X dX0_product_9 rfl (fun c4 => ?_) (fun c4 => ?_)
  · replace h := if_t c4 h
    refine g_sub [1] rfl ?_
    cases h
    exact hx4 _ hA
  · replace h := if_f c4 h
    refine g_lload_n (pc := 12) X 1 rfl dX0_product_12 ?_
    refine g_aload_n (pc := 13) X 0 rfl dX0_product_13 ?_
    refine g_getR (r := 37) (pc := 14) X k_fl_X0_9 s_36 rfl dX0_product_14 ?_
    refine g_iload_n (pc := 17) X 2 rfl dX0_product_17 ?_
    obtain ⟨c1, h⟩ := chk_e h
    refine g_iald (pc := 18) X s_37 c1 dX0_product_18 ?_
    refine g_i2l (pc := 19) X dX0_product_19 ?_
    refine g_lmul (pc := 20) X dX0_product_20 ?_
    obtain ⟨v2, e_v2, h⟩ := bnd_e h
    refine g_nmL e_v2 ?_
    refine g_lstore_n (pc := 21) X [(1, .long v2), (0, .ref (V.2.2.1 + 36)), (3, .int x3)] rfl (Nat.le_of_ble_eq_true rfl) rfl dX0_product_21 ?_
    obtain ⟨v3, e_v3, h⟩ := bnd_e h
    refine g_iinc (pc := 22) (v := v3) X [(3, .int v3), (1, .long v2), (0, .ref (V.2.2.1 + 36))] 2 rfl (by rw [e_v3]; rfl) (Nat.le_of_ble_eq_true rfl) rfl dX0_product_22 ?_
    refine g_goto (pc := 25) (tgt := 4) X dX0_product_25 rfl ?_
    refine g_sub [2, 1, 0] rfl ?_
    cases h
    exact hb4 _ _ hA
set_option maxRecDepth 100000 in
theorem tl_Ch_product_L4 {V : Ev} {Γ : Cn} {fin : Option Value × St} {σ : St} {x1 : Int64} {x3 : Int32} (X : Cx V Γ M_X0_product)  {y1 : Int64} {n : Nat} (h : iter (fun s : (Int64 × Int32) => Ch_product_L4 σ s.1 s.2) n (x1, x3) = some y1) (hK : Go V Γ M_X0_product (Zm V Γ 0 fin) 28 [(1, .long y1)] [] σ) : Go V Γ M_X0_product (Zm V Γ 0 fin) 4 [(0, .ref (V.2.2.1 + 36)), (1, .long x1), (3, .int x3)] [] σ := by
  refine iter_go (G := (fun s : (Int64 × Int32) => Go V Γ M_X0_product (Zm V Γ 0 fin) 4 [(0, .ref (V.2.2.1 + 36)), (1, .long s.1), (3, .int s.2)] [] σ)) (fun s o ho hS => ?_) n (x1, x3) h
  exact tb_Ch_product_L4 X  (fun _ _ h9 => h9) (fun _ he => by cases he; exact hK) ho hS
noncomputable def Ch_product (σ : St) : Option Int64 :=
  bd (iter (fun s : (Int64 × Int32) => Ch_product_L4 σ s.1 s.2) FUEL (1, 0)) (fun v5 => some v5)
set_option maxRecDepth 100000 in
set_option maxHeartbeats 4000000 in
theorem tm_Ch_product {V : Ev} {Γ : Cn} {fin : Option Value × St} {σ : St} {o : Int64} (X : Cx V Γ M_X0_product) {A : Int64 → Prop}  (hr : ∀ (r : Int64), A r → (some (.long r), σ) = fin) (h : Ch_product σ = some o) (hA : A o) : Go V Γ M_X0_product (Zm V Γ 0 fin) 0 [(0, .ref (V.2.2.1 + 36))] [] σ := by
  unfold Ch_product at h
  refine g_lconst (v := 1) (pc := 0) X rfl dX0_product_0 ?_
  refine g_lstore_n (pc := 1) X [(1, .long 1), (0, .ref (V.2.2.1 + 36))] rfl (Nat.le_of_ble_eq_true rfl) rfl dX0_product_1 ?_
  refine g_iconst (v := 0) (pc := 2) X rfl dX0_product_2 ?_
  refine g_istore_n (pc := 3) X [(3, .int 0), (1, .long 1), (0, .ref (V.2.2.1 + 36))] rfl (Nat.le_of_ble_eq_true rfl) rfl dX0_product_3 ?_
  refine g_sub [2, 1, 0] rfl ?_
  obtain ⟨v5, hi6, h⟩ := bd_e h
  refine tl_Ch_product_L4 X  hi6 ?_
  refine g_lload_n (pc := 28) X 0 rfl dX0_product_28 ?_
  cases h
  exact g_lret (pc := 29) X rfl (hr _ hA) dX0_product_29
set_option maxRecDepth 100000 in
theorem run_Ch_product {V : Ev} {σ : St} {o : Int64}   (h : Ch_product σ = some o) : Rs V 0 M_X0_product [.ref (V.2.2.1 + 36)] σ (some (.long o), σ) := by
  refine Rs.of (by decide +kernel) (Nat.le_of_ble_eq_true rfl) (fun Γ X => ?_)
  exact tm_Ch_product X (A := fun o1 => o1 = o)  (fun _ e => by rw [e]) h rfl
theorem dX11_commonDivisor_0 : decode cX11_commonDivisor 0 = .ok (.lload_n 0, 1) := by decide +kernel
theorem dX11_commonDivisor_1 : decode cX11_commonDivisor 1 = .ok (.lstore 4, 2) := by decide +kernel
theorem dX11_commonDivisor_3 : decode cX11_commonDivisor 3 = .ok (.lload_n 2, 1) := by decide +kernel
theorem dX11_commonDivisor_4 : decode cX11_commonDivisor 4 = .ok (.lstore 6, 2) := by decide +kernel
theorem dX11_commonDivisor_6 : decode cX11_commonDivisor 6 = .ok (.iconst 0, 1) := by decide +kernel
theorem dX11_commonDivisor_7 : decode cX11_commonDivisor 7 = .ok (.istore 8, 2) := by decide +kernel
theorem dX11_commonDivisor_9 : decode cX11_commonDivisor 9 = .ok (.iload 8, 2) := by decide +kernel
theorem dX11_commonDivisor_11 : decode cX11_commonDivisor 11 = .ok (.bipush 100, 2) := by decide +kernel
theorem dX11_commonDivisor_13 : decode cX11_commonDivisor 13 = .ok (.if_icmp .ge 31, 3) := by decide +kernel
theorem dX11_commonDivisor_16 : decode cX11_commonDivisor 16 = .ok (.lload 6, 2) := by decide +kernel
theorem dX11_commonDivisor_18 : decode cX11_commonDivisor 18 = .ok (.lconst 0, 1) := by decide +kernel
theorem dX11_commonDivisor_19 : decode cX11_commonDivisor 19 = .ok (.lcmp, 1) := by decide +kernel
theorem dX11_commonDivisor_20 : decode cX11_commonDivisor 20 = .ok (.ifCond .le 24, 3) := by decide +kernel
theorem dX11_commonDivisor_23 : decode cX11_commonDivisor 23 = .ok (.lload 4, 2) := by decide +kernel
theorem dX11_commonDivisor_25 : decode cX11_commonDivisor 25 = .ok (.lload 6, 2) := by decide +kernel
theorem dX11_commonDivisor_27 : decode cX11_commonDivisor 27 = .ok (.lrem, 1) := by decide +kernel
theorem dX11_commonDivisor_28 : decode cX11_commonDivisor 28 = .ok (.lstore 9, 2) := by decide +kernel
theorem dX11_commonDivisor_30 : decode cX11_commonDivisor 30 = .ok (.lload 6, 2) := by decide +kernel
theorem dX11_commonDivisor_32 : decode cX11_commonDivisor 32 = .ok (.lstore 4, 2) := by decide +kernel
theorem dX11_commonDivisor_34 : decode cX11_commonDivisor 34 = .ok (.lload 9, 2) := by decide +kernel
theorem dX11_commonDivisor_36 : decode cX11_commonDivisor 36 = .ok (.lstore 6, 2) := by decide +kernel
theorem dX11_commonDivisor_38 : decode cX11_commonDivisor 38 = .ok (.iinc 8 1, 3) := by decide +kernel
theorem dX11_commonDivisor_41 : decode cX11_commonDivisor 41 = .ok (.goto (-32), 3) := by decide +kernel
theorem dX11_commonDivisor_44 : decode cX11_commonDivisor 44 = .ok (.lload 4, 2) := by decide +kernel
theorem dX11_commonDivisor_46 : decode cX11_commonDivisor 46 = .ok (.lreturn, 1) := by decide +kernel
noncomputable def RC_commonDivisor_L9 (x4 : Int64) (x6 : Int64) (x8 : Int32) : Option ((Int64 × Int64 × Int32) ⊕ Int64) :=
  if 100 ≤ x8 then (some (.inr x4)) else (if x6 ≤ 0 then (some (.inr x4)) else (chk (nzL x6) (bnd ((jreml x4 x6)) (fun v2 => bnd (x8 + 1) (fun v3 => some (.inl (x6, v2, v3)))))))
set_option maxRecDepth 100000 in
set_option maxHeartbeats 4000000 in
theorem tb_RC_commonDivisor_L9 {V : Ev} {Γ : Cn} {fin : Option Value × St} {σ : St} {x4 : Int64} {x6 : Int64} {x8 : Int32} {o : ((Int64 × Int64 × Int32) ⊕ Int64)} (X : Cx V Γ M_X11_commonDivisor) {A : ((Int64 × Int64 × Int32) ⊕ Int64) → Prop}  (hb9 : ∀ (x4 : Int64) (x6 : Int64) (x8 : Int32), A (.inl (x4, x6, x8)) → Go V Γ M_X11_commonDivisor (Zm V Γ 0 fin) 9 [(4, .long x4), (6, .long x6), (8, .int x8)] [] σ) (hx9 : ∀ (x4 : Int64), A (.inr x4) → Go V Γ M_X11_commonDivisor (Zm V Γ 0 fin) 44 [(4, .long x4)] [] σ) (h : RC_commonDivisor_L9 x4 x6 x8 = some o) (hA : A o) : Go V Γ M_X11_commonDivisor (Zm V Γ 0 fin) 9 [(4, .long x4), (6, .long x6), (8, .int x8)] [] σ := by
  unfold RC_commonDivisor_L9 at h
  refine g_iload (pc := 9) X 2 rfl dX11_commonDivisor_9 ?_
  refine g_bipush (v := 100) (pc := 11) X (by decide) dX11_commonDivisor_11 ?_
  refine g_icmp_ge (pc := 13) (tgt := 44) X dX11_commonDivisor_13 rfl (fun c5 => ?_) (fun c5 => ?_)
  · replace h := if_t c5 h
    refine g_sub [0] rfl ?_
    cases h
    exact hx9 _ hA
  · replace h := if_f c5 h
    refine g_lload (pc := 16) X 1 rfl dX11_commonDivisor_16 ?_
    refine g_lconst (v := 0) (pc := 18) X rfl dX11_commonDivisor_18 ?_
    refine g_lcmp_le (pc := 19) (tgt := 44) X dX11_commonDivisor_19 dX11_commonDivisor_20 rfl (fun c4 => ?_) (fun c4 => ?_)
    · replace h := if_t c4 h
      refine g_sub [0] rfl ?_
      cases h
      exact hx9 _ hA
    · replace h := if_f c4 h
      refine g_lload (pc := 23) X 0 rfl dX11_commonDivisor_23 ?_
      refine g_lload (pc := 25) X 1 rfl dX11_commonDivisor_25 ?_
      obtain ⟨c1, h⟩ := chk_e h
      refine g_lrem (pc := 27) X (nzL_e c1) dX11_commonDivisor_27 ?_
      obtain ⟨v2, e_v2, h⟩ := bnd_e h
      refine g_nmL e_v2 ?_
      refine g_lstore (pc := 28) X [(9, .long v2), (4, .long x4), (6, .long x6), (8, .int x8)] (Nat.le_of_ble_eq_true rfl) rfl dX11_commonDivisor_28 ?_
      refine g_lload (pc := 30) X 2 rfl dX11_commonDivisor_30 ?_
      refine g_lstore (pc := 32) X [(4, .long x6), (9, .long v2), (6, .long x6), (8, .int x8)] (Nat.le_of_ble_eq_true rfl) rfl dX11_commonDivisor_32 ?_
      refine g_lload (pc := 34) X 1 rfl dX11_commonDivisor_34 ?_
      refine g_lstore (pc := 36) X [(6, .long v2), (4, .long x6), (9, .long v2), (8, .int x8)] (Nat.le_of_ble_eq_true rfl) rfl dX11_commonDivisor_36 ?_
      obtain ⟨v3, e_v3, h⟩ := bnd_e h
      refine g_iinc (pc := 38) (v := v3) X [(8, .int v3), (6, .long v2), (4, .long x6), (9, .long v2)] 3 rfl (by rw [e_v3]; rfl) (Nat.le_of_ble_eq_true rfl) rfl dX11_commonDivisor_38 ?_
      refine g_goto (pc := 41) (tgt := 9) X dX11_commonDivisor_41 rfl ?_
      refine g_sub [2, 1, 0] rfl ?_
      cases h
      exact hb9 _ _ _ hA
set_option maxRecDepth 100000 in
theorem tl_RC_commonDivisor_L9 {V : Ev} {Γ : Cn} {fin : Option Value × St} {σ : St} {x4 : Int64} {x6 : Int64} {x8 : Int32} (X : Cx V Γ M_X11_commonDivisor)  {y4 : Int64} {n : Nat} (h : iter (fun s : (Int64 × Int64 × Int32) => RC_commonDivisor_L9 s.1 s.2.1 s.2.2) n (x4, x6, x8) = some y4) (hK : Go V Γ M_X11_commonDivisor (Zm V Γ 0 fin) 44 [(4, .long y4)] [] σ) : Go V Γ M_X11_commonDivisor (Zm V Γ 0 fin) 9 [(4, .long x4), (6, .long x6), (8, .int x8)] [] σ := by
  refine iter_go (G := (fun s : (Int64 × Int64 × Int32) => Go V Γ M_X11_commonDivisor (Zm V Γ 0 fin) 9 [(4, .long s.1), (6, .long s.2.1), (8, .int s.2.2)] [] σ)) (fun s o ho hS => ?_) n (x4, x6, x8) h
  exact tb_RC_commonDivisor_L9 X  (fun _ _ _ h9 => h9) (fun _ he => by cases he; exact hK) ho hS
noncomputable def RC_commonDivisor (p0 : Int64) (p1 : Int64) : Option Int64 :=
  bd (iter (fun s : (Int64 × Int64 × Int32) => RC_commonDivisor_L9 s.1 s.2.1 s.2.2) FUEL (p0, p1, 0)) (fun v6 => some v6)
set_option maxRecDepth 100000 in
set_option maxHeartbeats 4000000 in
theorem tm_RC_commonDivisor {V : Ev} {Γ : Cn} {fin : Option Value × St} {σ : St} {p0 : Int64} {p1 : Int64} {o : Int64} (X : Cx V Γ M_X11_commonDivisor) {A : Int64 → Prop}  (hr : ∀ (r : Int64), A r → (some (.long r), σ) = fin) (h : RC_commonDivisor p0 p1 = some o) (hA : A o) : Go V Γ M_X11_commonDivisor (Zm V Γ 0 fin) 0 [(0, .long p0), (2, .long p1)] [] σ := by
  unfold RC_commonDivisor at h
  refine g_lload_n (pc := 0) X 0 rfl dX11_commonDivisor_0 ?_
  refine g_lstore (pc := 1) X [(4, .long p0), (0, .long p0), (2, .long p1)] (Nat.le_of_ble_eq_true rfl) rfl dX11_commonDivisor_1 ?_
  refine g_lload_n (pc := 3) X 2 rfl dX11_commonDivisor_3 ?_
  refine g_lstore (pc := 4) X [(6, .long p1), (4, .long p0), (0, .long p0), (2, .long p1)] (Nat.le_of_ble_eq_true rfl) rfl dX11_commonDivisor_4 ?_
  refine g_iconst (v := 0) (pc := 6) X rfl dX11_commonDivisor_6 ?_
  refine g_istore (pc := 7) X [(8, .int 0), (6, .long p1), (4, .long p0), (0, .long p0), (2, .long p1)] (Nat.le_of_ble_eq_true rfl) rfl dX11_commonDivisor_7 ?_
  refine g_sub [2, 1, 0] rfl ?_
  obtain ⟨v6, hi7, h⟩ := bd_e h
  refine tl_RC_commonDivisor_L9 X  hi7 ?_
  refine g_lload (pc := 44) X 0 rfl dX11_commonDivisor_44 ?_
  cases h
  exact g_lret (pc := 46) X rfl (hr _ hA) dX11_commonDivisor_46
set_option maxRecDepth 100000 in
theorem run_RC_commonDivisor {V : Ev} {σ : St} {p0 : Int64} {p1 : Int64} {o : Int64}   (h : RC_commonDivisor p0 p1 = some o) : Rs V 0 M_X11_commonDivisor [.long p0, .long p1] σ (some (.long o), σ) := by
  refine Rs.of (by decide +kernel) (Nat.le_of_ble_eq_true rfl) (fun Γ X => ?_)
  exact tm_RC_commonDivisor X (A := fun o1 => o1 = o)  (fun _ e => by rw [e]) h rfl
theorem dX11_partBy__0 : decode cX11_partBy_ 0 = .ok (.iload_n 1, 1) := by decide +kernel
theorem dX11_partBy__1 : decode cX11_partBy_ 1 = .ok (.iconst 1, 1) := by decide +kernel
theorem dX11_partBy__2 : decode cX11_partBy_ 2 = .ok (.if_icmp .ge 7, 3) := by decide +kernel
theorem dX11_partBy__5 : decode cX11_partBy_ 5 = .ok (.iconst 0, 1) := by decide +kernel
theorem dX11_partBy__6 : decode cX11_partBy_ 6 = .ok (.goto 6, 3) := by decide +kernel
theorem dX11_partBy__9 : decode cX11_partBy_ 9 = .ok (.iload_n 0, 1) := by decide +kernel
theorem dX11_partBy__10 : decode cX11_partBy_ 10 = .ok (.iload_n 1, 1) := by decide +kernel
theorem dX11_partBy__11 : decode cX11_partBy_ 11 = .ok (.idiv, 1) := by decide +kernel
theorem dX11_partBy__12 : decode cX11_partBy_ 12 = .ok (.ireturn, 1) := by decide +kernel
noncomputable def RC_partBy_ (p0 : Int32) (p1 : Int32) : Option Int32 :=
  if 1 ≤ p1 then (chk (nzI p1) (some (p0 / p1))) else (some 0)
set_option maxRecDepth 100000 in
set_option maxHeartbeats 4000000 in
theorem tm_RC_partBy_ {V : Ev} {Γ : Cn} {fin : Option Value × St} {σ : St} {p0 : Int32} {p1 : Int32} {o : Int32} (X : Cx V Γ M_X11_partBy_) {A : Int32 → Prop}  (hr : ∀ (r : Int32), A r → (some (.int r), σ) = fin) (h : RC_partBy_ p0 p1 = some o) (hA : A o) : Go V Γ M_X11_partBy_ (Zm V Γ 0 fin) 0 [(0, .int p0), (1, .int p1)] [] σ := by
  unfold RC_partBy_ at h
  refine g_iload_n (pc := 0) X 1 rfl dX11_partBy__0 ?_
  refine g_iconst (v := 1) (pc := 1) X rfl dX11_partBy__1 ?_
  refine g_icmp_ge (pc := 2) (tgt := 9) X dX11_partBy__2 rfl (fun c2 => ?_) (fun c2 => ?_)
  · replace h := if_t c2 h
    refine g_iload_n (pc := 9) X 0 rfl dX11_partBy__9 ?_
    refine g_iload_n (pc := 10) X 1 rfl dX11_partBy__10 ?_
    obtain ⟨c1, h⟩ := chk_e h
    refine g_idiv (pc := 11) X (nzI_e c1) dX11_partBy__11 ?_
    cases h
    exact g_iret (pc := 12) X rfl rfl (hr _ hA) dX11_partBy__12
  · replace h := if_f c2 h
    refine g_iconst (v := 0) (pc := 5) X rfl dX11_partBy__5 ?_
    refine g_goto (pc := 6) (tgt := 12) X dX11_partBy__6 rfl ?_
    cases h
    exact g_iret (pc := 12) X rfl rfl (hr _ hA) dX11_partBy__12
set_option maxRecDepth 100000 in
theorem run_RC_partBy_ {V : Ev} {σ : St} {p0 : Int32} {p1 : Int32} {o : Int32}   (h : RC_partBy_ p0 p1 = some o) : Rs V 0 M_X11_partBy_ [.int p0, .int p1] σ (some (.int o), σ) := by
  refine Rs.of (by decide +kernel) (Nat.le_of_ble_eq_true rfl) (fun Γ X => ?_)
  exact tm_RC_partBy_ X (A := fun o1 => o1 = o)  (fun _ e => by rw [e]) h rfl
theorem dX0_begin_0 : decode cX0_begin 0 = .ok (.aload_n 0, 1) := by decide +kernel
theorem dX0_begin_1 : decode cX0_begin 1 = .ok (.iload_n 1, 1) := by decide +kernel
theorem dX0_begin_2 : decode cX0_begin 2 = .ok (.putfield 27, 3) := by decide +kernel
theorem dX0_begin_5 : decode cX0_begin 5 = .ok (.aload_n 0, 1) := by decide +kernel
theorem dX0_begin_6 : decode cX0_begin 6 = .ok (.iconst 1, 1) := by decide +kernel
theorem dX0_begin_7 : decode cX0_begin 7 = .ok (.putfield 30, 3) := by decide +kernel
theorem dX0_begin_10 : decode cX0_begin 10 = .ok (.iconst 0, 1) := by decide +kernel
theorem dX0_begin_11 : decode cX0_begin 11 = .ok (.istore_n 2, 1) := by decide +kernel
theorem dX0_begin_12 : decode cX0_begin 12 = .ok (.iload_n 2, 1) := by decide +kernel
theorem dX0_begin_13 : decode cX0_begin 13 = .ok (.aload_n 0, 1) := by decide +kernel
theorem dX0_begin_14 : decode cX0_begin 14 = .ok (.getfield 23, 3) := by decide +kernel
theorem dX0_begin_17 : decode cX0_begin 17 = .ok (.if_icmp .ge 43, 3) := by decide +kernel
theorem dX0_begin_20 : decode cX0_begin 20 = .ok (.aload_n 0, 1) := by decide +kernel
theorem dX0_begin_21 : decode cX0_begin 21 = .ok (.dup, 1) := by decide +kernel
theorem dX0_begin_22 : decode cX0_begin 22 = .ok (.getfield 30, 3) := by decide +kernel
theorem dX0_begin_25 : decode cX0_begin 25 = .ok (.aload_n 0, 1) := by decide +kernel
theorem dX0_begin_26 : decode cX0_begin 26 = .ok (.getfield 9, 3) := by decide +kernel
theorem dX0_begin_29 : decode cX0_begin 29 = .ok (.iload_n 2, 1) := by decide +kernel
theorem dX0_begin_30 : decode cX0_begin 30 = .ok (.iaload, 1) := by decide +kernel
theorem dX0_begin_31 : decode cX0_begin 31 = .ok (.aload_n 0, 1) := by decide +kernel
theorem dX0_begin_32 : decode cX0_begin 32 = .ok (.getfield 30, 3) := by decide +kernel
theorem dX0_begin_35 : decode cX0_begin 35 = .ok (.i2l, 1) := by decide +kernel
theorem dX0_begin_36 : decode cX0_begin 36 = .ok (.aload_n 0, 1) := by decide +kernel
theorem dX0_begin_37 : decode cX0_begin 37 = .ok (.getfield 9, 3) := by decide +kernel
theorem dX0_begin_40 : decode cX0_begin 40 = .ok (.iload_n 2, 1) := by decide +kernel
theorem dX0_begin_41 : decode cX0_begin 41 = .ok (.iaload, 1) := by decide +kernel
theorem dX0_begin_42 : decode cX0_begin 42 = .ok (.i2l, 1) := by decide +kernel
theorem dX0_begin_43 : decode cX0_begin 43 = .ok (.invokestatic 61, 3) := by decide +kernel
theorem dX0_begin_46 : decode cX0_begin 46 = .ok (.l2i, 1) := by decide +kernel
theorem dX0_begin_47 : decode cX0_begin 47 = .ok (.invokestatic 65, 3) := by decide +kernel
theorem dX0_begin_50 : decode cX0_begin 50 = .ok (.imul, 1) := by decide +kernel
theorem dX0_begin_51 : decode cX0_begin 51 = .ok (.putfield 30, 3) := by decide +kernel
theorem dX0_begin_54 : decode cX0_begin 54 = .ok (.iinc 2 1, 3) := by decide +kernel
theorem dX0_begin_57 : decode cX0_begin 57 = .ok (.goto (-45), 3) := by decide +kernel
theorem dX0_begin_60 : decode cX0_begin 60 = .ok (.return_, 1) := by decide +kernel
noncomputable def Ch_begin_L12 (σ : St) (x2 : Int32) : Option ((Int32 × St) ⊕ St) :=
  if (σ.1 36 3) ≤ x2 then (some (.inr σ)) else (chk (ix x2 6) (chk (ix x2 6) (bd (RC_commonDivisor ((σ.1 36 5).toInt64) ((σ.1 37 (tn x2)).toInt64)) (fun r6 => bd (RC_partBy_ (σ.1 37 (tn x2)) r6.toInt32) (fun r8 => bnd (wI σ 36 5 ((σ.1 36 5) * r8)) (fun σ9 => bnd (x2 + 1) (fun v10 => some (.inl (v10, σ9)))))))))
set_option maxRecDepth 100000 in
set_option maxHeartbeats 4000000 in
theorem tb_Ch_begin_L12 {V : Ev} {Γ : Cn} {fin : Option Value × St} {σ : St} {x2 : Int32} {o : ((Int32 × St) ⊕ St)} (X : Cx V Γ M_X0_begin) {A : ((Int32 × St) ⊕ St) → Prop}  (hb12 : ∀ (x2 : Int32) (σ9 : St), A (.inl (x2, σ9)) → Go V Γ M_X0_begin (Zm V Γ 1 fin) 12 [(0, .ref (V.2.2.1 + 36)), (2, .int x2)] [] σ9) (hx12 : ∀ (σ9 : St), A (.inr σ9) → Go V Γ M_X0_begin (Zm V Γ 1 fin) 60 [] [] σ9) (h : Ch_begin_L12 σ x2 = some o) (hA : A o) : Go V Γ M_X0_begin (Zm V Γ 1 fin) 12 [(0, .ref (V.2.2.1 + 36)), (2, .int x2)] [] σ := by
  unfold Ch_begin_L12 at h
  refine g_iload_n (pc := 12) X 1 rfl dX0_begin_12 ?_
  refine g_aload_n (pc := 13) X 0 rfl dX0_begin_13 ?_
  refine g_getI (pc := 14) X k_fl_X0_23 s_36 rfl dX0_begin_14 ?_
  refine g_icmp_ge (pc := 17) (tgt := 60) X dX0_begin_17 rfl (fun c11 => ?_) (fun c11 => ?_)
  · replace h := if_t c11 h
    refine g_sub [] rfl ?_
    cases h
    exact hx12 _ hA
  · replace h := if_f c11 h
    refine g_aload_n (pc := 20) X 0 rfl dX0_begin_20 ?_
    refine g_dup (pc := 21) X rfl dX0_begin_21 ?_
    refine g_getI (pc := 22) X k_fl_X0_30 s_36 rfl dX0_begin_22 ?_
    refine g_aload_n (pc := 25) X 0 rfl dX0_begin_25 ?_
    refine g_getR (r := 37) (pc := 26) X k_fl_X0_9 s_36 rfl dX0_begin_26 ?_
    refine g_iload_n (pc := 29) X 1 rfl dX0_begin_29 ?_
    obtain ⟨c3, h⟩ := chk_e h
    refine g_iald (pc := 30) X s_37 c3 dX0_begin_30 ?_
    refine g_aload_n (pc := 31) X 0 rfl dX0_begin_31 ?_
    refine g_getI (pc := 32) X k_fl_X0_30 s_36 rfl dX0_begin_32 ?_
    refine g_i2l (pc := 35) X dX0_begin_35 ?_
    refine g_aload_n (pc := 36) X 0 rfl dX0_begin_36 ?_
    refine g_getR (r := 37) (pc := 37) X k_fl_X0_9 s_36 rfl dX0_begin_37 ?_
    refine g_iload_n (pc := 40) X 1 rfl dX0_begin_40 ?_
    obtain ⟨c4, h⟩ := chk_e h
    refine g_iald (pc := 41) X s_37 c4 dX0_begin_41 ?_
    refine g_i2l (pc := 42) X dX0_begin_42 ?_
    obtain ⟨r6, hc5, h⟩ := bd_e h
    refine g_callS (pc := 43) X k_ml_X0_61 (run_RC_commonDivisor  hc5) rfl (room_ok (Nat.le_of_ble_eq_true rfl) (Nat.le_of_ble_eq_true rfl)) ⟨Nat.le_refl _, Nat.le_refl _⟩ _ rfl (Nat.le_of_ble_eq_true rfl) dX0_begin_43 ?_
    show Go V Γ M_X0_begin (Zm V Γ 1 fin) 46 [(0, .ref (V.2.2.1 + 36)), (2, .int x2)] [.long r6, .int (σ.1 37 (tn x2)), .int (σ.1 36 5), .ref (V.2.2.1 + 36)] σ
    refine g_l2i (pc := 46) X dX0_begin_46 ?_
    obtain ⟨r8, hc7, h⟩ := bd_e h
    refine g_callS (pc := 47) X k_ml_X0_65 (run_RC_partBy_  hc7) rfl (room_ok (Nat.le_of_ble_eq_true rfl) (Nat.le_of_ble_eq_true rfl)) ⟨Nat.le_refl _, Nat.le_refl _⟩ _ rfl (Nat.le_of_ble_eq_true rfl) dX0_begin_47 ?_
    show Go V Γ M_X0_begin (Zm V Γ 1 fin) 50 [(0, .ref (V.2.2.1 + 36)), (2, .int x2)] [.int r8, .int (σ.1 36 5), .ref (V.2.2.1 + 36)] σ
    refine g_imul (pc := 50) X dX0_begin_50 ?_
    refine g_putI (pc := 51) X k_fl_X0_30 s_36 rfl rfl rfl dX0_begin_51 ?_
    obtain ⟨σ9, e_σ9, h⟩ := bnd_e h
    refine g_nmS e_σ9 ?_
    obtain ⟨v10, e_v10, h⟩ := bnd_e h
    refine g_iinc (pc := 54) (v := v10) X [(2, .int v10), (0, .ref (V.2.2.1 + 36))] 1 rfl (by rw [e_v10]; rfl) (Nat.le_of_ble_eq_true rfl) rfl dX0_begin_54 ?_
    refine g_goto (pc := 57) (tgt := 12) X dX0_begin_57 rfl ?_
    refine g_sub [1, 0] rfl ?_
    cases h
    exact hb12 _ _ hA
set_option maxRecDepth 100000 in
theorem tl_Ch_begin_L12 {V : Ev} {Γ : Cn} {fin : Option Value × St} {x2 : Int32} {σ9 : St} (X : Cx V Γ M_X0_begin)  {σ8 : St} {n : Nat} (h : iter (fun s : (Int32 × St) => Ch_begin_L12 s.2 s.1) n (x2, σ9) = some σ8) (hK : Go V Γ M_X0_begin (Zm V Γ 1 fin) 60 [] [] σ8) : Go V Γ M_X0_begin (Zm V Γ 1 fin) 12 [(0, .ref (V.2.2.1 + 36)), (2, .int x2)] [] σ9 := by
  refine iter_go (G := (fun s : (Int32 × St) => Go V Γ M_X0_begin (Zm V Γ 1 fin) 12 [(0, .ref (V.2.2.1 + 36)), (2, .int s.1)] [] s.2)) (fun s o ho hS => ?_) n (x2, σ9) h
  exact tb_Ch_begin_L12 X  (fun _ _ h9 => h9) (fun _ he => by cases he; exact hK) ho hS
noncomputable def Ch_begin (σ : St) (p1 : Int32) : Option St :=
  bnd (wI σ 36 4 p1) (fun σ1 => bnd (wI σ1 36 5 1) (fun σ2 => bd (iter (fun s : (Int32 × St) => Ch_begin_L12 s.2 s.1) FUEL (0, σ2)) (fun σ12 => some σ12)))
set_option maxRecDepth 100000 in
set_option maxHeartbeats 4000000 in
theorem tm_Ch_begin {V : Ev} {Γ : Cn} {fin : Option Value × St} {σ : St} {p1 : Int32} {o : St} (X : Cx V Γ M_X0_begin) {A : St → Prop}  (hr : ∀ (σ9 : St), A σ9 → (none, σ9) = fin) (h : Ch_begin σ p1 = some o) (hA : A o) : Go V Γ M_X0_begin (Zm V Γ 1 fin) 0 [(0, .ref (V.2.2.1 + 36)), (1, .int p1)] [] σ := by
  unfold Ch_begin at h
  refine g_aload_n (pc := 0) X 0 rfl dX0_begin_0 ?_
  refine g_iload_n (pc := 1) X 1 rfl dX0_begin_1 ?_
  refine g_putI (pc := 2) X k_fl_X0_27 s_36 rfl rfl rfl dX0_begin_2 ?_
  obtain ⟨σ1, e_σ1, h⟩ := bnd_e h
  refine g_nmS e_σ1 ?_
  refine g_aload_n (pc := 5) X 0 rfl dX0_begin_5 ?_
  refine g_iconst (v := 1) (pc := 6) X rfl dX0_begin_6 ?_
  refine g_putI (pc := 7) X k_fl_X0_30 s_36 rfl rfl rfl dX0_begin_7 ?_
  obtain ⟨σ2, e_σ2, h⟩ := bnd_e h
  refine g_nmS e_σ2 ?_
  refine g_iconst (v := 0) (pc := 10) X rfl dX0_begin_10 ?_
  refine g_istore_n (pc := 11) X [(2, .int 0), (0, .ref (V.2.2.1 + 36)), (1, .int p1)] rfl (Nat.le_of_ble_eq_true rfl) rfl dX0_begin_11 ?_
  refine g_sub [1, 0] rfl ?_
  obtain ⟨σ12, hi13, h⟩ := bd_e h
  refine tl_Ch_begin_L12 X  hi13 ?_
  cases h
  exact g_vret (pc := 60) X rfl (hr _ hA) dX0_begin_60
set_option maxRecDepth 100000 in
theorem run_Ch_begin {V : Ev} {σ : St} {p1 : Int32} {o : St}   (h : Ch_begin σ p1 = some o) : Rs V 1 M_X0_begin [.ref (V.2.2.1 + 36), .int p1] σ (none, o) := by
  refine Rs.of (by decide +kernel) (Nat.le_of_ble_eq_true rfl) (fun Γ X => ?_)
  exact tm_Ch_begin X (A := fun o1 => o1 = o)  (fun _ e => by rw [e]) h rfl
theorem dX11_wordsFor_0 : decode cX11_wordsFor 0 = .ok (.bipush 79, 2) := by decide +kernel
theorem dX11_wordsFor_2 : decode cX11_wordsFor 2 = .ok (.iload_n 0, 1) := by decide +kernel
theorem dX11_wordsFor_3 : decode cX11_wordsFor 3 = .ok (.bipush 64, 2) := by decide +kernel
theorem dX11_wordsFor_5 : decode cX11_wordsFor 5 = .ok (.iadd, 1) := by decide +kernel
theorem dX11_wordsFor_6 : decode cX11_wordsFor 6 = .ok (.iconst 1, 1) := by decide +kernel
theorem dX11_wordsFor_7 : decode cX11_wordsFor 7 = .ok (.isub, 1) := by decide +kernel
theorem dX11_wordsFor_8 : decode cX11_wordsFor 8 = .ok (.bipush 64, 2) := by decide +kernel
theorem dX11_wordsFor_10 : decode cX11_wordsFor 10 = .ok (.idiv, 1) := by decide +kernel
theorem dX11_wordsFor_11 : decode cX11_wordsFor 11 = .ok (.invokestatic 188, 3) := by decide +kernel
theorem dX11_wordsFor_14 : decode cX11_wordsFor 14 = .ok (.ireturn, 1) := by decide +kernel
noncomputable def RC_wordsFor (p0 : Int32) : Option Int32 :=
  chk (nzI 64) (some (jmin 79 (((p0 + 64) - 1) / 64)))
set_option maxRecDepth 100000 in
set_option maxHeartbeats 4000000 in
theorem tm_RC_wordsFor {V : Ev} {Γ : Cn} {fin : Option Value × St} {σ : St} {p0 : Int32} {o : Int32} (X : Cx V Γ M_X11_wordsFor) {A : Int32 → Prop}  (hr : ∀ (r : Int32), A r → (some (.int r), σ) = fin) (h : RC_wordsFor p0 = some o) (hA : A o) : Go V Γ M_X11_wordsFor (Zm V Γ 1 fin) 0 [(0, .int p0)] [] σ := by
  unfold RC_wordsFor at h
  refine g_bipush (v := 79) (pc := 0) X (by decide) dX11_wordsFor_0 ?_
  refine g_iload_n (pc := 2) X 0 rfl dX11_wordsFor_2 ?_
  refine g_bipush (v := 64) (pc := 3) X (by decide) dX11_wordsFor_3 ?_
  refine g_iadd (pc := 5) X dX11_wordsFor_5 ?_
  refine g_iconst (v := 1) (pc := 6) X rfl dX11_wordsFor_6 ?_
  refine g_isub (pc := 7) X dX11_wordsFor_7 ?_
  refine g_bipush (v := 64) (pc := 8) X (by decide) dX11_wordsFor_8 ?_
  obtain ⟨c1, h⟩ := chk_e h
  refine g_idiv (pc := 10) X (nzI_e c1) dX11_wordsFor_10 ?_
  refine g_min (pc := 11) X k_ml_X11_188 (Nat.le_of_ble_eq_true rfl) (Nat.le_of_ble_eq_true rfl) (Nat.le_refl _) (Nat.le_refl _) dX11_wordsFor_11 ?_
  cases h
  exact g_iret (pc := 14) X rfl rfl (hr _ hA) dX11_wordsFor_14
set_option maxRecDepth 100000 in
theorem run_RC_wordsFor {V : Ev} {σ : St} {p0 : Int32} {o : Int32}   (h : RC_wordsFor p0 = some o) : Rs V 1 M_X11_wordsFor [.int p0] σ (some (.int o), σ) := by
  refine Rs.of (by decide +kernel) (Nat.le_of_ble_eq_true rfl) (fun Γ X => ?_)
  exact tm_RC_wordsFor X (A := fun o1 => o1 = o)  (fun _ e => by rw [e]) h rfl
theorem dX11_insideOf_0 : decode cX11_insideOf 0 = .ok (.iload_n 0, 1) := by decide +kernel
theorem dX11_insideOf_1 : decode cX11_insideOf 1 = .ok (.iload_n 1, 1) := by decide +kernel
theorem dX11_insideOf_2 : decode cX11_insideOf 2 = .ok (.bipush 64, 2) := by decide +kernel
theorem dX11_insideOf_4 : decode cX11_insideOf 4 = .ok (.imul, 1) := by decide +kernel
theorem dX11_insideOf_5 : decode cX11_insideOf 5 = .ok (.isub, 1) := by decide +kernel
theorem dX11_insideOf_6 : decode cX11_insideOf 6 = .ok (.istore_n 2, 1) := by decide +kernel
theorem dX11_insideOf_7 : decode cX11_insideOf 7 = .ok (.iload_n 2, 1) := by decide +kernel
theorem dX11_insideOf_8 : decode cX11_insideOf 8 = .ok (.bipush 64, 2) := by decide +kernel
theorem dX11_insideOf_10 : decode cX11_insideOf 10 = .ok (.if_icmp .lt 9, 3) := by decide +kernel
theorem dX11_insideOf_13 : decode cX11_insideOf 13 = .ok (.ldc2_w 451, 3) := by decide +kernel
theorem dX11_insideOf_16 : decode cX11_insideOf 16 = .ok (.goto 12, 3) := by decide +kernel
theorem dX11_insideOf_19 : decode cX11_insideOf 19 = .ok (.lconst 1, 1) := by decide +kernel
theorem dX11_insideOf_20 : decode cX11_insideOf 20 = .ok (.iconst 0, 1) := by decide +kernel
theorem dX11_insideOf_21 : decode cX11_insideOf 21 = .ok (.iload_n 2, 1) := by decide +kernel
theorem dX11_insideOf_22 : decode cX11_insideOf 22 = .ok (.invokestatic 448, 3) := by decide +kernel
theorem dX11_insideOf_25 : decode cX11_insideOf 25 = .ok (.lshl, 1) := by decide +kernel
theorem dX11_insideOf_26 : decode cX11_insideOf 26 = .ok (.lconst 1, 1) := by decide +kernel
theorem dX11_insideOf_27 : decode cX11_insideOf 27 = .ok (.lsub, 1) := by decide +kernel
theorem dX11_insideOf_28 : decode cX11_insideOf 28 = .ok (.lreturn, 1) := by decide +kernel
noncomputable def RC_insideOf (p0 : Int32) (p1 : Int32) : Option Int64 :=
  bnd ((p0 - (p1 * 64))) (fun v1 => if v1 < 64 then (some ((1 <<< ((jmax 0 v1).toInt64 &&& 63)) - 1)) else (some (-1)))
set_option maxRecDepth 100000 in
set_option maxHeartbeats 4000000 in
theorem tm_RC_insideOf {V : Ev} {Γ : Cn} {fin : Option Value × St} {σ : St} {p0 : Int32} {p1 : Int32} {o : Int64} (X : Cx V Γ M_X11_insideOf) {A : Int64 → Prop}  (hr : ∀ (r : Int64), A r → (some (.long r), σ) = fin) (h : RC_insideOf p0 p1 = some o) (hA : A o) : Go V Γ M_X11_insideOf (Zm V Γ 1 fin) 0 [(0, .int p0), (1, .int p1)] [] σ := by
  unfold RC_insideOf at h
  refine g_iload_n (pc := 0) X 0 rfl dX11_insideOf_0 ?_
  refine g_iload_n (pc := 1) X 1 rfl dX11_insideOf_1 ?_
  refine g_bipush (v := 64) (pc := 2) X (by decide) dX11_insideOf_2 ?_
  refine g_imul (pc := 4) X dX11_insideOf_4 ?_
  refine g_isub (pc := 5) X dX11_insideOf_5 ?_
  obtain ⟨v1, e_v1, h⟩ := bnd_e h
  refine g_nmI e_v1 ?_
  refine g_istore_n (pc := 6) X [(2, .int v1), (0, .int p0), (1, .int p1)] rfl (Nat.le_of_ble_eq_true rfl) rfl dX11_insideOf_6 ?_
  refine g_iload_n (pc := 7) X 0 rfl dX11_insideOf_7 ?_
  refine g_bipush (v := 64) (pc := 8) X (by decide) dX11_insideOf_8 ?_
  refine g_icmp_lt (pc := 10) (tgt := 19) X dX11_insideOf_10 rfl (fun c2 => ?_) (fun c2 => ?_)
  · replace h := if_t c2 h
    refine g_lconst (v := 1) (pc := 19) X rfl dX11_insideOf_19 ?_
    refine g_iconst (v := 0) (pc := 20) X rfl dX11_insideOf_20 ?_
    refine g_iload_n (pc := 21) X 0 rfl dX11_insideOf_21 ?_
    refine g_max (pc := 22) X k_ml_X11_448 (Nat.le_of_ble_eq_true rfl) (Nat.le_of_ble_eq_true rfl) (Nat.le_refl _) (Nat.le_refl _) dX11_insideOf_22 ?_
    refine g_lshl (pc := 25) X dX11_insideOf_25 ?_
    refine g_lconst (v := 1) (pc := 26) X rfl dX11_insideOf_26 ?_
    refine g_lsub (pc := 27) X dX11_insideOf_27 ?_
    cases h
    exact g_lret (pc := 28) X rfl (hr _ hA) dX11_insideOf_28
  · replace h := if_f c2 h
    refine g_ldc2 (v := (-1)) (pc := 13) X k_constl_X11_451 dX11_insideOf_13 ?_
    refine g_goto (pc := 16) (tgt := 28) X dX11_insideOf_16 rfl ?_
    cases h
    exact g_lret (pc := 28) X rfl (hr _ hA) dX11_insideOf_28
set_option maxRecDepth 100000 in
theorem run_RC_insideOf {V : Ev} {σ : St} {p0 : Int32} {p1 : Int32} {o : Int64}   (h : RC_insideOf p0 p1 = some o) : Rs V 1 M_X11_insideOf [.int p0, .int p1] σ (some (.long o), σ) := by
  refine Rs.of (by decide +kernel) (Nat.le_of_ble_eq_true rfl) (fun Γ X => ?_)
  exact tm_RC_insideOf X (A := fun o1 => o1 = o)  (fun _ e => by rw [e]) h rfl
theorem dX0_isAllCaught_0 : decode cX0_isAllCaught 0 = .ok (.aload_n 0, 1) := by decide +kernel
theorem dX0_isAllCaught_1 : decode cX0_isAllCaught 1 = .ok (.getfield 30, 3) := by decide +kernel
theorem dX0_isAllCaught_4 : decode cX0_isAllCaught 4 = .ok (.invokestatic 79, 3) := by decide +kernel
theorem dX0_isAllCaught_7 : decode cX0_isAllCaught 7 = .ok (.istore_n 2, 1) := by decide +kernel
theorem dX0_isAllCaught_8 : decode cX0_isAllCaught 8 = .ok (.iconst 0, 1) := by decide +kernel
theorem dX0_isAllCaught_9 : decode cX0_isAllCaught 9 = .ok (.istore_n 3, 1) := by decide +kernel
theorem dX0_isAllCaught_10 : decode cX0_isAllCaught 10 = .ok (.iload_n 3, 1) := by decide +kernel
theorem dX0_isAllCaught_11 : decode cX0_isAllCaught 11 = .ok (.iload_n 2, 1) := by decide +kernel
theorem dX0_isAllCaught_12 : decode cX0_isAllCaught 12 = .ok (.if_icmp .ge 31, 3) := by decide +kernel
theorem dX0_isAllCaught_15 : decode cX0_isAllCaught 15 = .ok (.aload_n 0, 1) := by decide +kernel
theorem dX0_isAllCaught_16 : decode cX0_isAllCaught 16 = .ok (.getfield 20, 3) := by decide +kernel
theorem dX0_isAllCaught_19 : decode cX0_isAllCaught 19 = .ok (.iload_n 1, 1) := by decide +kernel
theorem dX0_isAllCaught_20 : decode cX0_isAllCaught 20 = .ok (.aaload, 1) := by decide +kernel
theorem dX0_isAllCaught_21 : decode cX0_isAllCaught 21 = .ok (.iload_n 3, 1) := by decide +kernel
theorem dX0_isAllCaught_22 : decode cX0_isAllCaught 22 = .ok (.laload, 1) := by decide +kernel
theorem dX0_isAllCaught_23 : decode cX0_isAllCaught 23 = .ok (.aload_n 0, 1) := by decide +kernel
theorem dX0_isAllCaught_24 : decode cX0_isAllCaught 24 = .ok (.getfield 30, 3) := by decide +kernel
theorem dX0_isAllCaught_27 : decode cX0_isAllCaught 27 = .ok (.iload_n 3, 1) := by decide +kernel
theorem dX0_isAllCaught_28 : decode cX0_isAllCaught 28 = .ok (.invokestatic 87, 3) := by decide +kernel
theorem dX0_isAllCaught_31 : decode cX0_isAllCaught 31 = .ok (.lcmp, 1) := by decide +kernel
theorem dX0_isAllCaught_32 : decode cX0_isAllCaught 32 = .ok (.ifCond .eq 5, 3) := by decide +kernel
theorem dX0_isAllCaught_35 : decode cX0_isAllCaught 35 = .ok (.iconst 0, 1) := by decide +kernel
theorem dX0_isAllCaught_36 : decode cX0_isAllCaught 36 = .ok (.ireturn, 1) := by decide +kernel
theorem dX0_isAllCaught_37 : decode cX0_isAllCaught 37 = .ok (.iinc 3 1, 3) := by decide +kernel
theorem dX0_isAllCaught_40 : decode cX0_isAllCaught 40 = .ok (.goto (-30), 3) := by decide +kernel
theorem dX0_isAllCaught_43 : decode cX0_isAllCaught 43 = .ok (.iconst 1, 1) := by decide +kernel
theorem dX0_isAllCaught_44 : decode cX0_isAllCaught 44 = .ok (.ireturn, 1) := by decide +kernel
noncomputable def Ch_isAllCaught_L10 (l1 : Int32) (l2 : Int32) (σ : St) (x3 : Int32) : Option (Int32 ⊕ Int32) :=
  if l2 ≤ x3 then (some (.inr 1)) else (chk (ix l1 7) (chk (ix x3 79) (bd (RC_insideOf (σ.1 36 5) x3) (fun r6 => if (σ.2 (rfs 39 (tn l1)) (tn x3)) = r6 then (bnd (x3 + 1) (fun v7 => some (.inl v7))) else (some (.inr 0))))))
set_option maxRecDepth 100000 in
set_option maxHeartbeats 4000000 in
theorem tb_Ch_isAllCaught_L10 {V : Ev} {Γ : Cn} {fin : Option Value × St} {l1 : Int32} {l2 : Int32} {σ : St} {x3 : Int32} {o : (Int32 ⊕ Int32)} (X : Cx V Γ M_X0_isAllCaught) {A : (Int32 ⊕ Int32) → Prop}  (hr : ∀ (r : Int32), A (.inr r) → (some (.int r), σ) = fin) (hb10 : ∀ (x3 : Int32), A (.inl x3) → Go V Γ M_X0_isAllCaught (Zm V Γ 2 fin) 10 [(0, .ref (V.2.2.1 + 36)), (1, .int l1), (2, .int l2), (3, .int x3)] [] σ) (h : Ch_isAllCaught_L10 l1 l2 σ x3 = some o) (hA : A o) : Go V Γ M_X0_isAllCaught (Zm V Γ 2 fin) 10 [(0, .ref (V.2.2.1 + 36)), (1, .int l1), (2, .int l2), (3, .int x3)] [] σ := by
  unfold Ch_isAllCaught_L10 at h
  refine g_iload_n (pc := 10) X 3 rfl dX0_isAllCaught_10 ?_
  refine g_iload_n (pc := 11) X 2 rfl dX0_isAllCaught_11 ?_
  refine g_icmp_ge (pc := 12) (tgt := 43) X dX0_isAllCaught_12 rfl (fun c9 => ?_) (fun c9 => ?_)
  · replace h := if_t c9 h
    refine g_iconst (v := 1) (pc := 43) X rfl dX0_isAllCaught_43 ?_
    cases h
    exact g_iret (pc := 44) X rfl nz1.1 (hr _ hA) dX0_isAllCaught_44
  · replace h := if_f c9 h
    refine g_aload_n (pc := 15) X 0 rfl dX0_isAllCaught_15 ?_
    refine g_getR (r := 39) (pc := 16) X k_fl_X0_20 s_36 rfl dX0_isAllCaught_16 ?_
    refine g_iload_n (pc := 19) X 1 rfl dX0_isAllCaught_19 ?_
    obtain ⟨c3, h⟩ := chk_e h
    refine g_aald (ak := 3) (pc := 20) X s_39 rfl rfl c3 dX0_isAllCaught_20 ?_
    refine g_iload_n (pc := 21) X 3 rfl dX0_isAllCaught_21 ?_
    obtain ⟨c4, h⟩ := chk_e h
    refine g_lald (pc := 22) X (sCA_of c3) c4 dX0_isAllCaught_22 ?_
    refine g_aload_n (pc := 23) X 0 rfl dX0_isAllCaught_23 ?_
    refine g_getI (pc := 24) X k_fl_X0_30 s_36 rfl dX0_isAllCaught_24 ?_
    refine g_iload_n (pc := 27) X 3 rfl dX0_isAllCaught_27 ?_
    obtain ⟨r6, hc5, h⟩ := bd_e h
    refine g_callS (pc := 28) X k_ml_X0_87 (run_RC_insideOf  hc5) rfl (room_ok (Nat.le_of_ble_eq_true rfl) (Nat.le_of_ble_eq_true rfl)) ⟨Nat.le_refl _, Nat.le_refl _⟩ _ rfl (Nat.le_of_ble_eq_true rfl) dX0_isAllCaught_28 ?_
    show Go V Γ M_X0_isAllCaught (Zm V Γ 2 fin) 31 [(0, .ref (V.2.2.1 + 36)), (1, .int l1), (2, .int l2), (3, .int x3)] [.long r6, .long (σ.2 (rfs 39 (tn l1)) (tn x3))] σ
    refine g_lcmp_eq (pc := 31) (tgt := 37) X dX0_isAllCaught_31 dX0_isAllCaught_32 rfl (fun c8 => ?_) (fun c8 => ?_)
    · replace h := if_t c8 h
      obtain ⟨v7, e_v7, h⟩ := bnd_e h
      refine g_iinc (pc := 37) (v := v7) X [(3, .int v7), (0, .ref (V.2.2.1 + 36)), (1, .int l1), (2, .int l2)] 3 rfl (by rw [e_v7]; rfl) (Nat.le_of_ble_eq_true rfl) rfl dX0_isAllCaught_37 ?_
      refine g_goto (pc := 40) (tgt := 10) X dX0_isAllCaught_40 rfl ?_
      refine g_sub [1, 2, 3, 0] rfl ?_
      cases h
      exact hb10 _ hA
    · replace h := if_f c8 h
      refine g_iconst (v := 0) (pc := 35) X rfl dX0_isAllCaught_35 ?_
      cases h
      exact g_iret (pc := 36) X rfl nz0.1 (hr _ hA) dX0_isAllCaught_36
set_option maxRecDepth 100000 in
theorem tl_Ch_isAllCaught_L10 {V : Ev} {Γ : Cn} {fin : Option Value × St} {l1 : Int32} {l2 : Int32} {σ : St} {x3 : Int32} (X : Cx V Γ M_X0_isAllCaught)  {e : Int32} {A : Int32 → Prop} (hr : ∀ (r : Int32), A r → (some (.int r), σ) = fin) {n : Nat} (h : iter (fun s : Int32 => Ch_isAllCaught_L10 l1 l2 σ s) n x3 = some e) (hA : A e) : Go V Γ M_X0_isAllCaught (Zm V Γ 2 fin) 10 [(0, .ref (V.2.2.1 + 36)), (1, .int l1), (2, .int l2), (3, .int x3)] [] σ := by
  refine iter_go (G := (fun s : Int32 => Go V Γ M_X0_isAllCaught (Zm V Γ 2 fin) 10 [(0, .ref (V.2.2.1 + 36)), (1, .int l1), (2, .int l2), (3, .int s)] [] σ)) (fun s o ho hS => ?_) n x3 h
  exact tb_Ch_isAllCaught_L10 X  (fun z0 he => hr z0 (by rw [he]; exact hA)) (fun _ h9 => h9) ho hS
noncomputable def Ch_isAllCaught (σ : St) (p1 : Int32) : Option Int32 :=
  bd (RC_wordsFor (σ.1 36 5)) (fun r2 => iter (fun s : Int32 => Ch_isAllCaught_L10 p1 r2 σ s) FUEL 0)
set_option maxRecDepth 100000 in
set_option maxHeartbeats 4000000 in
theorem tm_Ch_isAllCaught {V : Ev} {Γ : Cn} {fin : Option Value × St} {σ : St} {p1 : Int32} {o : Int32} (X : Cx V Γ M_X0_isAllCaught) {A : Int32 → Prop}  (hr : ∀ (r : Int32), A r → (some (.int r), σ) = fin) (h : Ch_isAllCaught σ p1 = some o) (hA : A o) : Go V Γ M_X0_isAllCaught (Zm V Γ 2 fin) 0 [(0, .ref (V.2.2.1 + 36)), (1, .int p1)] [] σ := by
  unfold Ch_isAllCaught at h
  refine g_aload_n (pc := 0) X 0 rfl dX0_isAllCaught_0 ?_
  refine g_getI (pc := 1) X k_fl_X0_30 s_36 rfl dX0_isAllCaught_1 ?_
  obtain ⟨r2, hc1, h⟩ := bd_e h
  refine g_callS (pc := 4) X k_ml_X0_79 (run_RC_wordsFor  hc1) rfl (room_ok (Nat.le_of_ble_eq_true rfl) (Nat.le_of_ble_eq_true rfl)) ⟨Nat.le_refl _, Nat.le_refl _⟩ _ rfl (Nat.le_of_ble_eq_true rfl) dX0_isAllCaught_4 ?_
  show Go V Γ M_X0_isAllCaught (Zm V Γ 2 fin) 7 [(0, .ref (V.2.2.1 + 36)), (1, .int p1)] [.int r2] σ
  refine g_istore_n (pc := 7) X [(2, .int r2), (0, .ref (V.2.2.1 + 36)), (1, .int p1)] rfl (Nat.le_of_ble_eq_true rfl) rfl dX0_isAllCaught_7 ?_
  refine g_iconst (v := 0) (pc := 8) X rfl dX0_isAllCaught_8 ?_
  refine g_istore_n (pc := 9) X [(3, .int 0), (2, .int r2), (0, .ref (V.2.2.1 + 36)), (1, .int p1)] rfl (Nat.le_of_ble_eq_true rfl) rfl dX0_isAllCaught_9 ?_
  refine g_sub [2, 3, 1, 0] rfl ?_
  exact tl_Ch_isAllCaught_L10 X  hr h hA
set_option maxRecDepth 100000 in
theorem run_Ch_isAllCaught {V : Ev} {σ : St} {p1 : Int32} {o : Int32}   (h : Ch_isAllCaught σ p1 = some o) : Rs V 2 M_X0_isAllCaught [.ref (V.2.2.1 + 36), .int p1] σ (some (.int o), σ) := by
  refine Rs.of (by decide +kernel) (Nat.le_of_ble_eq_true rfl) (fun Γ X => ?_)
  exact tm_Ch_isAllCaught X (A := fun o1 => o1 = o)  (fun _ e => by rw [e]) h rfl
theorem dX11_combOf_0 : decode cX11_combOf 0 = .ok (.lconst 0, 1) := by decide +kernel
theorem dX11_combOf_1 : decode cX11_combOf 1 = .ok (.lstore_n 1, 1) := by decide +kernel
theorem dX11_combOf_2 : decode cX11_combOf 2 = .ok (.iconst 0, 1) := by decide +kernel
theorem dX11_combOf_3 : decode cX11_combOf 3 = .ok (.istore_n 3, 1) := by decide +kernel
theorem dX11_combOf_4 : decode cX11_combOf 4 = .ok (.iload_n 3, 1) := by decide +kernel
theorem dX11_combOf_5 : decode cX11_combOf 5 = .ok (.bipush 64, 2) := by decide +kernel
theorem dX11_combOf_7 : decode cX11_combOf 7 = .ok (.if_icmp .ge 20, 3) := by decide +kernel
theorem dX11_combOf_10 : decode cX11_combOf 10 = .ok (.lload_n 1, 1) := by decide +kernel
theorem dX11_combOf_11 : decode cX11_combOf 11 = .ok (.lconst 1, 1) := by decide +kernel
theorem dX11_combOf_12 : decode cX11_combOf 12 = .ok (.iload_n 3, 1) := by decide +kernel
theorem dX11_combOf_13 : decode cX11_combOf 13 = .ok (.lshl, 1) := by decide +kernel
theorem dX11_combOf_14 : decode cX11_combOf 14 = .ok (.lor, 1) := by decide +kernel
theorem dX11_combOf_15 : decode cX11_combOf 15 = .ok (.lstore_n 1, 1) := by decide +kernel
theorem dX11_combOf_16 : decode cX11_combOf 16 = .ok (.iload_n 3, 1) := by decide +kernel
theorem dX11_combOf_17 : decode cX11_combOf 17 = .ok (.iconst 1, 1) := by decide +kernel
theorem dX11_combOf_18 : decode cX11_combOf 18 = .ok (.iload_n 0, 1) := by decide +kernel
theorem dX11_combOf_19 : decode cX11_combOf 19 = .ok (.invokestatic 448, 3) := by decide +kernel
theorem dX11_combOf_22 : decode cX11_combOf 22 = .ok (.iadd, 1) := by decide +kernel
theorem dX11_combOf_23 : decode cX11_combOf 23 = .ok (.istore_n 3, 1) := by decide +kernel
theorem dX11_combOf_24 : decode cX11_combOf 24 = .ok (.goto (-20), 3) := by decide +kernel
theorem dX11_combOf_27 : decode cX11_combOf 27 = .ok (.lload_n 1, 1) := by decide +kernel
theorem dX11_combOf_28 : decode cX11_combOf 28 = .ok (.lreturn, 1) := by decide +kernel
noncomputable def RC_combOf_L4 (l0 : Int32) (x1 : Int64) (x3 : Int32) : Option ((Int64 × Int32) ⊕ Int64) :=
  if 64 ≤ x3 then (some (.inr x1)) else (bnd ((x1 ||| (1 <<< (x3.toInt64 &&& 63)))) (fun v1 => bnd ((x3 + (jmax 1 l0))) (fun v2 => some (.inl (v1, v2)))))
set_option maxRecDepth 100000 in
set_option maxHeartbeats 4000000 in
theorem tb_RC_combOf_L4 {V : Ev} {Γ : Cn} {fin : Option Value × St} {σ : St} {l0 : Int32} {x1 : Int64} {x3 : Int32} {o : ((Int64 × Int32) ⊕ Int64)} (X : Cx V Γ M_X11_combOf) {A : ((Int64 × Int32) ⊕ Int64) → Prop}  (hb4 : ∀ (x1 : Int64) (x3 : Int32), A (.inl (x1, x3)) → Go V Γ M_X11_combOf (Zm V Γ 1 fin) 4 [(0, .int l0), (1, .long x1), (3, .int x3)] [] σ) (hx4 : ∀ (x1 : Int64), A (.inr x1) → Go V Γ M_X11_combOf (Zm V Γ 1 fin) 27 [(1, .long x1)] [] σ) (h : RC_combOf_L4 l0 x1 x3 = some o) (hA : A o) : Go V Γ M_X11_combOf (Zm V Γ 1 fin) 4 [(0, .int l0), (1, .long x1), (3, .int x3)] [] σ := by
  unfold RC_combOf_L4 at h
  refine g_iload_n (pc := 4) X 2 rfl dX11_combOf_4 ?_
  refine g_bipush (v := 64) (pc := 5) X (by decide) dX11_combOf_5 ?_
  refine g_icmp_ge (pc := 7) (tgt := 27) X dX11_combOf_7 rfl (fun c3 => ?_) (fun c3 => ?_)
  · replace h := if_t c3 h
    refine g_sub [1] rfl ?_
    cases h
    exact hx4 _ hA
  · replace h := if_f c3 h
    refine g_lload_n (pc := 10) X 1 rfl dX11_combOf_10 ?_
    refine g_lconst (v := 1) (pc := 11) X rfl dX11_combOf_11 ?_
    refine g_iload_n (pc := 12) X 2 rfl dX11_combOf_12 ?_
    refine g_lshl (pc := 13) X dX11_combOf_13 ?_
    refine g_lor (pc := 14) X dX11_combOf_14 ?_
    obtain ⟨v1, e_v1, h⟩ := bnd_e h
    refine g_nmL e_v1 ?_
    refine g_lstore_n (pc := 15) X [(1, .long v1), (0, .int l0), (3, .int x3)] rfl (Nat.le_of_ble_eq_true rfl) rfl dX11_combOf_15 ?_
    refine g_iload_n (pc := 16) X 2 rfl dX11_combOf_16 ?_
    refine g_iconst (v := 1) (pc := 17) X rfl dX11_combOf_17 ?_
    refine g_iload_n (pc := 18) X 1 rfl dX11_combOf_18 ?_
    refine g_max (pc := 19) X k_ml_X11_448 (Nat.le_of_ble_eq_true rfl) (Nat.le_of_ble_eq_true rfl) (Nat.le_refl _) (Nat.le_refl _) dX11_combOf_19 ?_
    refine g_iadd (pc := 22) X dX11_combOf_22 ?_
    obtain ⟨v2, e_v2, h⟩ := bnd_e h
    refine g_nmI e_v2 ?_
    refine g_istore_n (pc := 23) X [(3, .int v2), (1, .long v1), (0, .int l0)] rfl (Nat.le_of_ble_eq_true rfl) rfl dX11_combOf_23 ?_
    refine g_goto (pc := 24) (tgt := 4) X dX11_combOf_24 rfl ?_
    refine g_sub [2, 1, 0] rfl ?_
    cases h
    exact hb4 _ _ hA
set_option maxRecDepth 100000 in
theorem tl_RC_combOf_L4 {V : Ev} {Γ : Cn} {fin : Option Value × St} {l0 : Int32} {σ : St} {x1 : Int64} {x3 : Int32} (X : Cx V Γ M_X11_combOf)  {y1 : Int64} {n : Nat} (h : iter (fun s : (Int64 × Int32) => RC_combOf_L4 l0 s.1 s.2) n (x1, x3) = some y1) (hK : Go V Γ M_X11_combOf (Zm V Γ 1 fin) 27 [(1, .long y1)] [] σ) : Go V Γ M_X11_combOf (Zm V Γ 1 fin) 4 [(0, .int l0), (1, .long x1), (3, .int x3)] [] σ := by
  refine iter_go (G := (fun s : (Int64 × Int32) => Go V Γ M_X11_combOf (Zm V Γ 1 fin) 4 [(0, .int l0), (1, .long s.1), (3, .int s.2)] [] σ)) (fun s o ho hS => ?_) n (x1, x3) h
  exact tb_RC_combOf_L4 X  (fun _ _ h9 => h9) (fun _ he => by cases he; exact hK) ho hS
noncomputable def RC_combOf (p0 : Int32) : Option Int64 :=
  bd (iter (fun s : (Int64 × Int32) => RC_combOf_L4 p0 s.1 s.2) FUEL (0, 0)) (fun v4 => some v4)
set_option maxRecDepth 100000 in
set_option maxHeartbeats 4000000 in
theorem tm_RC_combOf {V : Ev} {Γ : Cn} {fin : Option Value × St} {σ : St} {p0 : Int32} {o : Int64} (X : Cx V Γ M_X11_combOf) {A : Int64 → Prop}  (hr : ∀ (r : Int64), A r → (some (.long r), σ) = fin) (h : RC_combOf p0 = some o) (hA : A o) : Go V Γ M_X11_combOf (Zm V Γ 1 fin) 0 [(0, .int p0)] [] σ := by
  unfold RC_combOf at h
  refine g_lconst (v := 0) (pc := 0) X rfl dX11_combOf_0 ?_
  refine g_lstore_n (pc := 1) X [(1, .long 0), (0, .int p0)] rfl (Nat.le_of_ble_eq_true rfl) rfl dX11_combOf_1 ?_
  refine g_iconst (v := 0) (pc := 2) X rfl dX11_combOf_2 ?_
  refine g_istore_n (pc := 3) X [(3, .int 0), (1, .long 0), (0, .int p0)] rfl (Nat.le_of_ble_eq_true rfl) rfl dX11_combOf_3 ?_
  refine g_sub [2, 1, 0] rfl ?_
  obtain ⟨v4, hi5, h⟩ := bd_e h
  refine tl_RC_combOf_L4 X  hi5 ?_
  refine g_lload_n (pc := 27) X 0 rfl dX11_combOf_27 ?_
  cases h
  exact g_lret (pc := 28) X rfl (hr _ hA) dX11_combOf_28
set_option maxRecDepth 100000 in
theorem run_RC_combOf {V : Ev} {σ : St} {p0 : Int32} {o : Int64}   (h : RC_combOf p0 = some o) : Rs V 1 M_X11_combOf [.int p0] σ (some (.long o), σ) := by
  refine Rs.of (by decide +kernel) (Nat.le_of_ble_eq_true rfl) (fun Γ X => ?_)
  exact tm_RC_combOf X (A := fun o1 => o1 = o)  (fun _ e => by rw [e]) h rfl
theorem dX11_leftBy_0 : decode cX11_leftBy 0 = .ok (.iload_n 1, 1) := by decide +kernel
theorem dX11_leftBy_1 : decode cX11_leftBy 1 = .ok (.iconst 1, 1) := by decide +kernel
theorem dX11_leftBy_2 : decode cX11_leftBy 2 = .ok (.if_icmp .ge 5, 3) := by decide +kernel
theorem dX11_leftBy_5 : decode cX11_leftBy 5 = .ok (.iconst 0, 1) := by decide +kernel
theorem dX11_leftBy_6 : decode cX11_leftBy 6 = .ok (.ireturn, 1) := by decide +kernel
theorem dX11_leftBy_7 : decode cX11_leftBy 7 = .ok (.iload_n 0, 1) := by decide +kernel
theorem dX11_leftBy_8 : decode cX11_leftBy 8 = .ok (.iload_n 1, 1) := by decide +kernel
theorem dX11_leftBy_9 : decode cX11_leftBy 9 = .ok (.irem, 1) := by decide +kernel
theorem dX11_leftBy_10 : decode cX11_leftBy 10 = .ok (.istore_n 2, 1) := by decide +kernel
theorem dX11_leftBy_11 : decode cX11_leftBy 11 = .ok (.iload_n 2, 1) := by decide +kernel
theorem dX11_leftBy_12 : decode cX11_leftBy 12 = .ok (.ifCond .ge 9, 3) := by decide +kernel
theorem dX11_leftBy_15 : decode cX11_leftBy 15 = .ok (.iload_n 2, 1) := by decide +kernel
theorem dX11_leftBy_16 : decode cX11_leftBy 16 = .ok (.iload_n 1, 1) := by decide +kernel
theorem dX11_leftBy_17 : decode cX11_leftBy 17 = .ok (.iadd, 1) := by decide +kernel
theorem dX11_leftBy_18 : decode cX11_leftBy 18 = .ok (.goto 4, 3) := by decide +kernel
theorem dX11_leftBy_21 : decode cX11_leftBy 21 = .ok (.iload_n 2, 1) := by decide +kernel
theorem dX11_leftBy_22 : decode cX11_leftBy 22 = .ok (.ireturn, 1) := by decide +kernel
noncomputable def RC_leftBy (p0 : Int32) (p1 : Int32) : Option Int32 :=
  if 1 ≤ p1 then (chk (nzI p1) (bnd ((jrem p0 p1)) (fun v2 => if 0 ≤ v2 then (some v2) else (some (v2 + p1))))) else (some 0)
set_option maxRecDepth 100000 in
set_option maxHeartbeats 4000000 in
theorem tm_RC_leftBy {V : Ev} {Γ : Cn} {fin : Option Value × St} {σ : St} {p0 : Int32} {p1 : Int32} {o : Int32} (X : Cx V Γ M_X11_leftBy) {A : Int32 → Prop}  (hr : ∀ (r : Int32), A r → (some (.int r), σ) = fin) (h : RC_leftBy p0 p1 = some o) (hA : A o) : Go V Γ M_X11_leftBy (Zm V Γ 0 fin) 0 [(0, .int p0), (1, .int p1)] [] σ := by
  unfold RC_leftBy at h
  refine g_iload_n (pc := 0) X 1 rfl dX11_leftBy_0 ?_
  refine g_iconst (v := 1) (pc := 1) X rfl dX11_leftBy_1 ?_
  refine g_icmp_ge (pc := 2) (tgt := 7) X dX11_leftBy_2 rfl (fun c4 => ?_) (fun c4 => ?_)
  · replace h := if_t c4 h
    refine g_iload_n (pc := 7) X 0 rfl dX11_leftBy_7 ?_
    refine g_iload_n (pc := 8) X 1 rfl dX11_leftBy_8 ?_
    obtain ⟨c1, h⟩ := chk_e h
    refine g_irem (pc := 9) X (nzI_e c1) dX11_leftBy_9 ?_
    obtain ⟨v2, e_v2, h⟩ := bnd_e h
    refine g_nmI e_v2 ?_
    refine g_istore_n (pc := 10) X [(2, .int v2), (0, .int p0), (1, .int p1)] rfl (Nat.le_of_ble_eq_true rfl) rfl dX11_leftBy_10 ?_
    refine g_iload_n (pc := 11) X 0 rfl dX11_leftBy_11 ?_
    refine g_if_ge (pc := 12) (tgt := 21) X dX11_leftBy_12 rfl (fun c3 => ?_) (fun c3 => ?_)
    · replace h := if_t c3 h
      refine g_iload_n (pc := 21) X 0 rfl dX11_leftBy_21 ?_
      cases h
      exact g_iret (pc := 22) X rfl rfl (hr _ hA) dX11_leftBy_22
    · replace h := if_f c3 h
      refine g_iload_n (pc := 15) X 0 rfl dX11_leftBy_15 ?_
      refine g_iload_n (pc := 16) X 2 rfl dX11_leftBy_16 ?_
      refine g_iadd (pc := 17) X dX11_leftBy_17 ?_
      refine g_goto (pc := 18) (tgt := 22) X dX11_leftBy_18 rfl ?_
      cases h
      exact g_iret (pc := 22) X rfl rfl (hr _ hA) dX11_leftBy_22
  · replace h := if_f c4 h
    refine g_iconst (v := 0) (pc := 5) X rfl dX11_leftBy_5 ?_
    cases h
    exact g_iret (pc := 6) X rfl rfl (hr _ hA) dX11_leftBy_6
set_option maxRecDepth 100000 in
theorem run_RC_leftBy {V : Ev} {σ : St} {p0 : Int32} {p1 : Int32} {o : Int32}   (h : RC_leftBy p0 p1 = some o) : Rs V 0 M_X11_leftBy [.int p0, .int p1] σ (some (.int o), σ) := by
  refine Rs.of (by decide +kernel) (Nat.le_of_ble_eq_true rfl) (fun Γ X => ?_)
  exact tm_RC_leftBy X (A := fun o1 => o1 = o)  (fun _ e => by rw [e]) h rfl
theorem dX11_wordOf_0 : decode cX11_wordOf 0 = .ok (.lload_n 0, 1) := by decide +kernel
theorem dX11_wordOf_1 : decode cX11_wordOf 1 = .ok (.iload_n 3, 1) := by decide +kernel
theorem dX11_wordOf_2 : decode cX11_wordOf 2 = .ok (.iload 4, 2) := by decide +kernel
theorem dX11_wordOf_4 : decode cX11_wordOf 4 = .ok (.bipush 64, 2) := by decide +kernel
theorem dX11_wordOf_6 : decode cX11_wordOf 6 = .ok (.imul, 1) := by decide +kernel
theorem dX11_wordOf_7 : decode cX11_wordOf 7 = .ok (.isub, 1) := by decide +kernel
theorem dX11_wordOf_8 : decode cX11_wordOf 8 = .ok (.iload_n 2, 1) := by decide +kernel
theorem dX11_wordOf_9 : decode cX11_wordOf 9 = .ok (.invokestatic 270, 3) := by decide +kernel
theorem dX11_wordOf_12 : decode cX11_wordOf 12 = .ok (.lshl, 1) := by decide +kernel
theorem dX11_wordOf_13 : decode cX11_wordOf 13 = .ok (.lreturn, 1) := by decide +kernel
noncomputable def RC_wordOf (p0 : Int64) (p1 : Int32) (p2 : Int32) (p3 : Int32) : Option Int64 :=
  bd (RC_leftBy (p2 - (p3 * 64)) p1) (fun r2 => some (p0 <<< (r2.toInt64 &&& 63)))
set_option maxRecDepth 100000 in
set_option maxHeartbeats 4000000 in
theorem tm_RC_wordOf {V : Ev} {Γ : Cn} {fin : Option Value × St} {σ : St} {p0 : Int64} {p1 : Int32} {p2 : Int32} {p3 : Int32} {o : Int64} (X : Cx V Γ M_X11_wordOf) {A : Int64 → Prop}  (hr : ∀ (r : Int64), A r → (some (.long r), σ) = fin) (h : RC_wordOf p0 p1 p2 p3 = some o) (hA : A o) : Go V Γ M_X11_wordOf (Zm V Γ 1 fin) 0 [(0, .long p0), (2, .int p1), (3, .int p2), (4, .int p3)] [] σ := by
  unfold RC_wordOf at h
  refine g_lload_n (pc := 0) X 0 rfl dX11_wordOf_0 ?_
  refine g_iload_n (pc := 1) X 2 rfl dX11_wordOf_1 ?_
  refine g_iload (pc := 2) X 3 rfl dX11_wordOf_2 ?_
  refine g_bipush (v := 64) (pc := 4) X (by decide) dX11_wordOf_4 ?_
  refine g_imul (pc := 6) X dX11_wordOf_6 ?_
  refine g_isub (pc := 7) X dX11_wordOf_7 ?_
  refine g_iload_n (pc := 8) X 1 rfl dX11_wordOf_8 ?_
  obtain ⟨r2, hc1, h⟩ := bd_e h
  refine g_callS (pc := 9) X k_ml_X11_270 (run_RC_leftBy  hc1) rfl (room_ok (Nat.le_of_ble_eq_true rfl) (Nat.le_of_ble_eq_true rfl)) ⟨Nat.le_refl _, Nat.le_refl _⟩ _ rfl (Nat.le_of_ble_eq_true rfl) dX11_wordOf_9 ?_
  show Go V Γ M_X11_wordOf (Zm V Γ 1 fin) 12 [(0, .long p0), (2, .int p1), (3, .int p2), (4, .int p3)] [.int r2, .long p0] σ
  refine g_lshl (pc := 12) X dX11_wordOf_12 ?_
  cases h
  exact g_lret (pc := 13) X rfl (hr _ hA) dX11_wordOf_13
set_option maxRecDepth 100000 in
theorem run_RC_wordOf {V : Ev} {σ : St} {p0 : Int64} {p1 : Int32} {p2 : Int32} {p3 : Int32} {o : Int64}   (h : RC_wordOf p0 p1 p2 p3 = some o) : Rs V 1 M_X11_wordOf [.long p0, .int p1, .int p2, .int p3] σ (some (.long o), σ) := by
  refine Rs.of (by decide +kernel) (Nat.le_of_ble_eq_true rfl) (fun Γ X => ?_)
  exact tm_RC_wordOf X (A := fun o1 => o1 = o)  (fun _ e => by rw [e]) h rfl
theorem dX0_lay_0 : decode cX0_lay 0 = .ok (.aload_n 0, 1) := by decide +kernel
theorem dX0_lay_1 : decode cX0_lay 1 = .ok (.getfield 9, 3) := by decide +kernel
theorem dX0_lay_4 : decode cX0_lay 4 = .ok (.iload_n 1, 1) := by decide +kernel
theorem dX0_lay_5 : decode cX0_lay 5 = .ok (.iaload, 1) := by decide +kernel
theorem dX0_lay_6 : decode cX0_lay 6 = .ok (.invokestatic 76, 3) := by decide +kernel
theorem dX0_lay_9 : decode cX0_lay 9 = .ok (.lstore_n 3, 1) := by decide +kernel
theorem dX0_lay_10 : decode cX0_lay 10 = .ok (.aload_n 0, 1) := by decide +kernel
theorem dX0_lay_11 : decode cX0_lay 11 = .ok (.getfield 20, 3) := by decide +kernel
theorem dX0_lay_14 : decode cX0_lay 14 = .ok (.iload_n 1, 1) := by decide +kernel
theorem dX0_lay_15 : decode cX0_lay 15 = .ok (.aaload, 1) := by decide +kernel
theorem dX0_lay_16 : decode cX0_lay 16 = .ok (.astore 5, 2) := by decide +kernel
theorem dX0_lay_18 : decode cX0_lay 18 = .ok (.aload_n 0, 1) := by decide +kernel
theorem dX0_lay_19 : decode cX0_lay 19 = .ok (.getfield 20, 3) := by decide +kernel
theorem dX0_lay_22 : decode cX0_lay 22 = .ok (.iload_n 1, 1) := by decide +kernel
theorem dX0_lay_23 : decode cX0_lay 23 = .ok (.iconst 1, 1) := by decide +kernel
theorem dX0_lay_24 : decode cX0_lay 24 = .ok (.iadd, 1) := by decide +kernel
theorem dX0_lay_25 : decode cX0_lay 25 = .ok (.aaload, 1) := by decide +kernel
theorem dX0_lay_26 : decode cX0_lay 26 = .ok (.astore 6, 2) := by decide +kernel
theorem dX0_lay_28 : decode cX0_lay 28 = .ok (.aload_n 0, 1) := by decide +kernel
theorem dX0_lay_29 : decode cX0_lay 29 = .ok (.getfield 30, 3) := by decide +kernel
theorem dX0_lay_32 : decode cX0_lay 32 = .ok (.invokestatic 79, 3) := by decide +kernel
theorem dX0_lay_35 : decode cX0_lay 35 = .ok (.istore 7, 2) := by decide +kernel
theorem dX0_lay_37 : decode cX0_lay 37 = .ok (.iconst 0, 1) := by decide +kernel
theorem dX0_lay_38 : decode cX0_lay 38 = .ok (.istore 8, 2) := by decide +kernel
theorem dX0_lay_40 : decode cX0_lay 40 = .ok (.iload 8, 2) := by decide +kernel
theorem dX0_lay_42 : decode cX0_lay 42 = .ok (.iload 7, 2) := by decide +kernel
theorem dX0_lay_44 : decode cX0_lay 44 = .ok (.if_icmp .ge 69, 3) := by decide +kernel
theorem dX0_lay_47 : decode cX0_lay 47 = .ok (.lload_n 3, 1) := by decide +kernel
theorem dX0_lay_48 : decode cX0_lay 48 = .ok (.aload_n 0, 1) := by decide +kernel
theorem dX0_lay_49 : decode cX0_lay 49 = .ok (.getfield 9, 3) := by decide +kernel
theorem dX0_lay_52 : decode cX0_lay 52 = .ok (.iload_n 1, 1) := by decide +kernel
theorem dX0_lay_53 : decode cX0_lay 53 = .ok (.iaload, 1) := by decide +kernel
theorem dX0_lay_54 : decode cX0_lay 54 = .ok (.iload_n 2, 1) := by decide +kernel
theorem dX0_lay_55 : decode cX0_lay 55 = .ok (.iload 8, 2) := by decide +kernel
theorem dX0_lay_57 : decode cX0_lay 57 = .ok (.invokestatic 83, 3) := by decide +kernel
theorem dX0_lay_60 : decode cX0_lay 60 = .ok (.aload_n 0, 1) := by decide +kernel
theorem dX0_lay_61 : decode cX0_lay 61 = .ok (.getfield 30, 3) := by decide +kernel
theorem dX0_lay_64 : decode cX0_lay 64 = .ok (.iload 8, 2) := by decide +kernel
theorem dX0_lay_66 : decode cX0_lay 66 = .ok (.invokestatic 87, 3) := by decide +kernel
theorem dX0_lay_69 : decode cX0_lay 69 = .ok (.land, 1) := by decide +kernel
theorem dX0_lay_70 : decode cX0_lay 70 = .ok (.lstore 9, 2) := by decide +kernel
theorem dX0_lay_72 : decode cX0_lay 72 = .ok (.aload_n 0, 1) := by decide +kernel
theorem dX0_lay_73 : decode cX0_lay 73 = .ok (.getfield 27, 3) := by decide +kernel
theorem dX0_lay_76 : decode cX0_lay 76 = .ok (.ifCond .eq 18, 3) := by decide +kernel
theorem dX0_lay_79 : decode cX0_lay 79 = .ok (.aload 5, 2) := by decide +kernel
theorem dX0_lay_81 : decode cX0_lay 81 = .ok (.iload 8, 2) := by decide +kernel
theorem dX0_lay_83 : decode cX0_lay 83 = .ok (.laload, 1) := by decide +kernel
theorem dX0_lay_84 : decode cX0_lay 84 = .ok (.lload 9, 2) := by decide +kernel
theorem dX0_lay_86 : decode cX0_lay 86 = .ok (.land, 1) := by decide +kernel
theorem dX0_lay_87 : decode cX0_lay 87 = .ok (.lconst 0, 1) := by decide +kernel
theorem dX0_lay_88 : decode cX0_lay 88 = .ok (.lcmp, 1) := by decide +kernel
theorem dX0_lay_89 : decode cX0_lay 89 = .ok (.ifCond .eq 5, 3) := by decide +kernel
theorem dX0_lay_92 : decode cX0_lay 92 = .ok (.iconst 0, 1) := by decide +kernel
theorem dX0_lay_93 : decode cX0_lay 93 = .ok (.ireturn, 1) := by decide +kernel
theorem dX0_lay_94 : decode cX0_lay 94 = .ok (.aload 6, 2) := by decide +kernel
theorem dX0_lay_96 : decode cX0_lay 96 = .ok (.iload 8, 2) := by decide +kernel
theorem dX0_lay_98 : decode cX0_lay 98 = .ok (.aload 5, 2) := by decide +kernel
theorem dX0_lay_100 : decode cX0_lay 100 = .ok (.iload 8, 2) := by decide +kernel
theorem dX0_lay_102 : decode cX0_lay 102 = .ok (.laload, 1) := by decide +kernel
theorem dX0_lay_103 : decode cX0_lay 103 = .ok (.lload 9, 2) := by decide +kernel
theorem dX0_lay_105 : decode cX0_lay 105 = .ok (.lor, 1) := by decide +kernel
theorem dX0_lay_106 : decode cX0_lay 106 = .ok (.lastore, 1) := by decide +kernel
theorem dX0_lay_107 : decode cX0_lay 107 = .ok (.iinc 8 1, 3) := by decide +kernel
theorem dX0_lay_110 : decode cX0_lay 110 = .ok (.goto (-70), 3) := by decide +kernel
theorem dX0_lay_113 : decode cX0_lay 113 = .ok (.iconst 1, 1) := by decide +kernel
theorem dX0_lay_114 : decode cX0_lay 114 = .ok (.ireturn, 1) := by decide +kernel
noncomputable def Ch_lay_J94_40 (σ : St) (l1 : Int32) (l2 : Int32) (l3 : Int64) (l5 : Nat) (l6 : Nat) (l7 : Int32) (l8 : Int32) (l9 : Int64) : Option (((Int32 × St) ⊕ (Int32 × St))) :=
  chk (ix l8 79) (chk (ix l8 79) (bnd (wL σ l6 (tn l8) ((σ.2 l5 (tn l8)) ||| l9)) (fun σ16 => bnd (l8 + 1) (fun v17 => some (.inl (v17, σ16))))))
set_option maxRecDepth 100000 in
set_option maxHeartbeats 4000000 in
theorem tj_Ch_lay_J94_40 {V : Ev} {Γ : Cn} {fin : Option Value × St} {σ : St} {l1 : Int32} {l2 : Int32} {l3 : Int64} {l5 : Nat} {l6 : Nat} {l7 : Int32} {l8 : Int32} {l9 : Int64} {o : ((Int32 × St) ⊕ (Int32 × St))} (X : Cx V Γ M_X0_lay) {A : ((Int32 × St) ⊕ (Int32 × St)) → Prop} (k_l5 : shp[l5]? = some (.inr (1, 79))) (k_l6 : shp[l6]? = some (.inr (1, 79))) (hr : ∀ (r : Int32) (σ9 : St), A (.inr (r, σ9)) → (some (.int r), σ9) = fin) (hb40 : ∀ (x8 : Int32) (σ9 : St), A (.inl (x8, σ9)) → Go V Γ M_X0_lay (Zm V Γ 2 fin) 40 [(0, .ref (V.2.2.1 + 36)), (1, .int l1), (2, .int l2), (3, .long l3), (5, .ref (V.2.2.1 + l5)), (6, .ref (V.2.2.1 + l6)), (7, .int l7), (8, .int x8)] [] σ9) (h : Ch_lay_J94_40 σ l1 l2 l3 l5 l6 l7 l8 l9 = some o) (hA : A o) : Go V Γ M_X0_lay (Zm V Γ 2 fin) 94 [(0, .ref (V.2.2.1 + 36)), (1, .int l1), (2, .int l2), (3, .long l3), (5, .ref (V.2.2.1 + l5)), (6, .ref (V.2.2.1 + l6)), (7, .int l7), (8, .int l8), (9, .long l9)] [] σ := by
  unfold Ch_lay_J94_40 at h
  refine g_aload (pc := 94) X 5 rfl dX0_lay_94 ?_
  refine g_iload (pc := 96) X 7 rfl dX0_lay_96 ?_
  refine g_aload (pc := 98) X 4 rfl dX0_lay_98 ?_
  refine g_iload (pc := 100) X 7 rfl dX0_lay_100 ?_
  obtain ⟨c14, h⟩ := chk_e h
  refine g_lald (pc := 102) X k_l5 c14 dX0_lay_102 ?_
  refine g_lload (pc := 103) X 8 rfl dX0_lay_103 ?_
  refine g_lor (pc := 105) X dX0_lay_105 ?_
  obtain ⟨c15, h⟩ := chk_e h
  refine g_last (pc := 106) X k_l6 c15 dX0_lay_106 ?_
  obtain ⟨σ16, e_σ16, h⟩ := bnd_e h
  refine g_nmS e_σ16 ?_
  obtain ⟨v17, e_v17, h⟩ := bnd_e h
  refine g_iinc (pc := 107) (v := v17) X [(8, .int v17), (0, .ref (V.2.2.1 + 36)), (1, .int l1), (2, .int l2), (3, .long l3), (5, .ref (V.2.2.1 + l5)), (6, .ref (V.2.2.1 + l6)), (7, .int l7), (9, .long l9)] 7 rfl (by rw [e_v17]; rfl) (Nat.le_of_ble_eq_true rfl) rfl dX0_lay_107 ?_
  refine g_goto (pc := 110) (tgt := 40) X dX0_lay_110 rfl ?_
  refine g_sub [1, 2, 3, 4, 5, 6, 7, 0] rfl ?_
  cases h
  exact hb40 _ _ hA
noncomputable def Ch_lay_L40 (l1 : Int32) (l2 : Int32) (l3 : Int64) (l5 : Nat) (l6 : Nat) (l7 : Int32) (σ : St) (x8 : Int32) : Option ((Int32 × St) ⊕ (Int32 × St)) :=
  if l7 ≤ x8 then (some (.inr (1, σ))) else (chk (ix l1 6) (bd (RC_wordOf l3 (σ.1 37 (tn l1)) l2 x8) (fun r10 => bd (RC_insideOf (σ.1 36 5) x8) (fun r12 => bnd ((r10 &&& r12)) (fun v13 => if (σ.1 36 4) = 0 then (Ch_lay_J94_40 σ l1 l2 l3 l5 l6 l7 x8 v13) else (chk (ix x8 79) (if ((σ.2 l5 (tn x8)) &&& v13) = 0 then (Ch_lay_J94_40 σ l1 l2 l3 l5 l6 l7 x8 v13) else (some (.inr (0, σ))))))))))
set_option maxRecDepth 100000 in
set_option maxHeartbeats 4000000 in
theorem tb_Ch_lay_L40 {V : Ev} {Γ : Cn} {fin : Option Value × St} {l1 : Int32} {l2 : Int32} {l3 : Int64} {l5 : Nat} {l6 : Nat} {l7 : Int32} {σ : St} {x8 : Int32} {o : ((Int32 × St) ⊕ (Int32 × St))} (X : Cx V Γ M_X0_lay) {A : ((Int32 × St) ⊕ (Int32 × St)) → Prop} (k_l5 : shp[l5]? = some (.inr (1, 79))) (k_l6 : shp[l6]? = some (.inr (1, 79))) (hr : ∀ (r : Int32) (σ9 : St), A (.inr (r, σ9)) → (some (.int r), σ9) = fin) (hb40 : ∀ (x8 : Int32) (σ9 : St), A (.inl (x8, σ9)) → Go V Γ M_X0_lay (Zm V Γ 2 fin) 40 [(0, .ref (V.2.2.1 + 36)), (1, .int l1), (2, .int l2), (3, .long l3), (5, .ref (V.2.2.1 + l5)), (6, .ref (V.2.2.1 + l6)), (7, .int l7), (8, .int x8)] [] σ9) (h : Ch_lay_L40 l1 l2 l3 l5 l6 l7 σ x8 = some o) (hA : A o) : Go V Γ M_X0_lay (Zm V Γ 2 fin) 40 [(0, .ref (V.2.2.1 + 36)), (1, .int l1), (2, .int l2), (3, .long l3), (5, .ref (V.2.2.1 + l5)), (6, .ref (V.2.2.1 + l6)), (7, .int l7), (8, .int x8)] [] σ := by
  unfold Ch_lay_L40 at h
  refine g_iload (pc := 40) X 7 rfl dX0_lay_40 ?_
  refine g_iload (pc := 42) X 6 rfl dX0_lay_42 ?_
  refine g_icmp_ge (pc := 44) (tgt := 113) X dX0_lay_44 rfl (fun c21 => ?_) (fun c21 => ?_)
  · replace h := if_t c21 h
    refine g_iconst (v := 1) (pc := 113) X rfl dX0_lay_113 ?_
    cases h
    exact g_iret (pc := 114) X rfl nz1.1 (hr _ _ hA) dX0_lay_114
  · replace h := if_f c21 h
    refine g_lload_n (pc := 47) X 3 rfl dX0_lay_47 ?_
    refine g_aload_n (pc := 48) X 0 rfl dX0_lay_48 ?_
    refine g_getR (r := 37) (pc := 49) X k_fl_X0_9 s_36 rfl dX0_lay_49 ?_
    refine g_iload_n (pc := 52) X 1 rfl dX0_lay_52 ?_
    obtain ⟨c8, h⟩ := chk_e h
    refine g_iald (pc := 53) X s_37 c8 dX0_lay_53 ?_
    refine g_iload_n (pc := 54) X 2 rfl dX0_lay_54 ?_
    refine g_iload (pc := 55) X 7 rfl dX0_lay_55 ?_
    obtain ⟨r10, hc9, h⟩ := bd_e h
    refine g_callS (pc := 57) X k_ml_X0_83 (run_RC_wordOf  hc9) rfl (room_ok (Nat.le_of_ble_eq_true rfl) (Nat.le_of_ble_eq_true rfl)) ⟨Nat.le_refl _, Nat.le_refl _⟩ _ rfl (Nat.le_of_ble_eq_true rfl) dX0_lay_57 ?_
    show Go V Γ M_X0_lay (Zm V Γ 2 fin) 60 [(0, .ref (V.2.2.1 + 36)), (1, .int l1), (2, .int l2), (3, .long l3), (5, .ref (V.2.2.1 + l5)), (6, .ref (V.2.2.1 + l6)), (7, .int l7), (8, .int x8)] [.long r10] σ
    refine g_aload_n (pc := 60) X 0 rfl dX0_lay_60 ?_
    refine g_getI (pc := 61) X k_fl_X0_30 s_36 rfl dX0_lay_61 ?_
    refine g_iload (pc := 64) X 7 rfl dX0_lay_64 ?_
    obtain ⟨r12, hc11, h⟩ := bd_e h
    refine g_callS (pc := 66) X k_ml_X0_87 (run_RC_insideOf  hc11) rfl (room_ok (Nat.le_of_ble_eq_true rfl) (Nat.le_of_ble_eq_true rfl)) ⟨Nat.le_refl _, Nat.le_refl _⟩ _ rfl (Nat.le_of_ble_eq_true rfl) dX0_lay_66 ?_
    show Go V Γ M_X0_lay (Zm V Γ 2 fin) 69 [(0, .ref (V.2.2.1 + 36)), (1, .int l1), (2, .int l2), (3, .long l3), (5, .ref (V.2.2.1 + l5)), (6, .ref (V.2.2.1 + l6)), (7, .int l7), (8, .int x8)] [.long r12, .long r10] σ
    refine g_land (pc := 69) X dX0_lay_69 ?_
    obtain ⟨v13, e_v13, h⟩ := bnd_e h
    refine g_nmL e_v13 ?_
    refine g_lstore (pc := 70) X [(9, .long v13), (0, .ref (V.2.2.1 + 36)), (1, .int l1), (2, .int l2), (3, .long l3), (5, .ref (V.2.2.1 + l5)), (6, .ref (V.2.2.1 + l6)), (7, .int l7), (8, .int x8)] (Nat.le_of_ble_eq_true rfl) rfl dX0_lay_70 ?_
    refine g_aload_n (pc := 72) X 1 rfl dX0_lay_72 ?_
    refine g_getI (pc := 73) X k_fl_X0_27 s_36 rfl dX0_lay_73 ?_
    refine g_if_eq (pc := 76) (tgt := 94) X dX0_lay_76 rfl (fun c20 => ?_) (fun c20 => ?_)
    · replace h := if_t c20 h
      refine g_sub [1, 2, 3, 4, 5, 6, 7, 8, 0] rfl ?_
      exact tj_Ch_lay_J94_40 X k_l5 k_l6 hr hb40 h hA
    · replace h := if_f c20 h
      refine g_aload (pc := 79) X 5 rfl dX0_lay_79 ?_
      refine g_iload (pc := 81) X 8 rfl dX0_lay_81 ?_
      obtain ⟨c18, h⟩ := chk_e h
      refine g_lald (pc := 83) X k_l5 c18 dX0_lay_83 ?_
      refine g_lload (pc := 84) X 0 rfl dX0_lay_84 ?_
      refine g_land (pc := 86) X dX0_lay_86 ?_
      refine g_lconst (v := 0) (pc := 87) X rfl dX0_lay_87 ?_
      refine g_lcmp_eq (pc := 88) (tgt := 94) X dX0_lay_88 dX0_lay_89 rfl (fun c19 => ?_) (fun c19 => ?_)
      · replace h := if_t c19 h
        refine g_sub [1, 2, 3, 4, 5, 6, 7, 8, 0] rfl ?_
        exact tj_Ch_lay_J94_40 X k_l5 k_l6 hr hb40 h hA
      · replace h := if_f c19 h
        refine g_iconst (v := 0) (pc := 92) X rfl dX0_lay_92 ?_
        cases h
        exact g_iret (pc := 93) X rfl nz0.1 (hr _ _ hA) dX0_lay_93
set_option maxRecDepth 100000 in
theorem tl_Ch_lay_L40 {V : Ev} {Γ : Cn} {fin : Option Value × St} {l1 : Int32} {l2 : Int32} {l3 : Int64} {l5 : Nat} {l6 : Nat} {l7 : Int32} {x8 : Int32} {σ9 : St} (X : Cx V Γ M_X0_lay) (k_l5 : shp[l5]? = some (.inr (1, 79))) (k_l6 : shp[l6]? = some (.inr (1, 79))) {e : (Int32 × St)} {A : (Int32 × St) → Prop} (hr : ∀ (r : Int32) (σ9 : St), A (r, σ9) → (some (.int r), σ9) = fin) {n : Nat} (h : iter (fun s : (Int32 × St) => Ch_lay_L40 l1 l2 l3 l5 l6 l7 s.2 s.1) n (x8, σ9) = some e) (hA : A e) : Go V Γ M_X0_lay (Zm V Γ 2 fin) 40 [(0, .ref (V.2.2.1 + 36)), (1, .int l1), (2, .int l2), (3, .long l3), (5, .ref (V.2.2.1 + l5)), (6, .ref (V.2.2.1 + l6)), (7, .int l7), (8, .int x8)] [] σ9 := by
  refine iter_go (G := (fun s : (Int32 × St) => Go V Γ M_X0_lay (Zm V Γ 2 fin) 40 [(0, .ref (V.2.2.1 + 36)), (1, .int l1), (2, .int l2), (3, .long l3), (5, .ref (V.2.2.1 + l5)), (6, .ref (V.2.2.1 + l6)), (7, .int l7), (8, .int s.1)] [] s.2)) (fun s o ho hS => ?_) n (x8, σ9) h
  exact tb_Ch_lay_L40 X k_l5 k_l6 (fun z0 z1 he => hr z0 z1 (by rw [he]; exact hA)) (fun _ _ h9 => h9) ho hS
noncomputable def Ch_lay (σ : St) (p1 : Int32) (p2 : Int32) : Option (Int32 × St) :=
  chk (ix p1 6) (bd (RC_combOf (σ.1 37 (tn p1))) (fun r3 => chk (ix p1 7) (chk (ix (p1 + 1) 7) (bd (RC_wordsFor (σ.1 36 5)) (fun r7 => iter (fun s : (Int32 × St) => Ch_lay_L40 p1 p2 r3 (rfs 39 (tn p1)) (rfs 39 (tn (p1 + 1))) r7 s.2 s.1) FUEL (0, σ))))))
set_option maxRecDepth 100000 in
set_option maxHeartbeats 4000000 in
theorem tm_Ch_lay {V : Ev} {Γ : Cn} {fin : Option Value × St} {σ : St} {p1 : Int32} {p2 : Int32} {o : (Int32 × St)} (X : Cx V Γ M_X0_lay) {A : (Int32 × St) → Prop}  (hr : ∀ (r : Int32) (σ9 : St), A (r, σ9) → (some (.int r), σ9) = fin) (h : Ch_lay σ p1 p2 = some o) (hA : A o) : Go V Γ M_X0_lay (Zm V Γ 2 fin) 0 [(0, .ref (V.2.2.1 + 36)), (1, .int p1), (2, .int p2)] [] σ := by
  unfold Ch_lay at h
  refine g_aload_n (pc := 0) X 0 rfl dX0_lay_0 ?_
  refine g_getR (r := 37) (pc := 1) X k_fl_X0_9 s_36 rfl dX0_lay_1 ?_
  refine g_iload_n (pc := 4) X 1 rfl dX0_lay_4 ?_
  obtain ⟨c1, h⟩ := chk_e h
  refine g_iald (pc := 5) X s_37 c1 dX0_lay_5 ?_
  obtain ⟨r3, hc2, h⟩ := bd_e h
  refine g_callS (pc := 6) X k_ml_X0_76 (run_RC_combOf  hc2) rfl (room_ok (Nat.le_of_ble_eq_true rfl) (Nat.le_of_ble_eq_true rfl)) ⟨Nat.le_refl _, Nat.le_refl _⟩ _ rfl (Nat.le_of_ble_eq_true rfl) dX0_lay_6 ?_
  show Go V Γ M_X0_lay (Zm V Γ 2 fin) 9 [(0, .ref (V.2.2.1 + 36)), (1, .int p1), (2, .int p2)] [.long r3] σ
  refine g_lstore_n (pc := 9) X [(3, .long r3), (0, .ref (V.2.2.1 + 36)), (1, .int p1), (2, .int p2)] rfl (Nat.le_of_ble_eq_true rfl) rfl dX0_lay_9 ?_
  refine g_aload_n (pc := 10) X 1 rfl dX0_lay_10 ?_
  refine g_getR (r := 39) (pc := 11) X k_fl_X0_20 s_36 rfl dX0_lay_11 ?_
  refine g_iload_n (pc := 14) X 2 rfl dX0_lay_14 ?_
  obtain ⟨c4, h⟩ := chk_e h
  refine g_aald (ak := 3) (pc := 15) X s_39 rfl rfl c4 dX0_lay_15 ?_
  refine g_astore (pc := 16) X [(5, .ref (V.2.2.1 + (rfs 39 (tn p1)))), (3, .long r3), (0, .ref (V.2.2.1 + 36)), (1, .int p1), (2, .int p2)] (Nat.le_of_ble_eq_true rfl) rfl dX0_lay_16 ?_
  refine g_aload_n (pc := 18) X 2 rfl dX0_lay_18 ?_
  refine g_getR (r := 39) (pc := 19) X k_fl_X0_20 s_36 rfl dX0_lay_19 ?_
  refine g_iload_n (pc := 22) X 3 rfl dX0_lay_22 ?_
  refine g_iconst (v := 1) (pc := 23) X rfl dX0_lay_23 ?_
  refine g_iadd (pc := 24) X dX0_lay_24 ?_
  obtain ⟨c5, h⟩ := chk_e h
  refine g_aald (ak := 3) (pc := 25) X s_39 rfl rfl c5 dX0_lay_25 ?_
  refine g_astore (pc := 26) X [(6, .ref (V.2.2.1 + (rfs 39 (tn (p1 + 1))))), (5, .ref (V.2.2.1 + (rfs 39 (tn p1)))), (3, .long r3), (0, .ref (V.2.2.1 + 36)), (1, .int p1), (2, .int p2)] (Nat.le_of_ble_eq_true rfl) rfl dX0_lay_26 ?_
  refine g_aload_n (pc := 28) X 3 rfl dX0_lay_28 ?_
  refine g_getI (pc := 29) X k_fl_X0_30 s_36 rfl dX0_lay_29 ?_
  obtain ⟨r7, hc6, h⟩ := bd_e h
  refine g_callS (pc := 32) X k_ml_X0_79 (run_RC_wordsFor  hc6) rfl (room_ok (Nat.le_of_ble_eq_true rfl) (Nat.le_of_ble_eq_true rfl)) ⟨Nat.le_refl _, Nat.le_refl _⟩ _ rfl (Nat.le_of_ble_eq_true rfl) dX0_lay_32 ?_
  show Go V Γ M_X0_lay (Zm V Γ 2 fin) 35 [(6, .ref (V.2.2.1 + (rfs 39 (tn (p1 + 1))))), (5, .ref (V.2.2.1 + (rfs 39 (tn p1)))), (3, .long r3), (0, .ref (V.2.2.1 + 36)), (1, .int p1), (2, .int p2)] [.int r7] σ
  refine g_istore (pc := 35) X [(7, .int r7), (6, .ref (V.2.2.1 + (rfs 39 (tn (p1 + 1))))), (5, .ref (V.2.2.1 + (rfs 39 (tn p1)))), (3, .long r3), (0, .ref (V.2.2.1 + 36)), (1, .int p1), (2, .int p2)] (Nat.le_of_ble_eq_true rfl) rfl dX0_lay_35 ?_
  refine g_iconst (v := 0) (pc := 37) X rfl dX0_lay_37 ?_
  refine g_istore (pc := 38) X [(8, .int 0), (7, .int r7), (6, .ref (V.2.2.1 + (rfs 39 (tn (p1 + 1))))), (5, .ref (V.2.2.1 + (rfs 39 (tn p1)))), (3, .long r3), (0, .ref (V.2.2.1 + 36)), (1, .int p1), (2, .int p2)] (Nat.le_of_ble_eq_true rfl) rfl dX0_lay_38 ?_
  refine g_sub [5, 6, 7, 4, 3, 2, 1, 0] rfl ?_
  exact tl_Ch_lay_L40 X (sCA_of c4) (sCA_of c5) hr h hA
set_option maxRecDepth 100000 in
theorem run_Ch_lay {V : Ev} {σ : St} {p1 : Int32} {p2 : Int32} {o : (Int32 × St)}   (h : Ch_lay σ p1 p2 = some o) : Rs V 2 M_X0_lay [.ref (V.2.2.1 + 36), .int p1, .int p2] σ (some (.int o.1), o.2) := by
  refine Rs.of (by decide +kernel) (Nat.le_of_ble_eq_true rfl) (fun Γ X => ?_)
  exact tm_Ch_lay X (A := fun o1 => o1 = o)  (fun _ _ e => by rw [← e]) h rfl
theorem dX0_waysFrom_0 : decode cX0_waysFrom 0 = .ok (.iload_n 1, 1) := by decide +kernel
theorem dX0_waysFrom_1 : decode cX0_waysFrom 1 = .ok (.aload_n 0, 1) := by decide +kernel
theorem dX0_waysFrom_2 : decode cX0_waysFrom 2 = .ok (.getfield 23, 3) := by decide +kernel
theorem dX0_waysFrom_5 : decode cX0_waysFrom 5 = .ok (.if_icmp .lt 25, 3) := by decide +kernel
theorem dX0_waysFrom_8 : decode cX0_waysFrom 8 = .ok (.aload_n 0, 1) := by decide +kernel
theorem dX0_waysFrom_9 : decode cX0_waysFrom 9 = .ok (.getfield 27, 3) := by decide +kernel
theorem dX0_waysFrom_12 : decode cX0_waysFrom 12 = .ok (.iconst 2, 1) := by decide +kernel
theorem dX0_waysFrom_13 : decode cX0_waysFrom 13 = .ok (.if_icmp .eq 11, 3) := by decide +kernel
theorem dX0_waysFrom_16 : decode cX0_waysFrom 16 = .ok (.aload_n 0, 1) := by decide +kernel
theorem dX0_waysFrom_17 : decode cX0_waysFrom 17 = .ok (.iload_n 1, 1) := by decide +kernel
theorem dX0_waysFrom_18 : decode cX0_waysFrom 18 = .ok (.invokevirtual 68, 3) := by decide +kernel
theorem dX0_waysFrom_21 : decode cX0_waysFrom 21 = .ok (.ifCond .eq 7, 3) := by decide +kernel
theorem dX0_waysFrom_24 : decode cX0_waysFrom 24 = .ok (.iconst 1, 1) := by decide +kernel
theorem dX0_waysFrom_25 : decode cX0_waysFrom 25 = .ok (.goto 4, 3) := by decide +kernel
theorem dX0_waysFrom_28 : decode cX0_waysFrom 28 = .ok (.iconst 0, 1) := by decide +kernel
theorem dX0_waysFrom_29 : decode cX0_waysFrom 29 = .ok (.ireturn, 1) := by decide +kernel
theorem dX0_waysFrom_30 : decode cX0_waysFrom 30 = .ok (.iload_n 1, 1) := by decide +kernel
theorem dX0_waysFrom_31 : decode cX0_waysFrom 31 = .ok (.ifCond .ne 7, 3) := by decide +kernel
theorem dX0_waysFrom_34 : decode cX0_waysFrom 34 = .ok (.iconst 1, 1) := by decide +kernel
theorem dX0_waysFrom_35 : decode cX0_waysFrom 35 = .ok (.goto 9, 3) := by decide +kernel
theorem dX0_waysFrom_38 : decode cX0_waysFrom 38 = .ok (.aload_n 0, 1) := by decide +kernel
theorem dX0_waysFrom_39 : decode cX0_waysFrom 39 = .ok (.getfield 9, 3) := by decide +kernel
theorem dX0_waysFrom_42 : decode cX0_waysFrom 42 = .ok (.iload_n 1, 1) := by decide +kernel
theorem dX0_waysFrom_43 : decode cX0_waysFrom 43 = .ok (.iaload, 1) := by decide +kernel
theorem dX0_waysFrom_44 : decode cX0_waysFrom 44 = .ok (.istore_n 3, 1) := by decide +kernel
theorem dX0_waysFrom_45 : decode cX0_waysFrom 45 = .ok (.iconst 0, 1) := by decide +kernel
theorem dX0_waysFrom_46 : decode cX0_waysFrom 46 = .ok (.istore 4, 2) := by decide +kernel
theorem dX0_waysFrom_48 : decode cX0_waysFrom 48 = .ok (.iconst 0, 1) := by decide +kernel
theorem dX0_waysFrom_49 : decode cX0_waysFrom 49 = .ok (.istore 5, 2) := by decide +kernel
theorem dX0_waysFrom_51 : decode cX0_waysFrom 51 = .ok (.iload 5, 2) := by decide +kernel
theorem dX0_waysFrom_53 : decode cX0_waysFrom 53 = .ok (.iload_n 3, 1) := by decide +kernel
theorem dX0_waysFrom_54 : decode cX0_waysFrom 54 = .ok (.if_icmp .ge 52, 3) := by decide +kernel
theorem dX0_waysFrom_57 : decode cX0_waysFrom 57 = .ok (.aload_n 0, 1) := by decide +kernel
theorem dX0_waysFrom_58 : decode cX0_waysFrom 58 = .ok (.getfield 15, 3) := by decide +kernel
theorem dX0_waysFrom_61 : decode cX0_waysFrom 61 = .ok (.iload_n 1, 1) := by decide +kernel
theorem dX0_waysFrom_62 : decode cX0_waysFrom 62 = .ok (.iload 5, 2) := by decide +kernel
theorem dX0_waysFrom_64 : decode cX0_waysFrom 64 = .ok (.iastore, 1) := by decide +kernel
theorem dX0_waysFrom_65 : decode cX0_waysFrom 65 = .ok (.aload_n 0, 1) := by decide +kernel
theorem dX0_waysFrom_66 : decode cX0_waysFrom 66 = .ok (.iload_n 1, 1) := by decide +kernel
theorem dX0_waysFrom_67 : decode cX0_waysFrom 67 = .ok (.iload 5, 2) := by decide +kernel
theorem dX0_waysFrom_69 : decode cX0_waysFrom 69 = .ok (.invokevirtual 72, 3) := by decide +kernel
theorem dX0_waysFrom_72 : decode cX0_waysFrom 72 = .ok (.ifCond .eq 16, 3) := by decide +kernel
theorem dX0_waysFrom_75 : decode cX0_waysFrom 75 = .ok (.iload 4, 2) := by decide +kernel
theorem dX0_waysFrom_77 : decode cX0_waysFrom 77 = .ok (.aload_n 0, 1) := by decide +kernel
theorem dX0_waysFrom_78 : decode cX0_waysFrom 78 = .ok (.iload_n 1, 1) := by decide +kernel
theorem dX0_waysFrom_79 : decode cX0_waysFrom 79 = .ok (.iconst 1, 1) := by decide +kernel
theorem dX0_waysFrom_80 : decode cX0_waysFrom 80 = .ok (.iadd, 1) := by decide +kernel
theorem dX0_waysFrom_81 : decode cX0_waysFrom 81 = .ok (.iload_n 2, 1) := by decide +kernel
theorem dX0_waysFrom_82 : decode cX0_waysFrom 82 = .ok (.invokestatic 55, 3) := by decide +kernel
theorem dX0_waysFrom_85 : decode cX0_waysFrom 85 = .ok (.iadd, 1) := by decide +kernel
theorem dX0_waysFrom_86 : decode cX0_waysFrom 86 = .ok (.istore 4, 2) := by decide +kernel
theorem dX0_waysFrom_88 : decode cX0_waysFrom 88 = .ok (.iload_n 2, 1) := by decide +kernel
theorem dX0_waysFrom_89 : decode cX0_waysFrom 89 = .ok (.ifCond .eq 11, 3) := by decide +kernel
theorem dX0_waysFrom_92 : decode cX0_waysFrom 92 = .ok (.iload 4, 2) := by decide +kernel
theorem dX0_waysFrom_94 : decode cX0_waysFrom 94 = .ok (.ifCond .le 6, 3) := by decide +kernel
theorem dX0_waysFrom_97 : decode cX0_waysFrom 97 = .ok (.iload 4, 2) := by decide +kernel
theorem dX0_waysFrom_99 : decode cX0_waysFrom 99 = .ok (.ireturn, 1) := by decide +kernel
theorem dX0_waysFrom_100 : decode cX0_waysFrom 100 = .ok (.iinc 5 1, 3) := by decide +kernel
theorem dX0_waysFrom_103 : decode cX0_waysFrom 103 = .ok (.goto (-52), 3) := by decide +kernel
theorem dX0_waysFrom_106 : decode cX0_waysFrom 106 = .ok (.iload_n 1, 1) := by decide +kernel
theorem dX0_waysFrom_107 : decode cX0_waysFrom 107 = .ok (.ifCond .ne 15, 3) := by decide +kernel
theorem dX0_waysFrom_110 : decode cX0_waysFrom 110 = .ok (.iload 4, 2) := by decide +kernel
theorem dX0_waysFrom_112 : decode cX0_waysFrom 112 = .ok (.aload_n 0, 1) := by decide +kernel
theorem dX0_waysFrom_113 : decode cX0_waysFrom 113 = .ok (.getfield 9, 3) := by decide +kernel
theorem dX0_waysFrom_116 : decode cX0_waysFrom 116 = .ok (.iconst 0, 1) := by decide +kernel
theorem dX0_waysFrom_117 : decode cX0_waysFrom 117 = .ok (.iaload, 1) := by decide +kernel
theorem dX0_waysFrom_118 : decode cX0_waysFrom 118 = .ok (.imul, 1) := by decide +kernel
theorem dX0_waysFrom_119 : decode cX0_waysFrom 119 = .ok (.goto 5, 3) := by decide +kernel
theorem dX0_waysFrom_122 : decode cX0_waysFrom 122 = .ok (.iload 4, 2) := by decide +kernel
theorem dX0_waysFrom_124 : decode cX0_waysFrom 124 = .ok (.ireturn, 1) := by decide +kernel
noncomputable def Ch_waysFrom_J88_51 (rec : St → Int32 → Int32 → Option (Int32 × St)) (σ : St) (l1 : Int32) (l2 : Int32) (l3 : Int32) (l4 : Int32) (l5 : Int32) : Option (((Int32 × Int32 × St) ⊕ (Int32 × St))) :=
  if l2 = 0 then (bnd (l5 + 1) (fun v10 => some (.inl (l4, v10, σ)))) else (if l4 ≤ 0 then (bnd (l5 + 1) (fun v11 => some (.inl (l4, v11, σ)))) else (some (.inr (l4, σ))))
set_option maxRecDepth 100000 in
set_option maxHeartbeats 4000000 in
theorem tj_Ch_waysFrom_J88_51 {V : Ev} {Γ : Cn} {rec : St → Int32 → Int32 → Option (Int32 × St)} {dr : Nat} {fin : Option Value × St} {σ : St} {l1 : Int32} {l2 : Int32} {l3 : Int32} {l4 : Int32} {l5 : Int32} {o : ((Int32 × Int32 × St) ⊕ (Int32 × St))} (X : Cx V Γ M_X0_waysFrom) (hdr : 3 ≤ dr) (hrec : ∀ {σ0 : St} {p1' : Int32} {p2' : Int32} {o : (Int32 × St)}, rec σ0 p1' p2' = some o → Rs V dr M_X0_waysFrom [.ref (V.2.2.1 + 36), .int p1', .int p2'] σ0 (some (.int o.1), o.2)) {A : ((Int32 × Int32 × St) ⊕ (Int32 × St)) → Prop}  (hr : ∀ (r : Int32) (σ9 : St), A (.inr (r, σ9)) → (some (.int r), σ9) = fin) (hb51 : ∀ (x4 : Int32) (x5 : Int32) (σ9 : St), A (.inl (x4, x5, σ9)) → Go V Γ M_X0_waysFrom (Zm V Γ (dr + 1) fin) 51 [(0, .ref (V.2.2.1 + 36)), (1, .int l1), (2, .int l2), (3, .int l3), (4, .int x4), (5, .int x5)] [] σ9) (h : Ch_waysFrom_J88_51 rec σ l1 l2 l3 l4 l5 = some o) (hA : A o) : Go V Γ M_X0_waysFrom (Zm V Γ (dr + 1) fin) 88 [(0, .ref (V.2.2.1 + 36)), (1, .int l1), (2, .int l2), (3, .int l3), (4, .int l4), (5, .int l5)] [] σ := by
  unfold Ch_waysFrom_J88_51 at h
  refine g_iload_n (pc := 88) X 2 rfl dX0_waysFrom_88 ?_
  refine g_if_eq (pc := 89) (tgt := 100) X dX0_waysFrom_89 rfl (fun c13 => ?_) (fun c13 => ?_)
  · replace h := if_t c13 h
    obtain ⟨v10, e_v10, h⟩ := bnd_e h
    refine g_iinc (pc := 100) (v := v10) X [(5, .int v10), (0, .ref (V.2.2.1 + 36)), (1, .int l1), (2, .int l2), (3, .int l3), (4, .int l4)] 5 rfl (by rw [e_v10]; rfl) (Nat.le_of_ble_eq_true rfl) rfl dX0_waysFrom_100 ?_
    refine g_goto (pc := 103) (tgt := 51) X dX0_waysFrom_103 rfl ?_
    refine g_sub [1, 2, 3, 4, 5, 0] rfl ?_
    cases h
    exact hb51 _ _ _ hA
  · replace h := if_f c13 h
    refine g_iload (pc := 92) X 4 rfl dX0_waysFrom_92 ?_
    refine g_if_le (pc := 94) (tgt := 100) X dX0_waysFrom_94 rfl (fun c12 => ?_) (fun c12 => ?_)
    · replace h := if_t c12 h
      obtain ⟨v11, e_v11, h⟩ := bnd_e h
      refine g_iinc (pc := 100) (v := v11) X [(5, .int v11), (0, .ref (V.2.2.1 + 36)), (1, .int l1), (2, .int l2), (3, .int l3), (4, .int l4)] 5 rfl (by rw [e_v11]; rfl) (Nat.le_of_ble_eq_true rfl) rfl dX0_waysFrom_100 ?_
      refine g_goto (pc := 103) (tgt := 51) X dX0_waysFrom_103 rfl ?_
      refine g_sub [1, 2, 3, 4, 5, 0] rfl ?_
      cases h
      exact hb51 _ _ _ hA
    · replace h := if_f c12 h
      refine g_iload (pc := 97) X 4 rfl dX0_waysFrom_97 ?_
      cases h
      exact g_iret (pc := 99) X rfl rfl (hr _ _ hA) dX0_waysFrom_99
noncomputable def Ch_waysFrom_L51 (rec : St → Int32 → Int32 → Option (Int32 × St)) (l1 : Int32) (l2 : Int32) (l3 : Int32) (σ : St) (x4 : Int32) (x5 : Int32) : Option ((Int32 × Int32 × St) ⊕ (Int32 × St)) :=
  if l3 ≤ x5 then (if l1 = 0 then (chk (ix 0 6) (some (.inr ((x4 * (σ.1 37 (tn 0))), σ)))) else (some (.inr (x4, σ)))) else (chk (ix l1 6) (bnd (wI σ 38 (tn l1) x5) (fun σ6 => bd2 (Ch_lay σ6 l1 x5) (fun r8 σ9 => if r8 = 0 then (Ch_waysFrom_J88_51 rec σ9 l1 l2 l3 x4 x5) else (bd2 (rec σ9 (l1 + 1) l2) (fun r15 σ16 => bnd ((x4 + r15)) (fun v17 => Ch_waysFrom_J88_51 rec σ16 l1 l2 l3 v17 x5)))))))
set_option maxRecDepth 100000 in
set_option maxHeartbeats 4000000 in
theorem tb_Ch_waysFrom_L51 {V : Ev} {Γ : Cn} {rec : St → Int32 → Int32 → Option (Int32 × St)} {dr : Nat} {fin : Option Value × St} {l1 : Int32} {l2 : Int32} {l3 : Int32} {σ : St} {x4 : Int32} {x5 : Int32} {o : ((Int32 × Int32 × St) ⊕ (Int32 × St))} (X : Cx V Γ M_X0_waysFrom) (hdr : 3 ≤ dr) (hrec : ∀ {σ0 : St} {p1' : Int32} {p2' : Int32} {o : (Int32 × St)}, rec σ0 p1' p2' = some o → Rs V dr M_X0_waysFrom [.ref (V.2.2.1 + 36), .int p1', .int p2'] σ0 (some (.int o.1), o.2)) {A : ((Int32 × Int32 × St) ⊕ (Int32 × St)) → Prop}  (hr : ∀ (r : Int32) (σ9 : St), A (.inr (r, σ9)) → (some (.int r), σ9) = fin) (hb51 : ∀ (x4 : Int32) (x5 : Int32) (σ9 : St), A (.inl (x4, x5, σ9)) → Go V Γ M_X0_waysFrom (Zm V Γ (dr + 1) fin) 51 [(0, .ref (V.2.2.1 + 36)), (1, .int l1), (2, .int l2), (3, .int l3), (4, .int x4), (5, .int x5)] [] σ9) (h : Ch_waysFrom_L51 rec l1 l2 l3 σ x4 x5 = some o) (hA : A o) : Go V Γ M_X0_waysFrom (Zm V Γ (dr + 1) fin) 51 [(0, .ref (V.2.2.1 + 36)), (1, .int l1), (2, .int l2), (3, .int l3), (4, .int x4), (5, .int x5)] [] σ := by
  unfold Ch_waysFrom_L51 at h
  refine g_iload (pc := 51) X 5 rfl dX0_waysFrom_51 ?_
  refine g_iload_n (pc := 53) X 3 rfl dX0_waysFrom_53 ?_
  refine g_icmp_ge (pc := 54) (tgt := 106) X dX0_waysFrom_54 rfl (fun c19 => ?_) (fun c19 => ?_)
  · replace h := if_t c19 h
    refine g_iload_n (pc := 106) X 1 rfl dX0_waysFrom_106 ?_
    refine g_if_ne (pc := 107) (tgt := 122) X dX0_waysFrom_107 rfl (fun c4 => ?_) (fun c4 => ?_)
    · replace h := if_f c4 h
      refine g_iload (pc := 122) X 4 rfl dX0_waysFrom_122 ?_
      cases h
      exact g_iret (pc := 124) X rfl rfl (hr _ _ hA) dX0_waysFrom_124
    · replace h := if_t c4 h
      refine g_iload (pc := 110) X 4 rfl dX0_waysFrom_110 ?_
      refine g_aload_n (pc := 112) X 0 rfl dX0_waysFrom_112 ?_
      refine g_getR (r := 37) (pc := 113) X k_fl_X0_9 s_36 rfl dX0_waysFrom_113 ?_
      refine g_iconst (v := 0) (pc := 116) X rfl dX0_waysFrom_116 ?_
      obtain ⟨c3, h⟩ := chk_e h
      refine g_iald (pc := 117) X s_37 c3 dX0_waysFrom_117 ?_
      refine g_imul (pc := 118) X dX0_waysFrom_118 ?_
      refine g_goto (pc := 119) (tgt := 124) X dX0_waysFrom_119 rfl ?_
      cases h
      exact g_iret (pc := 124) X rfl rfl (hr _ _ hA) dX0_waysFrom_124
  · replace h := if_f c19 h
    refine g_aload_n (pc := 57) X 0 rfl dX0_waysFrom_57 ?_
    refine g_getR (r := 38) (pc := 58) X k_fl_X0_15 s_36 rfl dX0_waysFrom_58 ?_
    refine g_iload_n (pc := 61) X 1 rfl dX0_waysFrom_61 ?_
    refine g_iload (pc := 62) X 5 rfl dX0_waysFrom_62 ?_
    obtain ⟨c5, h⟩ := chk_e h
    refine g_iast (pc := 64) X s_38 c5 dX0_waysFrom_64 ?_
    obtain ⟨σ6, e_σ6, h⟩ := bnd_e h
    refine g_nmS e_σ6 ?_
    refine g_aload_n (pc := 65) X 0 rfl dX0_waysFrom_65 ?_
    refine g_iload_n (pc := 66) X 1 rfl dX0_waysFrom_66 ?_
    refine g_iload (pc := 67) X 5 rfl dX0_waysFrom_67 ?_
    obtain ⟨r8, σ9, hc7, h⟩ := bd2_e h
    refine g_callV (pc := 69) X k_ml_X0_72 (run_Ch_lay  hc7) s_36 rfl (room_ok (by omega) (Nat.le_of_ble_eq_true rfl)) ⟨Nat.le_refl _, Nat.le_refl _⟩ _ rfl (Nat.le_of_ble_eq_true rfl) dX0_waysFrom_69 ?_
    show Go V Γ M_X0_waysFrom (Zm V Γ (dr + 1) fin) 72 [(0, .ref (V.2.2.1 + 36)), (1, .int l1), (2, .int l2), (3, .int l3), (4, .int x4), (5, .int x5)] [.int r8] σ9
    refine g_if_eq (pc := 72) (tgt := 88) X dX0_waysFrom_72 rfl (fun c18 => ?_) (fun c18 => ?_)
    · replace h := if_t c18 h
      refine g_sub [0, 1, 2, 3, 4, 5] rfl ?_
      exact tj_Ch_waysFrom_J88_51 X hdr hrec  hr hb51 h hA
    · replace h := if_f c18 h
      refine g_iload (pc := 75) X 4 rfl dX0_waysFrom_75 ?_
      refine g_aload_n (pc := 77) X 0 rfl dX0_waysFrom_77 ?_
      refine g_iload_n (pc := 78) X 1 rfl dX0_waysFrom_78 ?_
      refine g_iconst (v := 1) (pc := 79) X rfl dX0_waysFrom_79 ?_
      refine g_iadd (pc := 80) X dX0_waysFrom_80 ?_
      refine g_iload_n (pc := 81) X 2 rfl dX0_waysFrom_81 ?_
      obtain ⟨r15, σ16, hc14, h⟩ := bd2_e h
      refine g_callS (pc := 82) X k_ml_X0_55 (hrec  hc14) rfl (room_ok (Nat.le_refl _) (Nat.le_of_ble_eq_true rfl)) ⟨Nat.le_refl _, Nat.le_refl _⟩ _ rfl (Nat.le_of_ble_eq_true rfl) dX0_waysFrom_82 ?_
      show Go V Γ M_X0_waysFrom (Zm V Γ (dr + 1) fin) 85 [(0, .ref (V.2.2.1 + 36)), (1, .int l1), (2, .int l2), (3, .int l3), (4, .int x4), (5, .int x5)] [.int r15, .int x4] σ16
      refine g_iadd (pc := 85) X dX0_waysFrom_85 ?_
      obtain ⟨v17, e_v17, h⟩ := bnd_e h
      refine g_nmI e_v17 ?_
      refine g_istore (pc := 86) X [(4, .int v17), (0, .ref (V.2.2.1 + 36)), (1, .int l1), (2, .int l2), (3, .int l3), (5, .int x5)] (Nat.le_of_ble_eq_true rfl) rfl dX0_waysFrom_86 ?_
      refine g_sub [1, 2, 3, 4, 0, 5] rfl ?_
      exact tj_Ch_waysFrom_J88_51 X hdr hrec  hr hb51 h hA
set_option maxRecDepth 100000 in
theorem tl_Ch_waysFrom_L51 {V : Ev} {Γ : Cn} {rec : St → Int32 → Int32 → Option (Int32 × St)} {dr : Nat} {fin : Option Value × St} {l1 : Int32} {l2 : Int32} {l3 : Int32} {x4 : Int32} {x5 : Int32} {σ9 : St} (X : Cx V Γ M_X0_waysFrom) (hdr : 3 ≤ dr) (hrec : ∀ {σ0 : St} {p1' : Int32} {p2' : Int32} {o : (Int32 × St)}, rec σ0 p1' p2' = some o → Rs V dr M_X0_waysFrom [.ref (V.2.2.1 + 36), .int p1', .int p2'] σ0 (some (.int o.1), o.2))  {e : (Int32 × St)} {A : (Int32 × St) → Prop} (hr : ∀ (r : Int32) (σ9 : St), A (r, σ9) → (some (.int r), σ9) = fin) {n : Nat} (h : iter (fun s : (Int32 × Int32 × St) => Ch_waysFrom_L51 rec l1 l2 l3 s.2.2 s.1 s.2.1) n (x4, x5, σ9) = some e) (hA : A e) : Go V Γ M_X0_waysFrom (Zm V Γ (dr + 1) fin) 51 [(0, .ref (V.2.2.1 + 36)), (1, .int l1), (2, .int l2), (3, .int l3), (4, .int x4), (5, .int x5)] [] σ9 := by
  refine iter_go (G := (fun s : (Int32 × Int32 × St) => Go V Γ M_X0_waysFrom (Zm V Γ (dr + 1) fin) 51 [(0, .ref (V.2.2.1 + 36)), (1, .int l1), (2, .int l2), (3, .int l3), (4, .int s.1), (5, .int s.2.1)] [] s.2.2)) (fun s o ho hS => ?_) n (x4, x5, σ9) h
  exact tb_Ch_waysFrom_L51 X hdr hrec  (fun z0 z1 he => hr z0 z1 (by rw [he]; exact hA)) (fun _ _ _ h9 => h9) ho hS
noncomputable def Ch_waysFrom_F (rec : St → Int32 → Int32 → Option (Int32 × St)) (σ : St) (p1 : Int32) (p2 : Int32) : Option (Int32 × St) :=
  if p1 < (σ.1 36 3) then (if p1 = 0 then (iter (fun s : (Int32 × Int32 × St) => Ch_waysFrom_L51 rec p1 p2 1 s.2.2 s.1 s.2.1) FUEL (0, 0, σ)) else (chk (ix p1 6) (bnd ((σ.1 37 (tn p1))) (fun v2 => iter (fun s : (Int32 × Int32 × St) => Ch_waysFrom_L51 rec p1 p2 v2 s.2.2 s.1 s.2.1) FUEL (0, 0, σ))))) else (if (σ.1 36 4) = 2 then (some (1, σ)) else (bd (Ch_isAllCaught σ p1) (fun r22 => if r22 = 0 then (some (0, σ)) else (some (1, σ)))))
set_option maxRecDepth 100000 in
set_option maxHeartbeats 4000000 in
theorem tm_Ch_waysFrom_F {V : Ev} {Γ : Cn} {rec : St → Int32 → Int32 → Option (Int32 × St)} {dr : Nat} {fin : Option Value × St} {σ : St} {p1 : Int32} {p2 : Int32} {o : (Int32 × St)} (X : Cx V Γ M_X0_waysFrom) (hdr : 3 ≤ dr) (hrec : ∀ {σ0 : St} {p1' : Int32} {p2' : Int32} {o : (Int32 × St)}, rec σ0 p1' p2' = some o → Rs V dr M_X0_waysFrom [.ref (V.2.2.1 + 36), .int p1', .int p2'] σ0 (some (.int o.1), o.2)) {A : (Int32 × St) → Prop}  (hr : ∀ (r : Int32) (σ9 : St), A (r, σ9) → (some (.int r), σ9) = fin) (h : Ch_waysFrom_F rec σ p1 p2 = some o) (hA : A o) : Go V Γ M_X0_waysFrom (Zm V Γ (dr + 1) fin) 0 [(0, .ref (V.2.2.1 + 36)), (1, .int p1), (2, .int p2)] [] σ := by
  unfold Ch_waysFrom_F at h
  refine g_iload_n (pc := 0) X 1 rfl dX0_waysFrom_0 ?_
  refine g_aload_n (pc := 1) X 0 rfl dX0_waysFrom_1 ?_
  refine g_getI (pc := 2) X k_fl_X0_23 s_36 rfl dX0_waysFrom_2 ?_
  refine g_icmp_lt (pc := 5) (tgt := 30) X dX0_waysFrom_5 rfl (fun c25 => ?_) (fun c25 => ?_)
  · replace h := if_t c25 h
    refine g_iload_n (pc := 30) X 1 rfl dX0_waysFrom_30 ?_
    refine g_if_ne (pc := 31) (tgt := 38) X dX0_waysFrom_31 rfl (fun c20 => ?_) (fun c20 => ?_)
    · replace h := if_f c20 h
      refine g_aload_n (pc := 38) X 0 rfl dX0_waysFrom_38 ?_
      refine g_getR (r := 37) (pc := 39) X k_fl_X0_9 s_36 rfl dX0_waysFrom_39 ?_
      refine g_iload_n (pc := 42) X 1 rfl dX0_waysFrom_42 ?_
      obtain ⟨c1, h⟩ := chk_e h
      refine g_iald (pc := 43) X s_37 c1 dX0_waysFrom_43 ?_
      obtain ⟨v2, e_v2, h⟩ := bnd_e h
      refine g_nmI e_v2 ?_
      refine g_istore_n (pc := 44) X [(3, .int v2), (0, .ref (V.2.2.1 + 36)), (1, .int p1), (2, .int p2)] rfl (Nat.le_of_ble_eq_true rfl) rfl dX0_waysFrom_44 ?_
      refine g_iconst (v := 0) (pc := 45) X rfl dX0_waysFrom_45 ?_
      refine g_istore (pc := 46) X [(4, .int 0), (3, .int v2), (0, .ref (V.2.2.1 + 36)), (1, .int p1), (2, .int p2)] (Nat.le_of_ble_eq_true rfl) rfl dX0_waysFrom_46 ?_
      refine g_iconst (v := 0) (pc := 48) X rfl dX0_waysFrom_48 ?_
      refine g_istore (pc := 49) X [(5, .int 0), (4, .int 0), (3, .int v2), (0, .ref (V.2.2.1 + 36)), (1, .int p1), (2, .int p2)] (Nat.le_of_ble_eq_true rfl) rfl dX0_waysFrom_49 ?_
      refine g_sub [3, 4, 5, 2, 1, 0] rfl ?_
      exact tl_Ch_waysFrom_L51 X hdr hrec  hr h hA
    · replace h := if_t c20 h
      refine g_iconst (v := 1) (pc := 34) X rfl dX0_waysFrom_34 ?_
      refine g_goto (pc := 35) (tgt := 44) X dX0_waysFrom_35 rfl ?_
      refine g_istore_n (pc := 44) X [(3, .int 1), (0, .ref (V.2.2.1 + 36)), (1, .int p1), (2, .int p2)] rfl (Nat.le_of_ble_eq_true rfl) rfl dX0_waysFrom_44 ?_
      refine g_iconst (v := 0) (pc := 45) X rfl dX0_waysFrom_45 ?_
      refine g_istore (pc := 46) X [(4, .int 0), (3, .int 1), (0, .ref (V.2.2.1 + 36)), (1, .int p1), (2, .int p2)] (Nat.le_of_ble_eq_true rfl) rfl dX0_waysFrom_46 ?_
      refine g_iconst (v := 0) (pc := 48) X rfl dX0_waysFrom_48 ?_
      refine g_istore (pc := 49) X [(5, .int 0), (4, .int 0), (3, .int 1), (0, .ref (V.2.2.1 + 36)), (1, .int p1), (2, .int p2)] (Nat.le_of_ble_eq_true rfl) rfl dX0_waysFrom_49 ?_
      refine g_sub [3, 4, 5, 2, 1, 0] rfl ?_
      exact tl_Ch_waysFrom_L51 X hdr hrec  hr h hA
  · replace h := if_f c25 h
    refine g_aload_n (pc := 8) X 0 rfl dX0_waysFrom_8 ?_
    refine g_getI (pc := 9) X k_fl_X0_27 s_36 rfl dX0_waysFrom_9 ?_
    refine g_iconst (v := 2) (pc := 12) X rfl dX0_waysFrom_12 ?_
    refine g_icmp_eq (pc := 13) (tgt := 24) X dX0_waysFrom_13 rfl (fun c24 => ?_) (fun c24 => ?_)
    · replace h := if_t c24 h
      refine g_iconst (v := 1) (pc := 24) X rfl dX0_waysFrom_24 ?_
      refine g_goto (pc := 25) (tgt := 29) X dX0_waysFrom_25 rfl ?_
      cases h
      exact g_iret (pc := 29) X rfl rfl (hr _ _ hA) dX0_waysFrom_29
    · replace h := if_f c24 h
      refine g_aload_n (pc := 16) X 0 rfl dX0_waysFrom_16 ?_
      refine g_iload_n (pc := 17) X 1 rfl dX0_waysFrom_17 ?_
      obtain ⟨r22, hc21, h⟩ := bd_e h
      refine g_callV (pc := 18) X k_ml_X0_68 (run_Ch_isAllCaught  hc21) s_36 rfl (room_ok (by omega) (Nat.le_of_ble_eq_true rfl)) ⟨Nat.le_refl _, Nat.le_refl _⟩ _ rfl (Nat.le_of_ble_eq_true rfl) dX0_waysFrom_18 ?_
      show Go V Γ M_X0_waysFrom (Zm V Γ (dr + 1) fin) 21 [(0, .ref (V.2.2.1 + 36)), (1, .int p1), (2, .int p2)] [.int r22] σ
      refine g_if_eq (pc := 21) (tgt := 28) X dX0_waysFrom_21 rfl (fun c23 => ?_) (fun c23 => ?_)
      · replace h := if_t c23 h
        refine g_iconst (v := 0) (pc := 28) X rfl dX0_waysFrom_28 ?_
        cases h
        exact g_iret (pc := 29) X rfl rfl (hr _ _ hA) dX0_waysFrom_29
      · replace h := if_f c23 h
        refine g_iconst (v := 1) (pc := 24) X rfl dX0_waysFrom_24 ?_
        refine g_goto (pc := 25) (tgt := 29) X dX0_waysFrom_25 rfl ?_
        cases h
        exact g_iret (pc := 29) X rfl rfl (hr _ _ hA) dX0_waysFrom_29
set_option maxRecDepth 100000 in
theorem run_Ch_waysFrom_F {V : Ev} {rec : St → Int32 → Int32 → Option (Int32 × St)} {dr : Nat} (hdr : 3 ≤ dr) {σ : St} {p1 : Int32} {p2 : Int32} {o : (Int32 × St)}  (hrec : ∀ {σ0 : St} {p1' : Int32} {p2' : Int32} {o : (Int32 × St)}, rec σ0 p1' p2' = some o → Rs V dr M_X0_waysFrom [.ref (V.2.2.1 + 36), .int p1', .int p2'] σ0 (some (.int o.1), o.2)) (h : Ch_waysFrom_F rec σ p1 p2 = some o) : Rs V (dr + 1) M_X0_waysFrom [.ref (V.2.2.1 + 36), .int p1, .int p2] σ (some (.int o.1), o.2) := by
  refine Rs.of (by decide +kernel) (Nat.le_of_ble_eq_true rfl) (fun Γ X => ?_)
  exact tm_Ch_waysFrom_F X hdr hrec (A := fun o1 => o1 = o)  (fun _ _ e => by rw [← e]) h rfl
noncomputable def Ch_waysFrom : Nat → St → Int32 → Int32 → Option (Int32 × St)
  | 0 => fun _ _ _ => none
  | n + 1 => fun σ p1 p2 => Ch_waysFrom_F (Ch_waysFrom n) σ p1 p2
theorem run_Ch_waysFrom {V : Ev} : ∀ (n : Nat) {σ : St} {p1 : Int32} {p2 : Int32} {o : (Int32 × St)} , Ch_waysFrom n σ p1 p2 = some o → Rs V (n + 3) M_X0_waysFrom [.ref (V.2.2.1 + 36), .int p1, .int p2] σ (some (.int o.1), o.2)
  | 0 => by intros; rename_i h; cases h
  | n + 1 => fun h => run_Ch_waysFrom_F (rec := Ch_waysFrom n) (dr := n + 3) (Nat.le_add_left _ _) (fun h => run_Ch_waysFrom n h) h
theorem dX0_countWays_0 : decode cX0_countWays 0 = .ok (.aload_n 0, 1) := by decide +kernel
theorem dX0_countWays_1 : decode cX0_countWays 1 = .ok (.iload_n 1, 1) := by decide +kernel
theorem dX0_countWays_2 : decode cX0_countWays 2 = .ok (.invokevirtual 51, 3) := by decide +kernel
theorem dX0_countWays_5 : decode cX0_countWays 5 = .ok (.aload_n 0, 1) := by decide +kernel
theorem dX0_countWays_6 : decode cX0_countWays 6 = .ok (.iconst 0, 1) := by decide +kernel
theorem dX0_countWays_7 : decode cX0_countWays 7 = .ok (.iconst 0, 1) := by decide +kernel
theorem dX0_countWays_8 : decode cX0_countWays 8 = .ok (.invokestatic 55, 3) := by decide +kernel
theorem dX0_countWays_11 : decode cX0_countWays 11 = .ok (.ireturn, 1) := by decide +kernel
noncomputable def Ch_countWays (σ : St) (p1 : Int32) : Option (Int32 × St) :=
  bd (Ch_begin σ p1) (fun σ2 => bd2 (Ch_waysFrom 60 σ2 0 0) (fun r4 σ5 => some (r4, σ5)))
set_option maxRecDepth 100000 in
set_option maxHeartbeats 4000000 in
theorem tm_Ch_countWays {V : Ev} {Γ : Cn} {fin : Option Value × St} {σ : St} {p1 : Int32} {o : (Int32 × St)} (X : Cx V Γ M_X0_countWays) {A : (Int32 × St) → Prop}  (hr : ∀ (r : Int32) (σ9 : St), A (r, σ9) → (some (.int r), σ9) = fin) (h : Ch_countWays σ p1 = some o) (hA : A o) : Go V Γ M_X0_countWays (Zm V Γ 64 fin) 0 [(0, .ref (V.2.2.1 + 36)), (1, .int p1)] [] σ := by
  unfold Ch_countWays at h
  refine g_aload_n (pc := 0) X 0 rfl dX0_countWays_0 ?_
  refine g_iload_n (pc := 1) X 1 rfl dX0_countWays_1 ?_
  obtain ⟨σ2, hc1, h⟩ := bd_e h
  refine g_callV (pc := 2) X k_ml_X0_51 (run_Ch_begin  hc1) s_36 rfl (room_ok (Nat.le_of_ble_eq_true rfl) (Nat.le_of_ble_eq_true rfl)) ⟨Nat.le_refl _, Nat.le_refl _⟩ _ rfl (Nat.le_of_ble_eq_true rfl) dX0_countWays_2 ?_
  show Go V Γ M_X0_countWays (Zm V Γ 64 fin) 5 [(0, .ref (V.2.2.1 + 36)), (1, .int p1)] [] σ2
  refine g_aload_n (pc := 5) X 0 rfl dX0_countWays_5 ?_
  refine g_iconst (v := 0) (pc := 6) X rfl dX0_countWays_6 ?_
  refine g_iconst (v := 0) (pc := 7) X rfl dX0_countWays_7 ?_
  obtain ⟨r4, σ5, hc3, h⟩ := bd2_e h
  refine g_callS (pc := 8) X k_ml_X0_55 (run_Ch_waysFrom 60  hc3) rfl (room_ok (Nat.le_of_ble_eq_true rfl) (Nat.le_of_ble_eq_true rfl)) ⟨Nat.le_refl _, Nat.le_refl _⟩ _ rfl (Nat.le_of_ble_eq_true rfl) dX0_countWays_8 ?_
  show Go V Γ M_X0_countWays (Zm V Γ 64 fin) 11 [(0, .ref (V.2.2.1 + 36)), (1, .int p1)] [.int r4] σ5
  cases h
  exact g_iret (pc := 11) X rfl rfl (hr _ _ hA) dX0_countWays_11
set_option maxRecDepth 100000 in
theorem run_Ch_countWays {V : Ev} {σ : St} {p1 : Int32} {o : (Int32 × St)}   (h : Ch_countWays σ p1 = some o) : Rs V 64 M_X0_countWays [.ref (V.2.2.1 + 36), .int p1] σ (some (.int o.1), o.2) := by
  refine Rs.of (by decide +kernel) (Nat.le_of_ble_eq_true rfl) (fun Γ X => ?_)
  exact tm_Ch_countWays X (A := fun o1 => o1 = o)  (fun _ _ e => by rw [← e]) h rfl
theorem dX0_findFirst_0 : decode cX0_findFirst 0 = .ok (.aload_n 0, 1) := by decide +kernel
theorem dX0_findFirst_1 : decode cX0_findFirst 1 = .ok (.iload_n 1, 1) := by decide +kernel
theorem dX0_findFirst_2 : decode cX0_findFirst 2 = .ok (.invokevirtual 51, 3) := by decide +kernel
theorem dX0_findFirst_5 : decode cX0_findFirst 5 = .ok (.aload_n 0, 1) := by decide +kernel
theorem dX0_findFirst_6 : decode cX0_findFirst 6 = .ok (.iconst 0, 1) := by decide +kernel
theorem dX0_findFirst_7 : decode cX0_findFirst 7 = .ok (.iconst 1, 1) := by decide +kernel
theorem dX0_findFirst_8 : decode cX0_findFirst 8 = .ok (.invokestatic 55, 3) := by decide +kernel
theorem dX0_findFirst_11 : decode cX0_findFirst 11 = .ok (.ifCond .le 7, 3) := by decide +kernel
theorem dX0_findFirst_14 : decode cX0_findFirst 14 = .ok (.iconst 1, 1) := by decide +kernel
theorem dX0_findFirst_15 : decode cX0_findFirst 15 = .ok (.goto 4, 3) := by decide +kernel
theorem dX0_findFirst_18 : decode cX0_findFirst 18 = .ok (.iconst 0, 1) := by decide +kernel
theorem dX0_findFirst_19 : decode cX0_findFirst 19 = .ok (.ireturn, 1) := by decide +kernel
noncomputable def Ch_findFirst (σ : St) (p1 : Int32) : Option (Int32 × St) :=
  bd (Ch_begin σ p1) (fun σ2 => bd2 (Ch_waysFrom 60 σ2 0 1) (fun r4 σ5 => if r4 ≤ 0 then (some (0, σ5)) else (some (1, σ5))))
set_option maxRecDepth 100000 in
set_option maxHeartbeats 4000000 in
theorem tm_Ch_findFirst {V : Ev} {Γ : Cn} {fin : Option Value × St} {σ : St} {p1 : Int32} {o : (Int32 × St)} (X : Cx V Γ M_X0_findFirst) {A : (Int32 × St) → Prop}  (hr : ∀ (r : Int32) (σ9 : St), A (r, σ9) → (some (.int r), σ9) = fin) (h : Ch_findFirst σ p1 = some o) (hA : A o) : Go V Γ M_X0_findFirst (Zm V Γ 64 fin) 0 [(0, .ref (V.2.2.1 + 36)), (1, .int p1)] [] σ := by
  unfold Ch_findFirst at h
  refine g_aload_n (pc := 0) X 0 rfl dX0_findFirst_0 ?_
  refine g_iload_n (pc := 1) X 1 rfl dX0_findFirst_1 ?_
  obtain ⟨σ2, hc1, h⟩ := bd_e h
  refine g_callV (pc := 2) X k_ml_X0_51 (run_Ch_begin  hc1) s_36 rfl (room_ok (Nat.le_of_ble_eq_true rfl) (Nat.le_of_ble_eq_true rfl)) ⟨Nat.le_refl _, Nat.le_refl _⟩ _ rfl (Nat.le_of_ble_eq_true rfl) dX0_findFirst_2 ?_
  show Go V Γ M_X0_findFirst (Zm V Γ 64 fin) 5 [(0, .ref (V.2.2.1 + 36)), (1, .int p1)] [] σ2
  refine g_aload_n (pc := 5) X 0 rfl dX0_findFirst_5 ?_
  refine g_iconst (v := 0) (pc := 6) X rfl dX0_findFirst_6 ?_
  refine g_iconst (v := 1) (pc := 7) X rfl dX0_findFirst_7 ?_
  obtain ⟨r4, σ5, hc3, h⟩ := bd2_e h
  refine g_callS (pc := 8) X k_ml_X0_55 (run_Ch_waysFrom 60  hc3) rfl (room_ok (Nat.le_of_ble_eq_true rfl) (Nat.le_of_ble_eq_true rfl)) ⟨Nat.le_refl _, Nat.le_refl _⟩ _ rfl (Nat.le_of_ble_eq_true rfl) dX0_findFirst_8 ?_
  show Go V Γ M_X0_findFirst (Zm V Γ 64 fin) 11 [(0, .ref (V.2.2.1 + 36)), (1, .int p1)] [.int r4] σ5
  refine g_if_le (pc := 11) (tgt := 18) X dX0_findFirst_11 rfl (fun c6 => ?_) (fun c6 => ?_)
  · replace h := if_t c6 h
    refine g_iconst (v := 0) (pc := 18) X rfl dX0_findFirst_18 ?_
    cases h
    exact g_iret (pc := 19) X rfl nz0.1 (hr _ _ hA) dX0_findFirst_19
  · replace h := if_f c6 h
    refine g_iconst (v := 1) (pc := 14) X rfl dX0_findFirst_14 ?_
    refine g_goto (pc := 15) (tgt := 19) X dX0_findFirst_15 rfl ?_
    cases h
    exact g_iret (pc := 19) X rfl nz1.1 (hr _ _ hA) dX0_findFirst_19
set_option maxRecDepth 100000 in
theorem run_Ch_findFirst {V : Ev} {σ : St} {p1 : Int32} {o : (Int32 × St)}   (h : Ch_findFirst σ p1 = some o) : Rs V 64 M_X0_findFirst [.ref (V.2.2.1 + 36), .int p1] σ (some (.int o.1), o.2) := by
  refine Rs.of (by decide +kernel) (Nat.le_of_ble_eq_true rfl) (fun Γ X => ?_)
  exact tm_Ch_findFirst X (A := fun o1 => o1 = o)  (fun _ _ e => by rw [← e]) h rfl
theorem dX0_restAt_0 : decode cX0_restAt 0 = .ok (.iload_n 1, 1) := by decide +kernel
theorem dX0_restAt_1 : decode cX0_restAt 1 = .ok (.i2l, 1) := by decide +kernel
theorem dX0_restAt_2 : decode cX0_restAt 2 = .ok (.lconst 0, 1) := by decide +kernel
theorem dX0_restAt_3 : decode cX0_restAt 3 = .ok (.ldc2_w 59, 3) := by decide +kernel
theorem dX0_restAt_6 : decode cX0_restAt 6 = .ok (.invokestatic 41, 3) := by decide +kernel
theorem dX0_restAt_9 : decode cX0_restAt 9 = .ok (.ifCond .eq 12, 3) := by decide +kernel
theorem dX0_restAt_12 : decode cX0_restAt 12 = .ok (.aload_n 0, 1) := by decide +kernel
theorem dX0_restAt_13 : decode cX0_restAt 13 = .ok (.getfield 15, 3) := by decide +kernel
theorem dX0_restAt_16 : decode cX0_restAt 16 = .ok (.iload_n 1, 1) := by decide +kernel
theorem dX0_restAt_17 : decode cX0_restAt 17 = .ok (.iaload, 1) := by decide +kernel
theorem dX0_restAt_18 : decode cX0_restAt 18 = .ok (.goto 4, 3) := by decide +kernel
theorem dX0_restAt_21 : decode cX0_restAt 21 = .ok (.iconst (-1), 1) := by decide +kernel
theorem dX0_restAt_22 : decode cX0_restAt 22 = .ok (.ireturn, 1) := by decide +kernel
noncomputable def Ch_restAt (σ : St) (p1 : Int32) : Option Int32 :=
  bd (RC_within p1.toInt64 0 5) (fun r2 => if r2 = 0 then (some (-1)) else (chk (ix p1 6) (some (σ.1 38 (tn p1)))))
set_option maxRecDepth 100000 in
set_option maxHeartbeats 4000000 in
theorem tm_Ch_restAt {V : Ev} {Γ : Cn} {fin : Option Value × St} {σ : St} {p1 : Int32} {o : Int32} (X : Cx V Γ M_X0_restAt) {A : Int32 → Prop}  (hr : ∀ (r : Int32), A r → (some (.int r), σ) = fin) (h : Ch_restAt σ p1 = some o) (hA : A o) : Go V Γ M_X0_restAt (Zm V Γ 1 fin) 0 [(0, .ref (V.2.2.1 + 36)), (1, .int p1)] [] σ := by
  unfold Ch_restAt at h
  refine g_iload_n (pc := 0) X 1 rfl dX0_restAt_0 ?_
  refine g_i2l (pc := 1) X dX0_restAt_1 ?_
  refine g_lconst (v := 0) (pc := 2) X rfl dX0_restAt_2 ?_
  refine g_ldc2 (v := 5) (pc := 3) X k_constl_X0_59 dX0_restAt_3 ?_
  obtain ⟨r2, hc1, h⟩ := bd_e h
  refine g_callS (pc := 6) X k_ml_X0_41 (run_RC_within  hc1) rfl (room_ok (Nat.le_of_ble_eq_true rfl) (Nat.le_of_ble_eq_true rfl)) ⟨Nat.le_refl _, Nat.le_refl _⟩ _ rfl (Nat.le_of_ble_eq_true rfl) dX0_restAt_6 ?_
  show Go V Γ M_X0_restAt (Zm V Γ 1 fin) 9 [(0, .ref (V.2.2.1 + 36)), (1, .int p1)] [.int r2] σ
  refine g_if_eq (pc := 9) (tgt := 21) X dX0_restAt_9 rfl (fun c4 => ?_) (fun c4 => ?_)
  · replace h := if_t c4 h
    refine g_iconst (v := (-1)) (pc := 21) X rfl dX0_restAt_21 ?_
    cases h
    exact g_iret (pc := 22) X rfl rfl (hr _ hA) dX0_restAt_22
  · replace h := if_f c4 h
    refine g_aload_n (pc := 12) X 0 rfl dX0_restAt_12 ?_
    refine g_getR (r := 38) (pc := 13) X k_fl_X0_15 s_36 rfl dX0_restAt_13 ?_
    refine g_iload_n (pc := 16) X 1 rfl dX0_restAt_16 ?_
    obtain ⟨c3, h⟩ := chk_e h
    refine g_iald (pc := 17) X s_38 c3 dX0_restAt_17 ?_
    refine g_goto (pc := 18) (tgt := 22) X dX0_restAt_18 rfl ?_
    cases h
    exact g_iret (pc := 22) X rfl rfl (hr _ hA) dX0_restAt_22
set_option maxRecDepth 100000 in
theorem run_Ch_restAt {V : Ev} {σ : St} {p1 : Int32} {o : Int32}   (h : Ch_restAt σ p1 = some o) : Rs V 1 M_X0_restAt [.ref (V.2.2.1 + 36), .int p1] σ (some (.int o), σ) := by
  refine Rs.of (by decide +kernel) (Nat.le_of_ble_eq_true rfl) (fun Γ X => ?_)
  exact tm_Ch_restAt X (A := fun o1 => o1 = o)  (fun _ e => by rw [e]) h rfl
theorem dX1_clear_0 : decode cX1_clear 0 = .ok (.aload_n 0, 1) := by decide +kernel
theorem dX1_clear_1 : decode cX1_clear 1 = .ok (.iconst 0, 1) := by decide +kernel
theorem dX1_clear_2 : decode cX1_clear 2 = .ok (.putfield 22, 3) := by decide +kernel
theorem dX1_clear_5 : decode cX1_clear 5 = .ok (.aload_n 0, 1) := by decide +kernel
theorem dX1_clear_6 : decode cX1_clear 6 = .ok (.iconst 0, 1) := by decide +kernel
theorem dX1_clear_7 : decode cX1_clear 7 = .ok (.putfield 26, 3) := by decide +kernel
theorem dX1_clear_10 : decode cX1_clear 10 = .ok (.aload_n 0, 1) := by decide +kernel
theorem dX1_clear_11 : decode cX1_clear 11 = .ok (.iconst 4, 1) := by decide +kernel
theorem dX1_clear_12 : decode cX1_clear 12 = .ok (.putfield 29, 3) := by decide +kernel
theorem dX1_clear_15 : decode cX1_clear 15 = .ok (.return_, 1) := by decide +kernel
noncomputable def Cl_clear (σ : St) (a0 : Nat) : Option St :=
  bnd (wI σ a0 3 0) (fun σ1 => bnd (wI σ1 a0 4 0) (fun σ2 => bnd (wI σ2 a0 5 4) (fun σ3 => some σ3)))
set_option maxRecDepth 100000 in
set_option maxHeartbeats 4000000 in
theorem tm_Cl_clear {V : Ev} {Γ : Cn} {fin : Option Value × St} {σ : St} {a0 : Nat} {o : St} (X : Cx V Γ M_X1_clear) {A : St → Prop} (k0 : okCl a0) (hr : ∀ (σ9 : St), A σ9 → (none, σ9) = fin) (h : Cl_clear σ a0 = some o) (hA : A o) : Go V Γ M_X1_clear (Zm V Γ 0 fin) 0 [(0, .ref (V.2.2.1 + a0))] [] σ := by
  unfold Cl_clear at h
  refine g_aload_n (pc := 0) X 0 rfl dX1_clear_0 ?_
  refine g_iconst (v := 0) (pc := 1) X rfl dX1_clear_1 ?_
  refine g_putI (pc := 2) X k_fl_X1_22 (sCl_0 k0) rfl rfl rfl dX1_clear_2 ?_
  obtain ⟨σ1, e_σ1, h⟩ := bnd_e h
  refine g_nmS e_σ1 ?_
  refine g_aload_n (pc := 5) X 0 rfl dX1_clear_5 ?_
  refine g_iconst (v := 0) (pc := 6) X rfl dX1_clear_6 ?_
  refine g_putI (pc := 7) X k_fl_X1_26 (sCl_0 k0) rfl rfl rfl dX1_clear_7 ?_
  obtain ⟨σ2, e_σ2, h⟩ := bnd_e h
  refine g_nmS e_σ2 ?_
  refine g_aload_n (pc := 10) X 0 rfl dX1_clear_10 ?_
  refine g_iconst (v := 4) (pc := 11) X rfl dX1_clear_11 ?_
  refine g_putI (pc := 12) X k_fl_X1_29 (sCl_0 k0) rfl rfl rfl dX1_clear_12 ?_
  obtain ⟨σ3, e_σ3, h⟩ := bnd_e h
  refine g_nmS e_σ3 ?_
  cases h
  exact g_vret (pc := 15) X rfl (hr _ hA) dX1_clear_15
set_option maxRecDepth 100000 in
theorem run_Cl_clear {V : Ev} {σ : St} {a0 : Nat} {o : St} (k0 : okCl a0)  (h : Cl_clear σ a0 = some o) : Rs V 0 M_X1_clear [.ref (V.2.2.1 + a0)] σ (none, o) := by
  refine Rs.of (by decide +kernel) (Nat.le_of_ble_eq_true rfl) (fun Γ X => ?_)
  exact tm_Cl_clear X (A := fun o1 => o1 = o) k0 (fun _ e => by rw [e]) h rfl
theorem dX1_copyFrom_0 : decode cX1_copyFrom 0 = .ok (.aload_n 1, 1) := by decide +kernel
theorem dX1_copyFrom_1 : decode cX1_copyFrom 1 = .ok (.getfield 9, 3) := by decide +kernel
theorem dX1_copyFrom_4 : decode cX1_copyFrom 4 = .ok (.iconst 0, 1) := by decide +kernel
theorem dX1_copyFrom_5 : decode cX1_copyFrom 5 = .ok (.aload_n 0, 1) := by decide +kernel
theorem dX1_copyFrom_6 : decode cX1_copyFrom 6 = .ok (.getfield 9, 3) := by decide +kernel
theorem dX1_copyFrom_9 : decode cX1_copyFrom 9 = .ok (.iconst 0, 1) := by decide +kernel
theorem dX1_copyFrom_10 : decode cX1_copyFrom 10 = .ok (.bipush 12, 2) := by decide +kernel
theorem dX1_copyFrom_12 : decode cX1_copyFrom 12 = .ok (.invokestatic 32, 3) := by decide +kernel
theorem dX1_copyFrom_15 : decode cX1_copyFrom 15 = .ok (.aload_n 1, 1) := by decide +kernel
theorem dX1_copyFrom_16 : decode cX1_copyFrom 16 = .ok (.getfield 15, 3) := by decide +kernel
theorem dX1_copyFrom_19 : decode cX1_copyFrom 19 = .ok (.iconst 0, 1) := by decide +kernel
theorem dX1_copyFrom_20 : decode cX1_copyFrom 20 = .ok (.aload_n 0, 1) := by decide +kernel
theorem dX1_copyFrom_21 : decode cX1_copyFrom 21 = .ok (.getfield 15, 3) := by decide +kernel
theorem dX1_copyFrom_24 : decode cX1_copyFrom 24 = .ok (.iconst 0, 1) := by decide +kernel
theorem dX1_copyFrom_25 : decode cX1_copyFrom 25 = .ok (.bipush 12, 2) := by decide +kernel
theorem dX1_copyFrom_27 : decode cX1_copyFrom 27 = .ok (.invokestatic 32, 3) := by decide +kernel
theorem dX1_copyFrom_30 : decode cX1_copyFrom 30 = .ok (.aload_n 1, 1) := by decide +kernel
theorem dX1_copyFrom_31 : decode cX1_copyFrom 31 = .ok (.getfield 18, 3) := by decide +kernel
theorem dX1_copyFrom_34 : decode cX1_copyFrom 34 = .ok (.iconst 0, 1) := by decide +kernel
theorem dX1_copyFrom_35 : decode cX1_copyFrom 35 = .ok (.aload_n 0, 1) := by decide +kernel
theorem dX1_copyFrom_36 : decode cX1_copyFrom 36 = .ok (.getfield 18, 3) := by decide +kernel
theorem dX1_copyFrom_39 : decode cX1_copyFrom 39 = .ok (.iconst 0, 1) := by decide +kernel
theorem dX1_copyFrom_40 : decode cX1_copyFrom 40 = .ok (.bipush 12, 2) := by decide +kernel
theorem dX1_copyFrom_42 : decode cX1_copyFrom 42 = .ok (.invokestatic 32, 3) := by decide +kernel
theorem dX1_copyFrom_45 : decode cX1_copyFrom 45 = .ok (.aload_n 0, 1) := by decide +kernel
theorem dX1_copyFrom_46 : decode cX1_copyFrom 46 = .ok (.aload_n 1, 1) := by decide +kernel
theorem dX1_copyFrom_47 : decode cX1_copyFrom 47 = .ok (.getfield 22, 3) := by decide +kernel
theorem dX1_copyFrom_50 : decode cX1_copyFrom 50 = .ok (.putfield 22, 3) := by decide +kernel
theorem dX1_copyFrom_53 : decode cX1_copyFrom 53 = .ok (.aload_n 0, 1) := by decide +kernel
theorem dX1_copyFrom_54 : decode cX1_copyFrom 54 = .ok (.aload_n 1, 1) := by decide +kernel
theorem dX1_copyFrom_55 : decode cX1_copyFrom 55 = .ok (.getfield 26, 3) := by decide +kernel
theorem dX1_copyFrom_58 : decode cX1_copyFrom 58 = .ok (.putfield 26, 3) := by decide +kernel
theorem dX1_copyFrom_61 : decode cX1_copyFrom 61 = .ok (.aload_n 0, 1) := by decide +kernel
theorem dX1_copyFrom_62 : decode cX1_copyFrom 62 = .ok (.aload_n 1, 1) := by decide +kernel
theorem dX1_copyFrom_63 : decode cX1_copyFrom 63 = .ok (.getfield 29, 3) := by decide +kernel
theorem dX1_copyFrom_66 : decode cX1_copyFrom 66 = .ok (.putfield 29, 3) := by decide +kernel
theorem dX1_copyFrom_69 : decode cX1_copyFrom 69 = .ok (.return_, 1) := by decide +kernel
noncomputable def Cl_copyFrom (σ : St) (a0 : Nat) (a1 : Nat) : Option St :=
  chk (cpk 0 0 12 12 12) (bnd (rI σ (a0 + 1) (va_cpy (σ.1 (a1 + 1)) (σ.1 (a0 + 1)) (tn 0) (tn 0) (tn 12))) (fun σ2 => chk (cpk 0 0 12 12 12) (bnd (rI σ2 (a0 + 2) (va_cpy (σ2.1 (a1 + 2)) (σ2.1 (a0 + 2)) (tn 0) (tn 0) (tn 12))) (fun σ4 => chk (cpk 0 0 12 12 12) (bnd (rL σ4 (a0 + 3) (va_cpy (σ4.2 (a1 + 3)) (σ4.2 (a0 + 3)) (tn 0) (tn 0) (tn 12))) (fun σ6 => bnd (wI σ6 a0 3 (σ6.1 a1 3)) (fun σ7 => bnd (wI σ7 a0 4 (σ7.1 a1 4)) (fun σ8 => bnd (wI σ8 a0 5 (σ8.1 a1 5)) (fun σ9 => some σ9)))))))))
set_option maxRecDepth 100000 in
set_option maxHeartbeats 4000000 in
theorem tm_Cl_copyFrom {V : Ev} {Γ : Cn} {fin : Option Value × St} {σ : St} {a0 : Nat} {a1 : Nat} {o : St} (X : Cx V Γ M_X1_copyFrom) {A : St → Prop} (k0 : okCl a0) (k1 : okCl a1) (hr : ∀ (σ9 : St), A σ9 → (none, σ9) = fin) (h : Cl_copyFrom σ a0 a1 = some o) (hA : A o) : Go V Γ M_X1_copyFrom (Zm V Γ 1 fin) 0 [(0, .ref (V.2.2.1 + a0)), (1, .ref (V.2.2.1 + a1))] [] σ := by
  unfold Cl_copyFrom at h
  refine g_aload_n (pc := 0) X 1 rfl dX1_copyFrom_0 ?_
  refine g_getR (r := (a1 + 1)) (pc := 1) X k_fl_X1_9 (sCl_0 k1) rfl dX1_copyFrom_1 ?_
  refine g_iconst (v := 0) (pc := 4) X rfl dX1_copyFrom_4 ?_
  refine g_aload_n (pc := 5) X 0 rfl dX1_copyFrom_5 ?_
  refine g_getR (r := (a0 + 1)) (pc := 6) X k_fl_X1_9 (sCl_0 k0) rfl dX1_copyFrom_6 ?_
  refine g_iconst (v := 0) (pc := 9) X rfl dX1_copyFrom_9 ?_
  refine g_bipush (v := 12) (pc := 10) X (by decide) dX1_copyFrom_10 ?_
  obtain ⟨c1, h⟩ := chk_e h
  refine g_copyI (pc := 12) X k_ml_X1_32 (sCl_1 k1) (sCl_1 k0) c1 (Nat.le_of_ble_eq_true rfl) (Nat.le_of_ble_eq_true rfl) dX1_copyFrom_12 ?_
  obtain ⟨σ2, e_σ2, h⟩ := bnd_e h
  refine g_nmS e_σ2 ?_
  refine g_aload_n (pc := 15) X 1 rfl dX1_copyFrom_15 ?_
  refine g_getR (r := (a1 + 2)) (pc := 16) X k_fl_X1_15 (sCl_0 k1) rfl dX1_copyFrom_16 ?_
  refine g_iconst (v := 0) (pc := 19) X rfl dX1_copyFrom_19 ?_
  refine g_aload_n (pc := 20) X 0 rfl dX1_copyFrom_20 ?_
  refine g_getR (r := (a0 + 2)) (pc := 21) X k_fl_X1_15 (sCl_0 k0) rfl dX1_copyFrom_21 ?_
  refine g_iconst (v := 0) (pc := 24) X rfl dX1_copyFrom_24 ?_
  refine g_bipush (v := 12) (pc := 25) X (by decide) dX1_copyFrom_25 ?_
  obtain ⟨c3, h⟩ := chk_e h
  refine g_copyI (pc := 27) X k_ml_X1_32 (sCl_2 k1) (sCl_2 k0) c3 (Nat.le_of_ble_eq_true rfl) (Nat.le_of_ble_eq_true rfl) dX1_copyFrom_27 ?_
  obtain ⟨σ4, e_σ4, h⟩ := bnd_e h
  refine g_nmS e_σ4 ?_
  refine g_aload_n (pc := 30) X 1 rfl dX1_copyFrom_30 ?_
  refine g_getR (r := (a1 + 3)) (pc := 31) X k_fl_X1_18 (sCl_0 k1) rfl dX1_copyFrom_31 ?_
  refine g_iconst (v := 0) (pc := 34) X rfl dX1_copyFrom_34 ?_
  refine g_aload_n (pc := 35) X 0 rfl dX1_copyFrom_35 ?_
  refine g_getR (r := (a0 + 3)) (pc := 36) X k_fl_X1_18 (sCl_0 k0) rfl dX1_copyFrom_36 ?_
  refine g_iconst (v := 0) (pc := 39) X rfl dX1_copyFrom_39 ?_
  refine g_bipush (v := 12) (pc := 40) X (by decide) dX1_copyFrom_40 ?_
  obtain ⟨c5, h⟩ := chk_e h
  refine g_copyL (pc := 42) X k_ml_X1_32 (sCl_3 k1) (sCl_3 k0) c5 (Nat.le_of_ble_eq_true rfl) (Nat.le_of_ble_eq_true rfl) dX1_copyFrom_42 ?_
  obtain ⟨σ6, e_σ6, h⟩ := bnd_e h
  refine g_nmS e_σ6 ?_
  refine g_aload_n (pc := 45) X 0 rfl dX1_copyFrom_45 ?_
  refine g_aload_n (pc := 46) X 1 rfl dX1_copyFrom_46 ?_
  refine g_getI (pc := 47) X k_fl_X1_22 (sCl_0 k1) rfl dX1_copyFrom_47 ?_
  refine g_putI (pc := 50) X k_fl_X1_22 (sCl_0 k0) rfl rfl rfl dX1_copyFrom_50 ?_
  obtain ⟨σ7, e_σ7, h⟩ := bnd_e h
  refine g_nmS e_σ7 ?_
  refine g_aload_n (pc := 53) X 0 rfl dX1_copyFrom_53 ?_
  refine g_aload_n (pc := 54) X 1 rfl dX1_copyFrom_54 ?_
  refine g_getI (pc := 55) X k_fl_X1_26 (sCl_0 k1) rfl dX1_copyFrom_55 ?_
  refine g_putI (pc := 58) X k_fl_X1_26 (sCl_0 k0) rfl rfl rfl dX1_copyFrom_58 ?_
  obtain ⟨σ8, e_σ8, h⟩ := bnd_e h
  refine g_nmS e_σ8 ?_
  refine g_aload_n (pc := 61) X 0 rfl dX1_copyFrom_61 ?_
  refine g_aload_n (pc := 62) X 1 rfl dX1_copyFrom_62 ?_
  refine g_getI (pc := 63) X k_fl_X1_29 (sCl_0 k1) rfl dX1_copyFrom_63 ?_
  refine g_putI (pc := 66) X k_fl_X1_29 (sCl_0 k0) rfl rfl rfl dX1_copyFrom_66 ?_
  obtain ⟨σ9, e_σ9, h⟩ := bnd_e h
  refine g_nmS e_σ9 ?_
  cases h
  exact g_vret (pc := 69) X rfl (hr _ hA) dX1_copyFrom_69
set_option maxRecDepth 100000 in
theorem run_Cl_copyFrom {V : Ev} {σ : St} {a0 : Nat} {a1 : Nat} {o : St} (k0 : okCl a0) (k1 : okCl a1)  (h : Cl_copyFrom σ a0 a1 = some o) : Rs V 1 M_X1_copyFrom [.ref (V.2.2.1 + a0), .ref (V.2.2.1 + a1)] σ (none, o) := by
  refine Rs.of (by decide +kernel) (Nat.le_of_ble_eq_true rfl) (fun Γ X => ?_)
  exact tm_Cl_copyFrom X (A := fun o1 => o1 = o) k0 k1 (fun _ e => by rw [e]) h rfl
theorem dX1_isThere_0 : decode cX1_isThere 0 = .ok (.iload_n 1, 1) := by decide +kernel
theorem dX1_isThere_1 : decode cX1_isThere 1 = .ok (.ifCond .lt 15, 3) := by decide +kernel
theorem dX1_isThere_4 : decode cX1_isThere 4 = .ok (.iload_n 1, 1) := by decide +kernel
theorem dX1_isThere_5 : decode cX1_isThere 5 = .ok (.aload_n 0, 1) := by decide +kernel
theorem dX1_isThere_6 : decode cX1_isThere 6 = .ok (.getfield 22, 3) := by decide +kernel
theorem dX1_isThere_9 : decode cX1_isThere 9 = .ok (.if_icmp .ge 7, 3) := by decide +kernel
theorem dX1_isThere_12 : decode cX1_isThere 12 = .ok (.iconst 1, 1) := by decide +kernel
theorem dX1_isThere_13 : decode cX1_isThere 13 = .ok (.goto 4, 3) := by decide +kernel
theorem dX1_isThere_16 : decode cX1_isThere 16 = .ok (.iconst 0, 1) := by decide +kernel
theorem dX1_isThere_17 : decode cX1_isThere 17 = .ok (.ireturn, 1) := by decide +kernel
noncomputable def Cl_isThere (σ : St) (a0 : Nat) (p1 : Int32) : Option Int32 :=
  if p1 < 0 then (some 0) else (if (σ.1 a0 3) ≤ p1 then (some 0) else (some 1))
set_option maxRecDepth 100000 in
set_option maxHeartbeats 4000000 in
theorem tm_Cl_isThere {V : Ev} {Γ : Cn} {fin : Option Value × St} {σ : St} {a0 : Nat} {p1 : Int32} {o : Int32} (X : Cx V Γ M_X1_isThere) {A : Int32 → Prop} (k0 : okCl a0) (hr : ∀ (r : Int32), A r → (some (.int r), σ) = fin) (h : Cl_isThere σ a0 p1 = some o) (hA : A o) : Go V Γ M_X1_isThere (Zm V Γ 0 fin) 0 [(0, .ref (V.2.2.1 + a0)), (1, .int p1)] [] σ := by
  unfold Cl_isThere at h
  refine g_iload_n (pc := 0) X 1 rfl dX1_isThere_0 ?_
  refine g_if_lt (pc := 1) (tgt := 16) X dX1_isThere_1 rfl (fun c2 => ?_) (fun c2 => ?_)
  · replace h := if_t c2 h
    refine g_iconst (v := 0) (pc := 16) X rfl dX1_isThere_16 ?_
    cases h
    exact g_iret (pc := 17) X rfl nz0.1 (hr _ hA) dX1_isThere_17
  · replace h := if_f c2 h
    refine g_iload_n (pc := 4) X 1 rfl dX1_isThere_4 ?_
    refine g_aload_n (pc := 5) X 0 rfl dX1_isThere_5 ?_
    refine g_getI (pc := 6) X k_fl_X1_22 (sCl_0 k0) rfl dX1_isThere_6 ?_
    refine g_icmp_ge (pc := 9) (tgt := 16) X dX1_isThere_9 rfl (fun c1 => ?_) (fun c1 => ?_)
    · replace h := if_t c1 h
      refine g_iconst (v := 0) (pc := 16) X rfl dX1_isThere_16 ?_
      cases h
      exact g_iret (pc := 17) X rfl nz0.1 (hr _ hA) dX1_isThere_17
    · replace h := if_f c1 h
      refine g_iconst (v := 1) (pc := 12) X rfl dX1_isThere_12 ?_
      refine g_goto (pc := 13) (tgt := 17) X dX1_isThere_13 rfl ?_
      cases h
      exact g_iret (pc := 17) X rfl nz1.1 (hr _ hA) dX1_isThere_17
set_option maxRecDepth 100000 in
theorem run_Cl_isThere {V : Ev} {σ : St} {a0 : Nat} {p1 : Int32} {o : Int32} (k0 : okCl a0)  (h : Cl_isThere σ a0 p1 = some o) : Rs V 0 M_X1_isThere [.ref (V.2.2.1 + a0), .int p1] σ (some (.int o), σ) := by
  refine Rs.of (by decide +kernel) (Nat.le_of_ble_eq_true rfl) (fun Γ X => ?_)
  exact tm_Cl_isThere X (A := fun o1 => o1 = o) k0 (fun _ e => by rw [e]) h rfl
theorem dX11_isIn_0 : decode cX11_isIn 0 = .ok (.iload_n 0, 1) := by decide +kernel
theorem dX11_isIn_1 : decode cX11_isIn 1 = .ok (.iload_n 1, 1) := by decide +kernel
theorem dX11_isIn_2 : decode cX11_isIn 2 = .ok (.ishr, 1) := by decide +kernel
theorem dX11_isIn_3 : decode cX11_isIn 3 = .ok (.iconst 1, 1) := by decide +kernel
theorem dX11_isIn_4 : decode cX11_isIn 4 = .ok (.iand, 1) := by decide +kernel
theorem dX11_isIn_5 : decode cX11_isIn 5 = .ok (.iconst 1, 1) := by decide +kernel
theorem dX11_isIn_6 : decode cX11_isIn 6 = .ok (.if_icmp .ne 7, 3) := by decide +kernel
theorem dX11_isIn_9 : decode cX11_isIn 9 = .ok (.iconst 1, 1) := by decide +kernel
theorem dX11_isIn_10 : decode cX11_isIn 10 = .ok (.goto 4, 3) := by decide +kernel
theorem dX11_isIn_13 : decode cX11_isIn 13 = .ok (.iconst 0, 1) := by decide +kernel
theorem dX11_isIn_14 : decode cX11_isIn 14 = .ok (.ireturn, 1) := by decide +kernel
noncomputable def RC_isIn (p0 : Int32) (p1 : Int32) : Option Int32 :=
  if ((p0 >>> (p1 &&& 31)) &&& 1) = 1 then (some 1) else (some 0)
set_option maxRecDepth 100000 in
set_option maxHeartbeats 4000000 in
theorem tm_RC_isIn {V : Ev} {Γ : Cn} {fin : Option Value × St} {σ : St} {p0 : Int32} {p1 : Int32} {o : Int32} (X : Cx V Γ M_X11_isIn) {A : Int32 → Prop}  (hr : ∀ (r : Int32), A r → (some (.int r), σ) = fin) (h : RC_isIn p0 p1 = some o) (hA : A o) : Go V Γ M_X11_isIn (Zm V Γ 0 fin) 0 [(0, .int p0), (1, .int p1)] [] σ := by
  unfold RC_isIn at h
  refine g_iload_n (pc := 0) X 0 rfl dX11_isIn_0 ?_
  refine g_iload_n (pc := 1) X 1 rfl dX11_isIn_1 ?_
  refine g_ishr (pc := 2) X dX11_isIn_2 ?_
  refine g_iconst (v := 1) (pc := 3) X rfl dX11_isIn_3 ?_
  refine g_iand (pc := 4) X dX11_isIn_4 ?_
  refine g_iconst (v := 1) (pc := 5) X rfl dX11_isIn_5 ?_
  refine g_icmp_ne (pc := 6) (tgt := 13) X dX11_isIn_6 rfl (fun c1 => ?_) (fun c1 => ?_)
  · replace h := if_f c1 h
    refine g_iconst (v := 0) (pc := 13) X rfl dX11_isIn_13 ?_
    cases h
    exact g_iret (pc := 14) X rfl nz0.1 (hr _ hA) dX11_isIn_14
  · replace h := if_t c1 h
    refine g_iconst (v := 1) (pc := 9) X rfl dX11_isIn_9 ?_
    refine g_goto (pc := 10) (tgt := 14) X dX11_isIn_10 rfl ?_
    cases h
    exact g_iret (pc := 14) X rfl nz1.1 (hr _ hA) dX11_isIn_14
set_option maxRecDepth 100000 in
theorem run_RC_isIn {V : Ev} {σ : St} {p0 : Int32} {p1 : Int32} {o : Int32}   (h : RC_isIn p0 p1 = some o) : Rs V 0 M_X11_isIn [.int p0, .int p1] σ (some (.int o), σ) := by
  refine Rs.of (by decide +kernel) (Nat.le_of_ble_eq_true rfl) (fun Γ X => ?_)
  exact tm_RC_isIn X (A := fun o1 => o1 = o)  (fun _ e => by rw [e]) h rfl
theorem dX1_isOn_0 : decode cX1_isOn 0 = .ok (.iload_n 1, 1) := by decide +kernel
theorem dX1_isOn_1 : decode cX1_isOn 1 = .ok (.ifCond .lt 26, 3) := by decide +kernel
theorem dX1_isOn_4 : decode cX1_isOn 4 = .ok (.iload_n 1, 1) := by decide +kernel
theorem dX1_isOn_5 : decode cX1_isOn 5 = .ok (.aload_n 0, 1) := by decide +kernel
theorem dX1_isOn_6 : decode cX1_isOn 6 = .ok (.getfield 22, 3) := by decide +kernel
theorem dX1_isOn_9 : decode cX1_isOn 9 = .ok (.if_icmp .ge 18, 3) := by decide +kernel
theorem dX1_isOn_12 : decode cX1_isOn 12 = .ok (.aload_n 0, 1) := by decide +kernel
theorem dX1_isOn_13 : decode cX1_isOn 13 = .ok (.getfield 26, 3) := by decide +kernel
theorem dX1_isOn_16 : decode cX1_isOn 16 = .ok (.iload_n 1, 1) := by decide +kernel
theorem dX1_isOn_17 : decode cX1_isOn 17 = .ok (.invokestatic 38, 3) := by decide +kernel
theorem dX1_isOn_20 : decode cX1_isOn 20 = .ok (.ifCond .eq 7, 3) := by decide +kernel
theorem dX1_isOn_23 : decode cX1_isOn 23 = .ok (.iconst 1, 1) := by decide +kernel
theorem dX1_isOn_24 : decode cX1_isOn 24 = .ok (.goto 4, 3) := by decide +kernel
theorem dX1_isOn_27 : decode cX1_isOn 27 = .ok (.iconst 0, 1) := by decide +kernel
theorem dX1_isOn_28 : decode cX1_isOn 28 = .ok (.ireturn, 1) := by decide +kernel
noncomputable def Cl_isOn (σ : St) (a0 : Nat) (p1 : Int32) : Option Int32 :=
  if p1 < 0 then (some 0) else (if (σ.1 a0 3) ≤ p1 then (some 0) else (bd (RC_isIn (σ.1 a0 4) p1) (fun r2 => if r2 = 0 then (some 0) else (some 1))))
set_option maxRecDepth 100000 in
set_option maxHeartbeats 4000000 in
theorem tm_Cl_isOn {V : Ev} {Γ : Cn} {fin : Option Value × St} {σ : St} {a0 : Nat} {p1 : Int32} {o : Int32} (X : Cx V Γ M_X1_isOn) {A : Int32 → Prop} (k0 : okCl a0) (hr : ∀ (r : Int32), A r → (some (.int r), σ) = fin) (h : Cl_isOn σ a0 p1 = some o) (hA : A o) : Go V Γ M_X1_isOn (Zm V Γ 1 fin) 0 [(0, .ref (V.2.2.1 + a0)), (1, .int p1)] [] σ := by
  unfold Cl_isOn at h
  refine g_iload_n (pc := 0) X 1 rfl dX1_isOn_0 ?_
  refine g_if_lt (pc := 1) (tgt := 27) X dX1_isOn_1 rfl (fun c5 => ?_) (fun c5 => ?_)
  · replace h := if_t c5 h
    refine g_iconst (v := 0) (pc := 27) X rfl dX1_isOn_27 ?_
    cases h
    exact g_iret (pc := 28) X rfl nz0.1 (hr _ hA) dX1_isOn_28
  · replace h := if_f c5 h
    refine g_iload_n (pc := 4) X 1 rfl dX1_isOn_4 ?_
    refine g_aload_n (pc := 5) X 0 rfl dX1_isOn_5 ?_
    refine g_getI (pc := 6) X k_fl_X1_22 (sCl_0 k0) rfl dX1_isOn_6 ?_
    refine g_icmp_ge (pc := 9) (tgt := 27) X dX1_isOn_9 rfl (fun c4 => ?_) (fun c4 => ?_)
    · replace h := if_t c4 h
      refine g_iconst (v := 0) (pc := 27) X rfl dX1_isOn_27 ?_
      cases h
      exact g_iret (pc := 28) X rfl nz0.1 (hr _ hA) dX1_isOn_28
    · replace h := if_f c4 h
      refine g_aload_n (pc := 12) X 0 rfl dX1_isOn_12 ?_
      refine g_getI (pc := 13) X k_fl_X1_26 (sCl_0 k0) rfl dX1_isOn_13 ?_
      refine g_iload_n (pc := 16) X 1 rfl dX1_isOn_16 ?_
      obtain ⟨r2, hc1, h⟩ := bd_e h
      refine g_callS (pc := 17) X k_ml_X1_38 (run_RC_isIn  hc1) rfl (room_ok (Nat.le_of_ble_eq_true rfl) (Nat.le_of_ble_eq_true rfl)) ⟨Nat.le_refl _, Nat.le_refl _⟩ _ rfl (Nat.le_of_ble_eq_true rfl) dX1_isOn_17 ?_
      show Go V Γ M_X1_isOn (Zm V Γ 1 fin) 20 [(0, .ref (V.2.2.1 + a0)), (1, .int p1)] [.int r2] σ
      refine g_if_eq (pc := 20) (tgt := 27) X dX1_isOn_20 rfl (fun c3 => ?_) (fun c3 => ?_)
      · replace h := if_t c3 h
        refine g_iconst (v := 0) (pc := 27) X rfl dX1_isOn_27 ?_
        cases h
        exact g_iret (pc := 28) X rfl nz0.1 (hr _ hA) dX1_isOn_28
      · replace h := if_f c3 h
        refine g_iconst (v := 1) (pc := 23) X rfl dX1_isOn_23 ?_
        refine g_goto (pc := 24) (tgt := 28) X dX1_isOn_24 rfl ?_
        cases h
        exact g_iret (pc := 28) X rfl nz1.1 (hr _ hA) dX1_isOn_28
set_option maxRecDepth 100000 in
theorem run_Cl_isOn {V : Ev} {σ : St} {a0 : Nat} {p1 : Int32} {o : Int32} (k0 : okCl a0)  (h : Cl_isOn σ a0 p1 = some o) : Rs V 1 M_X1_isOn [.ref (V.2.2.1 + a0), .int p1] σ (some (.int o), σ) := by
  refine Rs.of (by decide +kernel) (Nat.le_of_ble_eq_true rfl) (fun Γ X => ?_)
  exact tm_Cl_isOn X (A := fun o1 => o1 = o) k0 (fun _ e => by rw [e]) h rfl
theorem dX1_find_0 : decode cX1_find 0 = .ok (.iconst 0, 1) := by decide +kernel
theorem dX1_find_1 : decode cX1_find 1 = .ok (.istore_n 3, 1) := by decide +kernel
theorem dX1_find_2 : decode cX1_find 2 = .ok (.iload_n 3, 1) := by decide +kernel
theorem dX1_find_3 : decode cX1_find 3 = .ok (.aload_n 0, 1) := by decide +kernel
theorem dX1_find_4 : decode cX1_find 4 = .ok (.getfield 22, 3) := by decide +kernel
theorem dX1_find_7 : decode cX1_find 7 = .ok (.if_icmp .ge 22, 3) := by decide +kernel
theorem dX1_find_10 : decode cX1_find 10 = .ok (.aload_n 0, 1) := by decide +kernel
theorem dX1_find_11 : decode cX1_find 11 = .ok (.getfield 18, 3) := by decide +kernel
theorem dX1_find_14 : decode cX1_find 14 = .ok (.iload_n 3, 1) := by decide +kernel
theorem dX1_find_15 : decode cX1_find 15 = .ok (.laload, 1) := by decide +kernel
theorem dX1_find_16 : decode cX1_find 16 = .ok (.lload_n 1, 1) := by decide +kernel
theorem dX1_find_17 : decode cX1_find 17 = .ok (.lcmp, 1) := by decide +kernel
theorem dX1_find_18 : decode cX1_find 18 = .ok (.ifCond .ne 5, 3) := by decide +kernel
theorem dX1_find_21 : decode cX1_find 21 = .ok (.iload_n 3, 1) := by decide +kernel
theorem dX1_find_22 : decode cX1_find 22 = .ok (.ireturn, 1) := by decide +kernel
theorem dX1_find_23 : decode cX1_find 23 = .ok (.iinc 3 1, 3) := by decide +kernel
theorem dX1_find_26 : decode cX1_find 26 = .ok (.goto (-24), 3) := by decide +kernel
theorem dX1_find_29 : decode cX1_find 29 = .ok (.iconst (-1), 1) := by decide +kernel
theorem dX1_find_30 : decode cX1_find 30 = .ok (.ireturn, 1) := by decide +kernel
noncomputable def Cl_find_L2 (l0 : Nat) (l1 : Int64) (σ : St) (x3 : Int32) : Option (Int32 ⊕ Int32) :=
  if (σ.1 l0 3) ≤ x3 then (some (.inr (-1))) else (chk (ix x3 12) (if (σ.2 (l0 + 3) (tn x3)) = l1 then (some (.inr x3)) else (bnd (x3 + 1) (fun v2 => some (.inl v2)))))
set_option maxRecDepth 100000 in
set_option maxHeartbeats 4000000 in
theorem tb_Cl_find_L2 {V : Ev} {Γ : Cn} {fin : Option Value × St} {l0 : Nat} {l1 : Int64} {σ : St} {x3 : Int32} {o : (Int32 ⊕ Int32)} (X : Cx V Γ M_X1_find) {A : (Int32 ⊕ Int32) → Prop} (k_l0 : okCl l0) (hr : ∀ (r : Int32), A (.inr r) → (some (.int r), σ) = fin) (hb2 : ∀ (x3 : Int32), A (.inl x3) → Go V Γ M_X1_find (Zm V Γ 0 fin) 2 [(0, .ref (V.2.2.1 + l0)), (1, .long l1), (3, .int x3)] [] σ) (h : Cl_find_L2 l0 l1 σ x3 = some o) (hA : A o) : Go V Γ M_X1_find (Zm V Γ 0 fin) 2 [(0, .ref (V.2.2.1 + l0)), (1, .long l1), (3, .int x3)] [] σ := by
  unfold Cl_find_L2 at h
  refine g_iload_n (pc := 2) X 2 rfl dX1_find_2 ?_
  refine g_aload_n (pc := 3) X 0 rfl dX1_find_3 ?_
  refine g_getI (pc := 4) X k_fl_X1_22 (sCl_0 k_l0) rfl dX1_find_4 ?_
  refine g_icmp_ge (pc := 7) (tgt := 29) X dX1_find_7 rfl (fun c4 => ?_) (fun c4 => ?_)
  · replace h := if_t c4 h
    refine g_iconst (v := (-1)) (pc := 29) X rfl dX1_find_29 ?_
    cases h
    exact g_iret (pc := 30) X rfl rfl (hr _ hA) dX1_find_30
  · replace h := if_f c4 h
    refine g_aload_n (pc := 10) X 0 rfl dX1_find_10 ?_
    refine g_getR (r := (l0 + 3)) (pc := 11) X k_fl_X1_18 (sCl_0 k_l0) rfl dX1_find_11 ?_
    refine g_iload_n (pc := 14) X 2 rfl dX1_find_14 ?_
    obtain ⟨c1, h⟩ := chk_e h
    refine g_lald (pc := 15) X (sCl_3 k_l0) c1 dX1_find_15 ?_
    refine g_lload_n (pc := 16) X 1 rfl dX1_find_16 ?_
    refine g_lcmp_ne (pc := 17) (tgt := 23) X dX1_find_17 dX1_find_18 rfl (fun c3 => ?_) (fun c3 => ?_)
    · replace h := if_f c3 h
      obtain ⟨v2, e_v2, h⟩ := bnd_e h
      refine g_iinc (pc := 23) (v := v2) X [(3, .int v2), (0, .ref (V.2.2.1 + l0)), (1, .long l1)] 2 rfl (by rw [e_v2]; rfl) (Nat.le_of_ble_eq_true rfl) rfl dX1_find_23 ?_
      refine g_goto (pc := 26) (tgt := 2) X dX1_find_26 rfl ?_
      refine g_sub [1, 2, 0] rfl ?_
      cases h
      exact hb2 _ hA
    · replace h := if_t c3 h
      refine g_iload_n (pc := 21) X 2 rfl dX1_find_21 ?_
      cases h
      exact g_iret (pc := 22) X rfl rfl (hr _ hA) dX1_find_22
set_option maxRecDepth 100000 in
theorem tl_Cl_find_L2 {V : Ev} {Γ : Cn} {fin : Option Value × St} {l0 : Nat} {l1 : Int64} {σ : St} {x3 : Int32} (X : Cx V Γ M_X1_find) (k_l0 : okCl l0) {e : Int32} {A : Int32 → Prop} (hr : ∀ (r : Int32), A r → (some (.int r), σ) = fin) {n : Nat} (h : iter (fun s : Int32 => Cl_find_L2 l0 l1 σ s) n x3 = some e) (hA : A e) : Go V Γ M_X1_find (Zm V Γ 0 fin) 2 [(0, .ref (V.2.2.1 + l0)), (1, .long l1), (3, .int x3)] [] σ := by
  refine iter_go (G := (fun s : Int32 => Go V Γ M_X1_find (Zm V Γ 0 fin) 2 [(0, .ref (V.2.2.1 + l0)), (1, .long l1), (3, .int s)] [] σ)) (fun s o ho hS => ?_) n x3 h
  exact tb_Cl_find_L2 X k_l0 (fun z0 he => hr z0 (by rw [he]; exact hA)) (fun _ h9 => h9) ho hS
noncomputable def Cl_find (σ : St) (a0 : Nat) (p1 : Int64) : Option Int32 :=
  iter (fun s : Int32 => Cl_find_L2 a0 p1 σ s) FUEL 0
set_option maxRecDepth 100000 in
set_option maxHeartbeats 4000000 in
theorem tm_Cl_find {V : Ev} {Γ : Cn} {fin : Option Value × St} {σ : St} {a0 : Nat} {p1 : Int64} {o : Int32} (X : Cx V Γ M_X1_find) {A : Int32 → Prop} (k0 : okCl a0) (hr : ∀ (r : Int32), A r → (some (.int r), σ) = fin) (h : Cl_find σ a0 p1 = some o) (hA : A o) : Go V Γ M_X1_find (Zm V Γ 0 fin) 0 [(0, .ref (V.2.2.1 + a0)), (1, .long p1)] [] σ := by
  unfold Cl_find at h
  refine g_iconst (v := 0) (pc := 0) X rfl dX1_find_0 ?_
  refine g_istore_n (pc := 1) X [(3, .int 0), (0, .ref (V.2.2.1 + a0)), (1, .long p1)] rfl (Nat.le_of_ble_eq_true rfl) rfl dX1_find_1 ?_
  refine g_sub [1, 2, 0] rfl ?_
  exact tl_Cl_find_L2 X k0 hr h hA
set_option maxRecDepth 100000 in
theorem run_Cl_find {V : Ev} {σ : St} {a0 : Nat} {p1 : Int64} {o : Int32} (k0 : okCl a0)  (h : Cl_find σ a0 p1 = some o) : Rs V 0 M_X1_find [.ref (V.2.2.1 + a0), .long p1] σ (some (.int o), σ) := by
  refine Rs.of (by decide +kernel) (Nat.le_of_ble_eq_true rfl) (fun Γ X => ?_)
  exact tm_Cl_find X (A := fun o1 => o1 = o) k0 (fun _ e => by rw [e]) h rfl
theorem dX1_append_0 : decode cX1_append 0 = .ok (.aload_n 0, 1) := by decide +kernel
theorem dX1_append_1 : decode cX1_append 1 = .ok (.getfield 22, 3) := by decide +kernel
theorem dX1_append_4 : decode cX1_append 4 = .ok (.bipush 12, 2) := by decide +kernel
theorem dX1_append_6 : decode cX1_append 6 = .ok (.if_icmp .ge 83, 3) := by decide +kernel
theorem dX1_append_9 : decode cX1_append 9 = .ok (.aload_n 0, 1) := by decide +kernel
theorem dX1_append_10 : decode cX1_append 10 = .ok (.getfield 9, 3) := by decide +kernel
theorem dX1_append_13 : decode cX1_append 13 = .ok (.aload_n 0, 1) := by decide +kernel
theorem dX1_append_14 : decode cX1_append 14 = .ok (.getfield 22, 3) := by decide +kernel
theorem dX1_append_17 : decode cX1_append 17 = .ok (.iload_n 1, 1) := by decide +kernel
theorem dX1_append_18 : decode cX1_append 18 = .ok (.iload_n 2, 1) := by decide +kernel
theorem dX1_append_19 : decode cX1_append 19 = .ok (.invokestatic 42, 3) := by decide +kernel
theorem dX1_append_22 : decode cX1_append 22 = .ok (.iastore, 1) := by decide +kernel
theorem dX1_append_23 : decode cX1_append 23 = .ok (.aload_n 0, 1) := by decide +kernel
theorem dX1_append_24 : decode cX1_append 24 = .ok (.getfield 15, 3) := by decide +kernel
theorem dX1_append_27 : decode cX1_append 27 = .ok (.aload_n 0, 1) := by decide +kernel
theorem dX1_append_28 : decode cX1_append 28 = .ok (.getfield 22, 3) := by decide +kernel
theorem dX1_append_31 : decode cX1_append 31 = .ok (.iload_n 2, 1) := by decide +kernel
theorem dX1_append_32 : decode cX1_append 32 = .ok (.iastore, 1) := by decide +kernel
theorem dX1_append_33 : decode cX1_append 33 = .ok (.aload_n 0, 1) := by decide +kernel
theorem dX1_append_34 : decode cX1_append 34 = .ok (.getfield 18, 3) := by decide +kernel
theorem dX1_append_37 : decode cX1_append 37 = .ok (.aload_n 0, 1) := by decide +kernel
theorem dX1_append_38 : decode cX1_append 38 = .ok (.getfield 22, 3) := by decide +kernel
theorem dX1_append_41 : decode cX1_append 41 = .ok (.lload 4, 2) := by decide +kernel
theorem dX1_append_43 : decode cX1_append 43 = .ok (.lastore, 1) := by decide +kernel
theorem dX1_append_44 : decode cX1_append 44 = .ok (.aload_n 0, 1) := by decide +kernel
theorem dX1_append_45 : decode cX1_append 45 = .ok (.iload_n 3, 1) := by decide +kernel
theorem dX1_append_46 : decode cX1_append 46 = .ok (.ifCond .eq 17, 3) := by decide +kernel
theorem dX1_append_49 : decode cX1_append 49 = .ok (.aload_n 0, 1) := by decide +kernel
theorem dX1_append_50 : decode cX1_append 50 = .ok (.getfield 26, 3) := by decide +kernel
theorem dX1_append_53 : decode cX1_append 53 = .ok (.iconst 1, 1) := by decide +kernel
theorem dX1_append_54 : decode cX1_append 54 = .ok (.aload_n 0, 1) := by decide +kernel
theorem dX1_append_55 : decode cX1_append 55 = .ok (.getfield 22, 3) := by decide +kernel
theorem dX1_append_58 : decode cX1_append 58 = .ok (.ishl, 1) := by decide +kernel
theorem dX1_append_59 : decode cX1_append 59 = .ok (.ior, 1) := by decide +kernel
theorem dX1_append_60 : decode cX1_append 60 = .ok (.goto 16, 3) := by decide +kernel
theorem dX1_append_63 : decode cX1_append 63 = .ok (.aload_n 0, 1) := by decide +kernel
theorem dX1_append_64 : decode cX1_append 64 = .ok (.getfield 26, 3) := by decide +kernel
theorem dX1_append_67 : decode cX1_append 67 = .ok (.iconst 1, 1) := by decide +kernel
theorem dX1_append_68 : decode cX1_append 68 = .ok (.aload_n 0, 1) := by decide +kernel
theorem dX1_append_69 : decode cX1_append 69 = .ok (.getfield 22, 3) := by decide +kernel
theorem dX1_append_72 : decode cX1_append 72 = .ok (.ishl, 1) := by decide +kernel
theorem dX1_append_73 : decode cX1_append 73 = .ok (.iconst (-1), 1) := by decide +kernel
theorem dX1_append_74 : decode cX1_append 74 = .ok (.ixor, 1) := by decide +kernel
theorem dX1_append_75 : decode cX1_append 75 = .ok (.iand, 1) := by decide +kernel
theorem dX1_append_76 : decode cX1_append 76 = .ok (.putfield 26, 3) := by decide +kernel
theorem dX1_append_79 : decode cX1_append 79 = .ok (.aload_n 0, 1) := by decide +kernel
theorem dX1_append_80 : decode cX1_append 80 = .ok (.dup, 1) := by decide +kernel
theorem dX1_append_81 : decode cX1_append 81 = .ok (.getfield 22, 3) := by decide +kernel
theorem dX1_append_84 : decode cX1_append 84 = .ok (.iconst 1, 1) := by decide +kernel
theorem dX1_append_85 : decode cX1_append 85 = .ok (.iadd, 1) := by decide +kernel
theorem dX1_append_86 : decode cX1_append 86 = .ok (.putfield 22, 3) := by decide +kernel
theorem dX1_append_89 : decode cX1_append 89 = .ok (.return_, 1) := by decide +kernel
noncomputable def Cl_append (σ : St) (a0 : Nat) (p1 : Int32) (p2 : Int32) (p3 : Int32) (p4 : Int64) : Option St :=
  if 12 ≤ (σ.1 a0 3) then (some σ) else (bd (RC_leftBy p1 p2) (fun r2 => chk (ix (σ.1 a0 3) 12) (bnd (wI σ (a0 + 1) (tn (σ.1 a0 3)) r2) (fun σ4 => chk (ix (σ4.1 a0 3) 12) (bnd (wI σ4 (a0 + 2) (tn (σ4.1 a0 3)) p2) (fun σ6 => chk (ix (σ6.1 a0 3) 12) (bnd (wL σ6 (a0 + 3) (tn (σ6.1 a0 3)) p4) (fun σ8 => if p3 = 0 then (bnd (wI σ8 a0 4 ((σ8.1 a0 4) &&& ((1 <<< ((σ8.1 a0 3) &&& 31)) ^^^ (-1)))) (fun σ9 => bnd (wI σ9 a0 3 ((σ9.1 a0 3) + 1)) (fun σ10 => some σ10))) else (bnd (wI σ8 a0 4 ((σ8.1 a0 4) ||| (1 <<< ((σ8.1 a0 3) &&& 31)))) (fun σ11 => bnd (wI σ11 a0 3 ((σ11.1 a0 3) + 1)) (fun σ12 => some σ12)))))))))))
set_option maxRecDepth 100000 in
set_option maxHeartbeats 4000000 in
theorem tm_Cl_append {V : Ev} {Γ : Cn} {fin : Option Value × St} {σ : St} {a0 : Nat} {p1 : Int32} {p2 : Int32} {p3 : Int32} {p4 : Int64} {o : St} (X : Cx V Γ M_X1_append) {A : St → Prop} (k0 : okCl a0) (hr : ∀ (σ9 : St), A σ9 → (none, σ9) = fin) (h : Cl_append σ a0 p1 p2 p3 p4 = some o) (hA : A o) : Go V Γ M_X1_append (Zm V Γ 1 fin) 0 [(0, .ref (V.2.2.1 + a0)), (1, .int p1), (2, .int p2), (3, .int p3), (4, .long p4)] [] σ := by
  unfold Cl_append at h
  refine g_aload_n (pc := 0) X 0 rfl dX1_append_0 ?_
  refine g_getI (pc := 1) X k_fl_X1_22 (sCl_0 k0) rfl dX1_append_1 ?_
  refine g_bipush (v := 12) (pc := 4) X (by decide) dX1_append_4 ?_
  refine g_icmp_ge (pc := 6) (tgt := 89) X dX1_append_6 rfl (fun c14 => ?_) (fun c14 => ?_)
  · replace h := if_t c14 h
    cases h
    exact g_vret (pc := 89) X rfl (hr _ hA) dX1_append_89
  · replace h := if_f c14 h
    refine g_aload_n (pc := 9) X 0 rfl dX1_append_9 ?_
    refine g_getR (r := (a0 + 1)) (pc := 10) X k_fl_X1_9 (sCl_0 k0) rfl dX1_append_10 ?_
    refine g_aload_n (pc := 13) X 0 rfl dX1_append_13 ?_
    refine g_getI (pc := 14) X k_fl_X1_22 (sCl_0 k0) rfl dX1_append_14 ?_
    refine g_iload_n (pc := 17) X 1 rfl dX1_append_17 ?_
    refine g_iload_n (pc := 18) X 2 rfl dX1_append_18 ?_
    obtain ⟨r2, hc1, h⟩ := bd_e h
    refine g_callS (pc := 19) X k_ml_X1_42 (run_RC_leftBy  hc1) rfl (room_ok (Nat.le_of_ble_eq_true rfl) (Nat.le_of_ble_eq_true rfl)) ⟨Nat.le_refl _, Nat.le_refl _⟩ _ rfl (Nat.le_of_ble_eq_true rfl) dX1_append_19 ?_
    show Go V Γ M_X1_append (Zm V Γ 1 fin) 22 [(0, .ref (V.2.2.1 + a0)), (1, .int p1), (2, .int p2), (3, .int p3), (4, .long p4)] [.int r2, .int (σ.1 a0 3), .ref (V.2.2.1 + (a0 + 1))] σ
    obtain ⟨c3, h⟩ := chk_e h
    refine g_iast (pc := 22) X (sCl_1 k0) c3 dX1_append_22 ?_
    obtain ⟨σ4, e_σ4, h⟩ := bnd_e h
    refine g_nmS e_σ4 ?_
    refine g_aload_n (pc := 23) X 0 rfl dX1_append_23 ?_
    refine g_getR (r := (a0 + 2)) (pc := 24) X k_fl_X1_15 (sCl_0 k0) rfl dX1_append_24 ?_
    refine g_aload_n (pc := 27) X 0 rfl dX1_append_27 ?_
    refine g_getI (pc := 28) X k_fl_X1_22 (sCl_0 k0) rfl dX1_append_28 ?_
    refine g_iload_n (pc := 31) X 2 rfl dX1_append_31 ?_
    obtain ⟨c5, h⟩ := chk_e h
    refine g_iast (pc := 32) X (sCl_2 k0) c5 dX1_append_32 ?_
    obtain ⟨σ6, e_σ6, h⟩ := bnd_e h
    refine g_nmS e_σ6 ?_
    refine g_aload_n (pc := 33) X 0 rfl dX1_append_33 ?_
    refine g_getR (r := (a0 + 3)) (pc := 34) X k_fl_X1_18 (sCl_0 k0) rfl dX1_append_34 ?_
    refine g_aload_n (pc := 37) X 0 rfl dX1_append_37 ?_
    refine g_getI (pc := 38) X k_fl_X1_22 (sCl_0 k0) rfl dX1_append_38 ?_
    refine g_lload (pc := 41) X 4 rfl dX1_append_41 ?_
    obtain ⟨c7, h⟩ := chk_e h
    refine g_last (pc := 43) X (sCl_3 k0) c7 dX1_append_43 ?_
    obtain ⟨σ8, e_σ8, h⟩ := bnd_e h
    refine g_nmS e_σ8 ?_
    refine g_aload_n (pc := 44) X 0 rfl dX1_append_44 ?_
    refine g_iload_n (pc := 45) X 3 rfl dX1_append_45 ?_
    refine g_if_eq (pc := 46) (tgt := 63) X dX1_append_46 rfl (fun c13 => ?_) (fun c13 => ?_)
    · replace h := if_t c13 h
      refine g_aload_n (pc := 63) X 0 rfl dX1_append_63 ?_
      refine g_getI (pc := 64) X k_fl_X1_26 (sCl_0 k0) rfl dX1_append_64 ?_
      refine g_iconst (v := 1) (pc := 67) X rfl dX1_append_67 ?_
      refine g_aload_n (pc := 68) X 0 rfl dX1_append_68 ?_
      refine g_getI (pc := 69) X k_fl_X1_22 (sCl_0 k0) rfl dX1_append_69 ?_
      refine g_ishl (pc := 72) X dX1_append_72 ?_
      refine g_iconst (v := (-1)) (pc := 73) X rfl dX1_append_73 ?_
      refine g_ixor (pc := 74) X dX1_append_74 ?_
      refine g_iand (pc := 75) X dX1_append_75 ?_
      refine g_putI (pc := 76) X k_fl_X1_26 (sCl_0 k0) rfl rfl rfl dX1_append_76 ?_
      obtain ⟨σ9, e_σ9, h⟩ := bnd_e h
      refine g_nmS e_σ9 ?_
      refine g_aload_n (pc := 79) X 0 rfl dX1_append_79 ?_
      refine g_dup (pc := 80) X rfl dX1_append_80 ?_
      refine g_getI (pc := 81) X k_fl_X1_22 (sCl_0 k0) rfl dX1_append_81 ?_
      refine g_iconst (v := 1) (pc := 84) X rfl dX1_append_84 ?_
      refine g_iadd (pc := 85) X dX1_append_85 ?_
      refine g_putI (pc := 86) X k_fl_X1_22 (sCl_0 k0) rfl rfl rfl dX1_append_86 ?_
      obtain ⟨σ10, e_σ10, h⟩ := bnd_e h
      refine g_nmS e_σ10 ?_
      cases h
      exact g_vret (pc := 89) X rfl (hr _ hA) dX1_append_89
    · replace h := if_f c13 h
      refine g_aload_n (pc := 49) X 0 rfl dX1_append_49 ?_
      refine g_getI (pc := 50) X k_fl_X1_26 (sCl_0 k0) rfl dX1_append_50 ?_
      refine g_iconst (v := 1) (pc := 53) X rfl dX1_append_53 ?_
      refine g_aload_n (pc := 54) X 0 rfl dX1_append_54 ?_
      refine g_getI (pc := 55) X k_fl_X1_22 (sCl_0 k0) rfl dX1_append_55 ?_
      refine g_ishl (pc := 58) X dX1_append_58 ?_
      refine g_ior (pc := 59) X dX1_append_59 ?_
      refine g_goto (pc := 60) (tgt := 76) X dX1_append_60 rfl ?_
      refine g_putI (pc := 76) X k_fl_X1_26 (sCl_0 k0) rfl rfl rfl dX1_append_76 ?_
      obtain ⟨σ11, e_σ11, h⟩ := bnd_e h
      refine g_nmS e_σ11 ?_
      refine g_aload_n (pc := 79) X 0 rfl dX1_append_79 ?_
      refine g_dup (pc := 80) X rfl dX1_append_80 ?_
      refine g_getI (pc := 81) X k_fl_X1_22 (sCl_0 k0) rfl dX1_append_81 ?_
      refine g_iconst (v := 1) (pc := 84) X rfl dX1_append_84 ?_
      refine g_iadd (pc := 85) X dX1_append_85 ?_
      refine g_putI (pc := 86) X k_fl_X1_22 (sCl_0 k0) rfl rfl rfl dX1_append_86 ?_
      obtain ⟨σ12, e_σ12, h⟩ := bnd_e h
      refine g_nmS e_σ12 ?_
      cases h
      exact g_vret (pc := 89) X rfl (hr _ hA) dX1_append_89
set_option maxRecDepth 100000 in
theorem run_Cl_append {V : Ev} {σ : St} {a0 : Nat} {p1 : Int32} {p2 : Int32} {p3 : Int32} {p4 : Int64} {o : St} (k0 : okCl a0)  (h : Cl_append σ a0 p1 p2 p3 p4 = some o) : Rs V 1 M_X1_append [.ref (V.2.2.1 + a0), .int p1, .int p2, .int p3, .long p4] σ (none, o) := by
  refine Rs.of (by decide +kernel) (Nat.le_of_ble_eq_true rfl) (fun Γ X => ?_)
  exact tm_Cl_append X (A := fun o1 => o1 = o) k0 (fun _ e => by rw [e]) h rfl
theorem dX1_remove_0 : decode cX1_remove 0 = .ok (.aload_n 0, 1) := by decide +kernel
theorem dX1_remove_1 : decode cX1_remove 1 = .ok (.iload_n 1, 1) := by decide +kernel
theorem dX1_remove_2 : decode cX1_remove 2 = .ok (.invokevirtual 46, 3) := by decide +kernel
theorem dX1_remove_5 : decode cX1_remove 5 = .ok (.ifCond .ne 4, 3) := by decide +kernel
theorem dX1_remove_8 : decode cX1_remove 8 = .ok (.return_, 1) := by decide +kernel
theorem dX1_remove_9 : decode cX1_remove 9 = .ok (.aload_n 0, 1) := by decide +kernel
theorem dX1_remove_10 : decode cX1_remove 10 = .ok (.getfield 22, 3) := by decide +kernel
theorem dX1_remove_13 : decode cX1_remove 13 = .ok (.iload_n 1, 1) := by decide +kernel
theorem dX1_remove_14 : decode cX1_remove 14 = .ok (.isub, 1) := by decide +kernel
theorem dX1_remove_15 : decode cX1_remove 15 = .ok (.iconst 1, 1) := by decide +kernel
theorem dX1_remove_16 : decode cX1_remove 16 = .ok (.isub, 1) := by decide +kernel
theorem dX1_remove_17 : decode cX1_remove 17 = .ok (.istore_n 2, 1) := by decide +kernel
theorem dX1_remove_18 : decode cX1_remove 18 = .ok (.aload_n 0, 1) := by decide +kernel
theorem dX1_remove_19 : decode cX1_remove 19 = .ok (.getfield 9, 3) := by decide +kernel
theorem dX1_remove_22 : decode cX1_remove 22 = .ok (.iload_n 1, 1) := by decide +kernel
theorem dX1_remove_23 : decode cX1_remove 23 = .ok (.iconst 1, 1) := by decide +kernel
theorem dX1_remove_24 : decode cX1_remove 24 = .ok (.iadd, 1) := by decide +kernel
theorem dX1_remove_25 : decode cX1_remove 25 = .ok (.aload_n 0, 1) := by decide +kernel
theorem dX1_remove_26 : decode cX1_remove 26 = .ok (.getfield 9, 3) := by decide +kernel
theorem dX1_remove_29 : decode cX1_remove 29 = .ok (.iload_n 1, 1) := by decide +kernel
theorem dX1_remove_30 : decode cX1_remove 30 = .ok (.iload_n 2, 1) := by decide +kernel
theorem dX1_remove_31 : decode cX1_remove 31 = .ok (.invokestatic 32, 3) := by decide +kernel
theorem dX1_remove_34 : decode cX1_remove 34 = .ok (.aload_n 0, 1) := by decide +kernel
theorem dX1_remove_35 : decode cX1_remove 35 = .ok (.getfield 15, 3) := by decide +kernel
theorem dX1_remove_38 : decode cX1_remove 38 = .ok (.iload_n 1, 1) := by decide +kernel
theorem dX1_remove_39 : decode cX1_remove 39 = .ok (.iconst 1, 1) := by decide +kernel
theorem dX1_remove_40 : decode cX1_remove 40 = .ok (.iadd, 1) := by decide +kernel
theorem dX1_remove_41 : decode cX1_remove 41 = .ok (.aload_n 0, 1) := by decide +kernel
theorem dX1_remove_42 : decode cX1_remove 42 = .ok (.getfield 15, 3) := by decide +kernel
theorem dX1_remove_45 : decode cX1_remove 45 = .ok (.iload_n 1, 1) := by decide +kernel
theorem dX1_remove_46 : decode cX1_remove 46 = .ok (.iload_n 2, 1) := by decide +kernel
theorem dX1_remove_47 : decode cX1_remove 47 = .ok (.invokestatic 32, 3) := by decide +kernel
theorem dX1_remove_50 : decode cX1_remove 50 = .ok (.aload_n 0, 1) := by decide +kernel
theorem dX1_remove_51 : decode cX1_remove 51 = .ok (.getfield 18, 3) := by decide +kernel
theorem dX1_remove_54 : decode cX1_remove 54 = .ok (.iload_n 1, 1) := by decide +kernel
theorem dX1_remove_55 : decode cX1_remove 55 = .ok (.iconst 1, 1) := by decide +kernel
theorem dX1_remove_56 : decode cX1_remove 56 = .ok (.iadd, 1) := by decide +kernel
theorem dX1_remove_57 : decode cX1_remove 57 = .ok (.aload_n 0, 1) := by decide +kernel
theorem dX1_remove_58 : decode cX1_remove 58 = .ok (.getfield 18, 3) := by decide +kernel
theorem dX1_remove_61 : decode cX1_remove 61 = .ok (.iload_n 1, 1) := by decide +kernel
theorem dX1_remove_62 : decode cX1_remove 62 = .ok (.iload_n 2, 1) := by decide +kernel
theorem dX1_remove_63 : decode cX1_remove 63 = .ok (.invokestatic 32, 3) := by decide +kernel
theorem dX1_remove_66 : decode cX1_remove 66 = .ok (.iconst 1, 1) := by decide +kernel
theorem dX1_remove_67 : decode cX1_remove 67 = .ok (.iload_n 1, 1) := by decide +kernel
theorem dX1_remove_68 : decode cX1_remove 68 = .ok (.ishl, 1) := by decide +kernel
theorem dX1_remove_69 : decode cX1_remove 69 = .ok (.iconst 1, 1) := by decide +kernel
theorem dX1_remove_70 : decode cX1_remove 70 = .ok (.isub, 1) := by decide +kernel
theorem dX1_remove_71 : decode cX1_remove 71 = .ok (.istore_n 3, 1) := by decide +kernel
theorem dX1_remove_72 : decode cX1_remove 72 = .ok (.aload_n 0, 1) := by decide +kernel
theorem dX1_remove_73 : decode cX1_remove 73 = .ok (.aload_n 0, 1) := by decide +kernel
theorem dX1_remove_74 : decode cX1_remove 74 = .ok (.getfield 26, 3) := by decide +kernel
theorem dX1_remove_77 : decode cX1_remove 77 = .ok (.iload_n 3, 1) := by decide +kernel
theorem dX1_remove_78 : decode cX1_remove 78 = .ok (.iand, 1) := by decide +kernel
theorem dX1_remove_79 : decode cX1_remove 79 = .ok (.aload_n 0, 1) := by decide +kernel
theorem dX1_remove_80 : decode cX1_remove 80 = .ok (.getfield 26, 3) := by decide +kernel
theorem dX1_remove_83 : decode cX1_remove 83 = .ok (.iconst 1, 1) := by decide +kernel
theorem dX1_remove_84 : decode cX1_remove 84 = .ok (.ishr, 1) := by decide +kernel
theorem dX1_remove_85 : decode cX1_remove 85 = .ok (.iload_n 3, 1) := by decide +kernel
theorem dX1_remove_86 : decode cX1_remove 86 = .ok (.iconst (-1), 1) := by decide +kernel
theorem dX1_remove_87 : decode cX1_remove 87 = .ok (.ixor, 1) := by decide +kernel
theorem dX1_remove_88 : decode cX1_remove 88 = .ok (.iand, 1) := by decide +kernel
theorem dX1_remove_89 : decode cX1_remove 89 = .ok (.ior, 1) := by decide +kernel
theorem dX1_remove_90 : decode cX1_remove 90 = .ok (.putfield 26, 3) := by decide +kernel
theorem dX1_remove_93 : decode cX1_remove 93 = .ok (.aload_n 0, 1) := by decide +kernel
theorem dX1_remove_94 : decode cX1_remove 94 = .ok (.dup, 1) := by decide +kernel
theorem dX1_remove_95 : decode cX1_remove 95 = .ok (.getfield 22, 3) := by decide +kernel
theorem dX1_remove_98 : decode cX1_remove 98 = .ok (.iconst 1, 1) := by decide +kernel
theorem dX1_remove_99 : decode cX1_remove 99 = .ok (.isub, 1) := by decide +kernel
theorem dX1_remove_100 : decode cX1_remove 100 = .ok (.putfield 22, 3) := by decide +kernel
theorem dX1_remove_103 : decode cX1_remove 103 = .ok (.return_, 1) := by decide +kernel
noncomputable def Cl_remove (σ : St) (a0 : Nat) (p1 : Int32) : Option St :=
  bd (Cl_isThere σ a0 p1) (fun r2 => if r2 = 0 then (some σ) else (bnd ((((σ.1 a0 3) - p1) - 1)) (fun v3 => chk (cpk (p1 + 1) p1 v3 12 12) (bnd (rI σ (a0 + 1) (va_cpy (σ.1 (a0 + 1)) (σ.1 (a0 + 1)) (tn (p1 + 1)) (tn p1) (tn v3))) (fun σ5 => chk (cpk (p1 + 1) p1 v3 12 12) (bnd (rI σ5 (a0 + 2) (va_cpy (σ5.1 (a0 + 2)) (σ5.1 (a0 + 2)) (tn (p1 + 1)) (tn p1) (tn v3))) (fun σ7 => chk (cpk (p1 + 1) p1 v3 12 12) (bnd (rL σ7 (a0 + 3) (va_cpy (σ7.2 (a0 + 3)) (σ7.2 (a0 + 3)) (tn (p1 + 1)) (tn p1) (tn v3))) (fun σ9 => bnd (((1 <<< (p1 &&& 31)) - 1)) (fun v10 => bnd (wI σ9 a0 4 (((σ9.1 a0 4) &&& v10) ||| (((σ9.1 a0 4) >>> (1 &&& 31)) &&& (v10 ^^^ (-1))))) (fun σ11 => bnd (wI σ11 a0 3 ((σ11.1 a0 3) - 1)) (fun σ12 => some σ12))))))))))))
set_option maxRecDepth 100000 in
set_option maxHeartbeats 4000000 in
theorem tm_Cl_remove {V : Ev} {Γ : Cn} {fin : Option Value × St} {σ : St} {a0 : Nat} {p1 : Int32} {o : St} (X : Cx V Γ M_X1_remove) {A : St → Prop} (k0 : okCl a0) (hr : ∀ (σ9 : St), A σ9 → (none, σ9) = fin) (h : Cl_remove σ a0 p1 = some o) (hA : A o) : Go V Γ M_X1_remove (Zm V Γ 1 fin) 0 [(0, .ref (V.2.2.1 + a0)), (1, .int p1)] [] σ := by
  unfold Cl_remove at h
  refine g_aload_n (pc := 0) X 0 rfl dX1_remove_0 ?_
  refine g_iload_n (pc := 1) X 1 rfl dX1_remove_1 ?_
  obtain ⟨r2, hc1, h⟩ := bd_e h
  refine g_callV (pc := 2) X k_ml_X1_46 (run_Cl_isThere k0 hc1) (sCl_0 k0) rfl (room_ok (Nat.le_of_ble_eq_true rfl) (Nat.le_of_ble_eq_true rfl)) ⟨Nat.le_refl _, Nat.le_refl _⟩ _ rfl (Nat.le_of_ble_eq_true rfl) dX1_remove_2 ?_
  show Go V Γ M_X1_remove (Zm V Γ 1 fin) 5 [(0, .ref (V.2.2.1 + a0)), (1, .int p1)] [.int r2] σ
  refine g_if_ne (pc := 5) (tgt := 9) X dX1_remove_5 rfl (fun c13 => ?_) (fun c13 => ?_)
  · replace h := if_f c13 h
    refine g_aload_n (pc := 9) X 0 rfl dX1_remove_9 ?_
    refine g_getI (pc := 10) X k_fl_X1_22 (sCl_0 k0) rfl dX1_remove_10 ?_
    refine g_iload_n (pc := 13) X 1 rfl dX1_remove_13 ?_
    refine g_isub (pc := 14) X dX1_remove_14 ?_
    refine g_iconst (v := 1) (pc := 15) X rfl dX1_remove_15 ?_
    refine g_isub (pc := 16) X dX1_remove_16 ?_
    obtain ⟨v3, e_v3, h⟩ := bnd_e h
    refine g_nmI e_v3 ?_
    refine g_istore_n (pc := 17) X [(2, .int v3), (0, .ref (V.2.2.1 + a0)), (1, .int p1)] rfl (Nat.le_of_ble_eq_true rfl) rfl dX1_remove_17 ?_
    refine g_aload_n (pc := 18) X 1 rfl dX1_remove_18 ?_
    refine g_getR (r := (a0 + 1)) (pc := 19) X k_fl_X1_9 (sCl_0 k0) rfl dX1_remove_19 ?_
    refine g_iload_n (pc := 22) X 2 rfl dX1_remove_22 ?_
    refine g_iconst (v := 1) (pc := 23) X rfl dX1_remove_23 ?_
    refine g_iadd (pc := 24) X dX1_remove_24 ?_
    refine g_aload_n (pc := 25) X 1 rfl dX1_remove_25 ?_
    refine g_getR (r := (a0 + 1)) (pc := 26) X k_fl_X1_9 (sCl_0 k0) rfl dX1_remove_26 ?_
    refine g_iload_n (pc := 29) X 2 rfl dX1_remove_29 ?_
    refine g_iload_n (pc := 30) X 0 rfl dX1_remove_30 ?_
    obtain ⟨c4, h⟩ := chk_e h
    refine g_copyI (pc := 31) X k_ml_X1_32 (sCl_1 k0) (sCl_1 k0) c4 (Nat.le_of_ble_eq_true rfl) (Nat.le_of_ble_eq_true rfl) dX1_remove_31 ?_
    obtain ⟨σ5, e_σ5, h⟩ := bnd_e h
    refine g_nmS e_σ5 ?_
    refine g_aload_n (pc := 34) X 1 rfl dX1_remove_34 ?_
    refine g_getR (r := (a0 + 2)) (pc := 35) X k_fl_X1_15 (sCl_0 k0) rfl dX1_remove_35 ?_
    refine g_iload_n (pc := 38) X 2 rfl dX1_remove_38 ?_
    refine g_iconst (v := 1) (pc := 39) X rfl dX1_remove_39 ?_
    refine g_iadd (pc := 40) X dX1_remove_40 ?_
    refine g_aload_n (pc := 41) X 1 rfl dX1_remove_41 ?_
    refine g_getR (r := (a0 + 2)) (pc := 42) X k_fl_X1_15 (sCl_0 k0) rfl dX1_remove_42 ?_
    refine g_iload_n (pc := 45) X 2 rfl dX1_remove_45 ?_
    refine g_iload_n (pc := 46) X 0 rfl dX1_remove_46 ?_
    obtain ⟨c6, h⟩ := chk_e h
    refine g_copyI (pc := 47) X k_ml_X1_32 (sCl_2 k0) (sCl_2 k0) c6 (Nat.le_of_ble_eq_true rfl) (Nat.le_of_ble_eq_true rfl) dX1_remove_47 ?_
    obtain ⟨σ7, e_σ7, h⟩ := bnd_e h
    refine g_nmS e_σ7 ?_
    refine g_aload_n (pc := 50) X 1 rfl dX1_remove_50 ?_
    refine g_getR (r := (a0 + 3)) (pc := 51) X k_fl_X1_18 (sCl_0 k0) rfl dX1_remove_51 ?_
    refine g_iload_n (pc := 54) X 2 rfl dX1_remove_54 ?_
    refine g_iconst (v := 1) (pc := 55) X rfl dX1_remove_55 ?_
    refine g_iadd (pc := 56) X dX1_remove_56 ?_
    refine g_aload_n (pc := 57) X 1 rfl dX1_remove_57 ?_
    refine g_getR (r := (a0 + 3)) (pc := 58) X k_fl_X1_18 (sCl_0 k0) rfl dX1_remove_58 ?_
    refine g_iload_n (pc := 61) X 2 rfl dX1_remove_61 ?_
    refine g_iload_n (pc := 62) X 0 rfl dX1_remove_62 ?_
    obtain ⟨c8, h⟩ := chk_e h
    refine g_copyL (pc := 63) X k_ml_X1_32 (sCl_3 k0) (sCl_3 k0) c8 (Nat.le_of_ble_eq_true rfl) (Nat.le_of_ble_eq_true rfl) dX1_remove_63 ?_
    obtain ⟨σ9, e_σ9, h⟩ := bnd_e h
    refine g_nmS e_σ9 ?_
    refine g_iconst (v := 1) (pc := 66) X rfl dX1_remove_66 ?_
    refine g_iload_n (pc := 67) X 2 rfl dX1_remove_67 ?_
    refine g_ishl (pc := 68) X dX1_remove_68 ?_
    refine g_iconst (v := 1) (pc := 69) X rfl dX1_remove_69 ?_
    refine g_isub (pc := 70) X dX1_remove_70 ?_
    obtain ⟨v10, e_v10, h⟩ := bnd_e h
    refine g_nmI e_v10 ?_
    refine g_istore_n (pc := 71) X [(3, .int v10), (2, .int v3), (0, .ref (V.2.2.1 + a0)), (1, .int p1)] rfl (Nat.le_of_ble_eq_true rfl) rfl dX1_remove_71 ?_
    refine g_aload_n (pc := 72) X 2 rfl dX1_remove_72 ?_
    refine g_aload_n (pc := 73) X 2 rfl dX1_remove_73 ?_
    refine g_getI (pc := 74) X k_fl_X1_26 (sCl_0 k0) rfl dX1_remove_74 ?_
    refine g_iload_n (pc := 77) X 0 rfl dX1_remove_77 ?_
    refine g_iand (pc := 78) X dX1_remove_78 ?_
    refine g_aload_n (pc := 79) X 2 rfl dX1_remove_79 ?_
    refine g_getI (pc := 80) X k_fl_X1_26 (sCl_0 k0) rfl dX1_remove_80 ?_
    refine g_iconst (v := 1) (pc := 83) X rfl dX1_remove_83 ?_
    refine g_ishr (pc := 84) X dX1_remove_84 ?_
    refine g_iload_n (pc := 85) X 0 rfl dX1_remove_85 ?_
    refine g_iconst (v := (-1)) (pc := 86) X rfl dX1_remove_86 ?_
    refine g_ixor (pc := 87) X dX1_remove_87 ?_
    refine g_iand (pc := 88) X dX1_remove_88 ?_
    refine g_ior (pc := 89) X dX1_remove_89 ?_
    refine g_putI (pc := 90) X k_fl_X1_26 (sCl_0 k0) rfl rfl rfl dX1_remove_90 ?_
    obtain ⟨σ11, e_σ11, h⟩ := bnd_e h
    refine g_nmS e_σ11 ?_
    refine g_aload_n (pc := 93) X 2 rfl dX1_remove_93 ?_
    refine g_dup (pc := 94) X rfl dX1_remove_94 ?_
    refine g_getI (pc := 95) X k_fl_X1_22 (sCl_0 k0) rfl dX1_remove_95 ?_
    refine g_iconst (v := 1) (pc := 98) X rfl dX1_remove_98 ?_
    refine g_isub (pc := 99) X dX1_remove_99 ?_
    refine g_putI (pc := 100) X k_fl_X1_22 (sCl_0 k0) rfl rfl rfl dX1_remove_100 ?_
    obtain ⟨σ12, e_σ12, h⟩ := bnd_e h
    refine g_nmS e_σ12 ?_
    cases h
    exact g_vret (pc := 103) X rfl (hr _ hA) dX1_remove_103
  · replace h := if_t c13 h
    cases h
    exact g_vret (pc := 8) X rfl (hr _ hA) dX1_remove_8
set_option maxRecDepth 100000 in
theorem run_Cl_remove {V : Ev} {σ : St} {a0 : Nat} {p1 : Int32} {o : St} (k0 : okCl a0)  (h : Cl_remove σ a0 p1 = some o) : Rs V 1 M_X1_remove [.ref (V.2.2.1 + a0), .int p1] σ (none, o) := by
  refine Rs.of (by decide +kernel) (Nat.le_of_ble_eq_true rfl) (fun Γ X => ?_)
  exact tm_Cl_remove X (A := fun o1 => o1 = o) k0 (fun _ e => by rw [e]) h rfl
theorem dX1_flip_0 : decode cX1_flip 0 = .ok (.aload_n 0, 1) := by decide +kernel
theorem dX1_flip_1 : decode cX1_flip 1 = .ok (.iload_n 1, 1) := by decide +kernel
theorem dX1_flip_2 : decode cX1_flip 2 = .ok (.invokevirtual 46, 3) := by decide +kernel
theorem dX1_flip_5 : decode cX1_flip 5 = .ok (.ifCond .eq 15, 3) := by decide +kernel
theorem dX1_flip_8 : decode cX1_flip 8 = .ok (.aload_n 0, 1) := by decide +kernel
theorem dX1_flip_9 : decode cX1_flip 9 = .ok (.dup, 1) := by decide +kernel
theorem dX1_flip_10 : decode cX1_flip 10 = .ok (.getfield 26, 3) := by decide +kernel
theorem dX1_flip_13 : decode cX1_flip 13 = .ok (.iconst 1, 1) := by decide +kernel
theorem dX1_flip_14 : decode cX1_flip 14 = .ok (.iload_n 1, 1) := by decide +kernel
theorem dX1_flip_15 : decode cX1_flip 15 = .ok (.ishl, 1) := by decide +kernel
theorem dX1_flip_16 : decode cX1_flip 16 = .ok (.ixor, 1) := by decide +kernel
theorem dX1_flip_17 : decode cX1_flip 17 = .ok (.putfield 26, 3) := by decide +kernel
theorem dX1_flip_20 : decode cX1_flip 20 = .ok (.return_, 1) := by decide +kernel
noncomputable def Cl_flip (σ : St) (a0 : Nat) (p1 : Int32) : Option St :=
  bd (Cl_isThere σ a0 p1) (fun r2 => if r2 = 0 then (some σ) else (bnd (wI σ a0 4 ((σ.1 a0 4) ^^^ (1 <<< (p1 &&& 31)))) (fun σ3 => some σ3)))
set_option maxRecDepth 100000 in
set_option maxHeartbeats 4000000 in
theorem tm_Cl_flip {V : Ev} {Γ : Cn} {fin : Option Value × St} {σ : St} {a0 : Nat} {p1 : Int32} {o : St} (X : Cx V Γ M_X1_flip) {A : St → Prop} (k0 : okCl a0) (hr : ∀ (σ9 : St), A σ9 → (none, σ9) = fin) (h : Cl_flip σ a0 p1 = some o) (hA : A o) : Go V Γ M_X1_flip (Zm V Γ 1 fin) 0 [(0, .ref (V.2.2.1 + a0)), (1, .int p1)] [] σ := by
  unfold Cl_flip at h
  refine g_aload_n (pc := 0) X 0 rfl dX1_flip_0 ?_
  refine g_iload_n (pc := 1) X 1 rfl dX1_flip_1 ?_
  obtain ⟨r2, hc1, h⟩ := bd_e h
  refine g_callV (pc := 2) X k_ml_X1_46 (run_Cl_isThere k0 hc1) (sCl_0 k0) rfl (room_ok (Nat.le_of_ble_eq_true rfl) (Nat.le_of_ble_eq_true rfl)) ⟨Nat.le_refl _, Nat.le_refl _⟩ _ rfl (Nat.le_of_ble_eq_true rfl) dX1_flip_2 ?_
  show Go V Γ M_X1_flip (Zm V Γ 1 fin) 5 [(0, .ref (V.2.2.1 + a0)), (1, .int p1)] [.int r2] σ
  refine g_if_eq (pc := 5) (tgt := 20) X dX1_flip_5 rfl (fun c4 => ?_) (fun c4 => ?_)
  · replace h := if_t c4 h
    cases h
    exact g_vret (pc := 20) X rfl (hr _ hA) dX1_flip_20
  · replace h := if_f c4 h
    refine g_aload_n (pc := 8) X 0 rfl dX1_flip_8 ?_
    refine g_dup (pc := 9) X rfl dX1_flip_9 ?_
    refine g_getI (pc := 10) X k_fl_X1_26 (sCl_0 k0) rfl dX1_flip_10 ?_
    refine g_iconst (v := 1) (pc := 13) X rfl dX1_flip_13 ?_
    refine g_iload_n (pc := 14) X 1 rfl dX1_flip_14 ?_
    refine g_ishl (pc := 15) X dX1_flip_15 ?_
    refine g_ixor (pc := 16) X dX1_flip_16 ?_
    refine g_putI (pc := 17) X k_fl_X1_26 (sCl_0 k0) rfl rfl rfl dX1_flip_17 ?_
    obtain ⟨σ3, e_σ3, h⟩ := bnd_e h
    refine g_nmS e_σ3 ?_
    cases h
    exact g_vret (pc := 20) X rfl (hr _ hA) dX1_flip_20
set_option maxRecDepth 100000 in
theorem run_Cl_flip {V : Ev} {σ : St} {a0 : Nat} {p1 : Int32} {o : St} (k0 : okCl a0)  (h : Cl_flip σ a0 p1 = some o) : Rs V 1 M_X1_flip [.ref (V.2.2.1 + a0), .int p1] σ (none, o) := by
  refine Rs.of (by decide +kernel) (Nat.le_of_ble_eq_true rfl) (fun Γ X => ?_)
  exact tm_Cl_flip X (A := fun o1 => o1 = o) k0 (fun _ e => by rw [e]) h rfl
theorem dX1_slide_0 : decode cX1_slide 0 = .ok (.iconst 0, 1) := by decide +kernel
theorem dX1_slide_1 : decode cX1_slide 1 = .ok (.istore_n 2, 1) := by decide +kernel
theorem dX1_slide_2 : decode cX1_slide 2 = .ok (.iload_n 2, 1) := by decide +kernel
theorem dX1_slide_3 : decode cX1_slide 3 = .ok (.aload_n 0, 1) := by decide +kernel
theorem dX1_slide_4 : decode cX1_slide 4 = .ok (.getfield 22, 3) := by decide +kernel
theorem dX1_slide_7 : decode cX1_slide 7 = .ok (.if_icmp .ge 32, 3) := by decide +kernel
theorem dX1_slide_10 : decode cX1_slide 10 = .ok (.aload_n 0, 1) := by decide +kernel
theorem dX1_slide_11 : decode cX1_slide 11 = .ok (.getfield 9, 3) := by decide +kernel
theorem dX1_slide_14 : decode cX1_slide 14 = .ok (.iload_n 2, 1) := by decide +kernel
theorem dX1_slide_15 : decode cX1_slide 15 = .ok (.aload_n 0, 1) := by decide +kernel
theorem dX1_slide_16 : decode cX1_slide 16 = .ok (.getfield 9, 3) := by decide +kernel
theorem dX1_slide_19 : decode cX1_slide 19 = .ok (.iload_n 2, 1) := by decide +kernel
theorem dX1_slide_20 : decode cX1_slide 20 = .ok (.iaload, 1) := by decide +kernel
theorem dX1_slide_21 : decode cX1_slide 21 = .ok (.iload_n 1, 1) := by decide +kernel
theorem dX1_slide_22 : decode cX1_slide 22 = .ok (.iadd, 1) := by decide +kernel
theorem dX1_slide_23 : decode cX1_slide 23 = .ok (.aload_n 0, 1) := by decide +kernel
theorem dX1_slide_24 : decode cX1_slide 24 = .ok (.getfield 15, 3) := by decide +kernel
theorem dX1_slide_27 : decode cX1_slide 27 = .ok (.iload_n 2, 1) := by decide +kernel
theorem dX1_slide_28 : decode cX1_slide 28 = .ok (.iaload, 1) := by decide +kernel
theorem dX1_slide_29 : decode cX1_slide 29 = .ok (.invokestatic 42, 3) := by decide +kernel
theorem dX1_slide_32 : decode cX1_slide 32 = .ok (.iastore, 1) := by decide +kernel
theorem dX1_slide_33 : decode cX1_slide 33 = .ok (.iinc 2 1, 3) := by decide +kernel
theorem dX1_slide_36 : decode cX1_slide 36 = .ok (.goto (-34), 3) := by decide +kernel
theorem dX1_slide_39 : decode cX1_slide 39 = .ok (.return_, 1) := by decide +kernel
noncomputable def Cl_slide_L2 (l0 : Nat) (l1 : Int32) (σ : St) (x2 : Int32) : Option ((Int32 × St) ⊕ St) :=
  if (σ.1 l0 3) ≤ x2 then (some (.inr σ)) else (chk (ix x2 12) (chk (ix x2 12) (bd (RC_leftBy ((σ.1 (l0 + 1) (tn x2)) + l1) (σ.1 (l0 + 2) (tn x2))) (fun r4 => chk (ix x2 12) (bnd (wI σ (l0 + 1) (tn x2) r4) (fun σ6 => bnd (x2 + 1) (fun v7 => some (.inl (v7, σ6)))))))))
set_option maxRecDepth 100000 in
set_option maxHeartbeats 4000000 in
theorem tb_Cl_slide_L2 {V : Ev} {Γ : Cn} {fin : Option Value × St} {l0 : Nat} {l1 : Int32} {σ : St} {x2 : Int32} {o : ((Int32 × St) ⊕ St)} (X : Cx V Γ M_X1_slide) {A : ((Int32 × St) ⊕ St) → Prop} (k_l0 : okCl l0) (hb2 : ∀ (x2 : Int32) (σ9 : St), A (.inl (x2, σ9)) → Go V Γ M_X1_slide (Zm V Γ 1 fin) 2 [(0, .ref (V.2.2.1 + l0)), (1, .int l1), (2, .int x2)] [] σ9) (hx2 : ∀ (σ9 : St), A (.inr σ9) → Go V Γ M_X1_slide (Zm V Γ 1 fin) 39 [] [] σ9) (h : Cl_slide_L2 l0 l1 σ x2 = some o) (hA : A o) : Go V Γ M_X1_slide (Zm V Γ 1 fin) 2 [(0, .ref (V.2.2.1 + l0)), (1, .int l1), (2, .int x2)] [] σ := by
  unfold Cl_slide_L2 at h
  refine g_iload_n (pc := 2) X 2 rfl dX1_slide_2 ?_
  refine g_aload_n (pc := 3) X 0 rfl dX1_slide_3 ?_
  refine g_getI (pc := 4) X k_fl_X1_22 (sCl_0 k_l0) rfl dX1_slide_4 ?_
  refine g_icmp_ge (pc := 7) (tgt := 39) X dX1_slide_7 rfl (fun c8 => ?_) (fun c8 => ?_)
  · replace h := if_t c8 h
    refine g_sub [] rfl ?_
    cases h
    exact hx2 _ hA
  · replace h := if_f c8 h
    refine g_aload_n (pc := 10) X 0 rfl dX1_slide_10 ?_
    refine g_getR (r := (l0 + 1)) (pc := 11) X k_fl_X1_9 (sCl_0 k_l0) rfl dX1_slide_11 ?_
    refine g_iload_n (pc := 14) X 2 rfl dX1_slide_14 ?_
    refine g_aload_n (pc := 15) X 0 rfl dX1_slide_15 ?_
    refine g_getR (r := (l0 + 1)) (pc := 16) X k_fl_X1_9 (sCl_0 k_l0) rfl dX1_slide_16 ?_
    refine g_iload_n (pc := 19) X 2 rfl dX1_slide_19 ?_
    obtain ⟨c1, h⟩ := chk_e h
    refine g_iald (pc := 20) X (sCl_1 k_l0) c1 dX1_slide_20 ?_
    refine g_iload_n (pc := 21) X 1 rfl dX1_slide_21 ?_
    refine g_iadd (pc := 22) X dX1_slide_22 ?_
    refine g_aload_n (pc := 23) X 0 rfl dX1_slide_23 ?_
    refine g_getR (r := (l0 + 2)) (pc := 24) X k_fl_X1_15 (sCl_0 k_l0) rfl dX1_slide_24 ?_
    refine g_iload_n (pc := 27) X 2 rfl dX1_slide_27 ?_
    obtain ⟨c2, h⟩ := chk_e h
    refine g_iald (pc := 28) X (sCl_2 k_l0) c2 dX1_slide_28 ?_
    obtain ⟨r4, hc3, h⟩ := bd_e h
    refine g_callS (pc := 29) X k_ml_X1_42 (run_RC_leftBy  hc3) rfl (room_ok (Nat.le_of_ble_eq_true rfl) (Nat.le_of_ble_eq_true rfl)) ⟨Nat.le_refl _, Nat.le_refl _⟩ _ rfl (Nat.le_of_ble_eq_true rfl) dX1_slide_29 ?_
    show Go V Γ M_X1_slide (Zm V Γ 1 fin) 32 [(0, .ref (V.2.2.1 + l0)), (1, .int l1), (2, .int x2)] [.int r4, .int x2, .ref (V.2.2.1 + (l0 + 1))] σ
    obtain ⟨c5, h⟩ := chk_e h
    refine g_iast (pc := 32) X (sCl_1 k_l0) c5 dX1_slide_32 ?_
    obtain ⟨σ6, e_σ6, h⟩ := bnd_e h
    refine g_nmS e_σ6 ?_
    obtain ⟨v7, e_v7, h⟩ := bnd_e h
    refine g_iinc (pc := 33) (v := v7) X [(2, .int v7), (0, .ref (V.2.2.1 + l0)), (1, .int l1)] 2 rfl (by rw [e_v7]; rfl) (Nat.le_of_ble_eq_true rfl) rfl dX1_slide_33 ?_
    refine g_goto (pc := 36) (tgt := 2) X dX1_slide_36 rfl ?_
    refine g_sub [1, 2, 0] rfl ?_
    cases h
    exact hb2 _ _ hA
set_option maxRecDepth 100000 in
theorem tl_Cl_slide_L2 {V : Ev} {Γ : Cn} {fin : Option Value × St} {l0 : Nat} {l1 : Int32} {x2 : Int32} {σ9 : St} (X : Cx V Γ M_X1_slide) (k_l0 : okCl l0) {σ8 : St} {n : Nat} (h : iter (fun s : (Int32 × St) => Cl_slide_L2 l0 l1 s.2 s.1) n (x2, σ9) = some σ8) (hK : Go V Γ M_X1_slide (Zm V Γ 1 fin) 39 [] [] σ8) : Go V Γ M_X1_slide (Zm V Γ 1 fin) 2 [(0, .ref (V.2.2.1 + l0)), (1, .int l1), (2, .int x2)] [] σ9 := by
  refine iter_go (G := (fun s : (Int32 × St) => Go V Γ M_X1_slide (Zm V Γ 1 fin) 2 [(0, .ref (V.2.2.1 + l0)), (1, .int l1), (2, .int s.1)] [] s.2)) (fun s o ho hS => ?_) n (x2, σ9) h
  exact tb_Cl_slide_L2 X k_l0 (fun _ _ h9 => h9) (fun _ he => by cases he; exact hK) ho hS
noncomputable def Cl_slide (σ : St) (a0 : Nat) (p1 : Int32) : Option St :=
  bd (iter (fun s : (Int32 × St) => Cl_slide_L2 a0 p1 s.2 s.1) FUEL (0, σ)) (fun σ9 => some σ9)
set_option maxRecDepth 100000 in
set_option maxHeartbeats 4000000 in
theorem tm_Cl_slide {V : Ev} {Γ : Cn} {fin : Option Value × St} {σ : St} {a0 : Nat} {p1 : Int32} {o : St} (X : Cx V Γ M_X1_slide) {A : St → Prop} (k0 : okCl a0) (hr : ∀ (σ9 : St), A σ9 → (none, σ9) = fin) (h : Cl_slide σ a0 p1 = some o) (hA : A o) : Go V Γ M_X1_slide (Zm V Γ 1 fin) 0 [(0, .ref (V.2.2.1 + a0)), (1, .int p1)] [] σ := by
  unfold Cl_slide at h
  refine g_iconst (v := 0) (pc := 0) X rfl dX1_slide_0 ?_
  refine g_istore_n (pc := 1) X [(2, .int 0), (0, .ref (V.2.2.1 + a0)), (1, .int p1)] rfl (Nat.le_of_ble_eq_true rfl) rfl dX1_slide_1 ?_
  refine g_sub [1, 2, 0] rfl ?_
  obtain ⟨σ9, hi10, h⟩ := bd_e h
  refine tl_Cl_slide_L2 X k0 hi10 ?_
  cases h
  exact g_vret (pc := 39) X rfl (hr _ hA) dX1_slide_39
set_option maxRecDepth 100000 in
theorem run_Cl_slide {V : Ev} {σ : St} {a0 : Nat} {p1 : Int32} {o : St} (k0 : okCl a0)  (h : Cl_slide σ a0 p1 = some o) : Rs V 1 M_X1_slide [.ref (V.2.2.1 + a0), .int p1] σ (none, o) := by
  refine Rs.of (by decide +kernel) (Nat.le_of_ble_eq_true rfl) (fun Γ X => ?_)
  exact tm_Cl_slide X (A := fun o1 => o1 = o) k0 (fun _ e => by rw [e]) h rfl
theorem dX1_stretch_0 : decode cX1_stretch 0 = .ok (.iconst 0, 1) := by decide +kernel
theorem dX1_stretch_1 : decode cX1_stretch 1 = .ok (.istore_n 2, 1) := by decide +kernel
theorem dX1_stretch_2 : decode cX1_stretch 2 = .ok (.iload_n 2, 1) := by decide +kernel
theorem dX1_stretch_3 : decode cX1_stretch 3 = .ok (.aload_n 0, 1) := by decide +kernel
theorem dX1_stretch_4 : decode cX1_stretch 4 = .ok (.getfield 22, 3) := by decide +kernel
theorem dX1_stretch_7 : decode cX1_stretch 7 = .ok (.if_icmp .ge 29, 3) := by decide +kernel
theorem dX1_stretch_10 : decode cX1_stretch 10 = .ok (.aload_n 0, 1) := by decide +kernel
theorem dX1_stretch_11 : decode cX1_stretch 11 = .ok (.getfield 9, 3) := by decide +kernel
theorem dX1_stretch_14 : decode cX1_stretch 14 = .ok (.iload_n 2, 1) := by decide +kernel
theorem dX1_stretch_15 : decode cX1_stretch 15 = .ok (.dup2, 1) := by decide +kernel
theorem dX1_stretch_16 : decode cX1_stretch 16 = .ok (.iaload, 1) := by decide +kernel
theorem dX1_stretch_17 : decode cX1_stretch 17 = .ok (.iload_n 1, 1) := by decide +kernel
theorem dX1_stretch_18 : decode cX1_stretch 18 = .ok (.imul, 1) := by decide +kernel
theorem dX1_stretch_19 : decode cX1_stretch 19 = .ok (.iastore, 1) := by decide +kernel
theorem dX1_stretch_20 : decode cX1_stretch 20 = .ok (.aload_n 0, 1) := by decide +kernel
theorem dX1_stretch_21 : decode cX1_stretch 21 = .ok (.getfield 15, 3) := by decide +kernel
theorem dX1_stretch_24 : decode cX1_stretch 24 = .ok (.iload_n 2, 1) := by decide +kernel
theorem dX1_stretch_25 : decode cX1_stretch 25 = .ok (.dup2, 1) := by decide +kernel
theorem dX1_stretch_26 : decode cX1_stretch 26 = .ok (.iaload, 1) := by decide +kernel
theorem dX1_stretch_27 : decode cX1_stretch 27 = .ok (.iload_n 1, 1) := by decide +kernel
theorem dX1_stretch_28 : decode cX1_stretch 28 = .ok (.imul, 1) := by decide +kernel
theorem dX1_stretch_29 : decode cX1_stretch 29 = .ok (.iastore, 1) := by decide +kernel
theorem dX1_stretch_30 : decode cX1_stretch 30 = .ok (.iinc 2 1, 3) := by decide +kernel
theorem dX1_stretch_33 : decode cX1_stretch 33 = .ok (.goto (-31), 3) := by decide +kernel
theorem dX1_stretch_36 : decode cX1_stretch 36 = .ok (.return_, 1) := by decide +kernel
noncomputable def Cl_stretch_L2 (l0 : Nat) (l1 : Int32) (σ : St) (x2 : Int32) : Option ((Int32 × St) ⊕ St) :=
  if (σ.1 l0 3) ≤ x2 then (some (.inr σ)) else (chk (ix x2 12) (chk (ix x2 12) (bnd (wI σ (l0 + 1) (tn x2) ((σ.1 (l0 + 1) (tn x2)) * l1)) (fun σ3 => chk (ix x2 12) (chk (ix x2 12) (bnd (wI σ3 (l0 + 2) (tn x2) ((σ3.1 (l0 + 2) (tn x2)) * l1)) (fun σ6 => bnd (x2 + 1) (fun v7 => some (.inl (v7, σ6))))))))))
set_option maxRecDepth 100000 in
set_option maxHeartbeats 4000000 in
theorem tb_Cl_stretch_L2 {V : Ev} {Γ : Cn} {fin : Option Value × St} {l0 : Nat} {l1 : Int32} {σ : St} {x2 : Int32} {o : ((Int32 × St) ⊕ St)} (X : Cx V Γ M_X1_stretch) {A : ((Int32 × St) ⊕ St) → Prop} (k_l0 : okCl l0) (hb2 : ∀ (x2 : Int32) (σ9 : St), A (.inl (x2, σ9)) → Go V Γ M_X1_stretch (Zm V Γ 0 fin) 2 [(0, .ref (V.2.2.1 + l0)), (1, .int l1), (2, .int x2)] [] σ9) (hx2 : ∀ (σ9 : St), A (.inr σ9) → Go V Γ M_X1_stretch (Zm V Γ 0 fin) 36 [] [] σ9) (h : Cl_stretch_L2 l0 l1 σ x2 = some o) (hA : A o) : Go V Γ M_X1_stretch (Zm V Γ 0 fin) 2 [(0, .ref (V.2.2.1 + l0)), (1, .int l1), (2, .int x2)] [] σ := by
  unfold Cl_stretch_L2 at h
  refine g_iload_n (pc := 2) X 2 rfl dX1_stretch_2 ?_
  refine g_aload_n (pc := 3) X 0 rfl dX1_stretch_3 ?_
  refine g_getI (pc := 4) X k_fl_X1_22 (sCl_0 k_l0) rfl dX1_stretch_4 ?_
  refine g_icmp_ge (pc := 7) (tgt := 36) X dX1_stretch_7 rfl (fun c8 => ?_) (fun c8 => ?_)
  · replace h := if_t c8 h
    refine g_sub [] rfl ?_
    cases h
    exact hx2 _ hA
  · replace h := if_f c8 h
    refine g_aload_n (pc := 10) X 0 rfl dX1_stretch_10 ?_
    refine g_getR (r := (l0 + 1)) (pc := 11) X k_fl_X1_9 (sCl_0 k_l0) rfl dX1_stretch_11 ?_
    refine g_iload_n (pc := 14) X 2 rfl dX1_stretch_14 ?_
    refine g_dup2 (pc := 15) X rfl rfl dX1_stretch_15 ?_
    obtain ⟨c1, h⟩ := chk_e h
    refine g_iald (pc := 16) X (sCl_1 k_l0) c1 dX1_stretch_16 ?_
    refine g_iload_n (pc := 17) X 1 rfl dX1_stretch_17 ?_
    refine g_imul (pc := 18) X dX1_stretch_18 ?_
    obtain ⟨c2, h⟩ := chk_e h
    refine g_iast (pc := 19) X (sCl_1 k_l0) c2 dX1_stretch_19 ?_
    obtain ⟨σ3, e_σ3, h⟩ := bnd_e h
    refine g_nmS e_σ3 ?_
    refine g_aload_n (pc := 20) X 0 rfl dX1_stretch_20 ?_
    refine g_getR (r := (l0 + 2)) (pc := 21) X k_fl_X1_15 (sCl_0 k_l0) rfl dX1_stretch_21 ?_
    refine g_iload_n (pc := 24) X 2 rfl dX1_stretch_24 ?_
    refine g_dup2 (pc := 25) X rfl rfl dX1_stretch_25 ?_
    obtain ⟨c4, h⟩ := chk_e h
    refine g_iald (pc := 26) X (sCl_2 k_l0) c4 dX1_stretch_26 ?_
    refine g_iload_n (pc := 27) X 1 rfl dX1_stretch_27 ?_
    refine g_imul (pc := 28) X dX1_stretch_28 ?_
    obtain ⟨c5, h⟩ := chk_e h
    refine g_iast (pc := 29) X (sCl_2 k_l0) c5 dX1_stretch_29 ?_
    obtain ⟨σ6, e_σ6, h⟩ := bnd_e h
    refine g_nmS e_σ6 ?_
    obtain ⟨v7, e_v7, h⟩ := bnd_e h
    refine g_iinc (pc := 30) (v := v7) X [(2, .int v7), (0, .ref (V.2.2.1 + l0)), (1, .int l1)] 2 rfl (by rw [e_v7]; rfl) (Nat.le_of_ble_eq_true rfl) rfl dX1_stretch_30 ?_
    refine g_goto (pc := 33) (tgt := 2) X dX1_stretch_33 rfl ?_
    refine g_sub [1, 2, 0] rfl ?_
    cases h
    exact hb2 _ _ hA
set_option maxRecDepth 100000 in
theorem tl_Cl_stretch_L2 {V : Ev} {Γ : Cn} {fin : Option Value × St} {l0 : Nat} {l1 : Int32} {x2 : Int32} {σ9 : St} (X : Cx V Γ M_X1_stretch) (k_l0 : okCl l0) {σ8 : St} {n : Nat} (h : iter (fun s : (Int32 × St) => Cl_stretch_L2 l0 l1 s.2 s.1) n (x2, σ9) = some σ8) (hK : Go V Γ M_X1_stretch (Zm V Γ 0 fin) 36 [] [] σ8) : Go V Γ M_X1_stretch (Zm V Γ 0 fin) 2 [(0, .ref (V.2.2.1 + l0)), (1, .int l1), (2, .int x2)] [] σ9 := by
  refine iter_go (G := (fun s : (Int32 × St) => Go V Γ M_X1_stretch (Zm V Γ 0 fin) 2 [(0, .ref (V.2.2.1 + l0)), (1, .int l1), (2, .int s.1)] [] s.2)) (fun s o ho hS => ?_) n (x2, σ9) h
  exact tb_Cl_stretch_L2 X k_l0 (fun _ _ h9 => h9) (fun _ he => by cases he; exact hK) ho hS
noncomputable def Cl_stretch (σ : St) (a0 : Nat) (p1 : Int32) : Option St :=
  bd (iter (fun s : (Int32 × St) => Cl_stretch_L2 a0 p1 s.2 s.1) FUEL (0, σ)) (fun σ9 => some σ9)
set_option maxRecDepth 100000 in
set_option maxHeartbeats 4000000 in
theorem tm_Cl_stretch {V : Ev} {Γ : Cn} {fin : Option Value × St} {σ : St} {a0 : Nat} {p1 : Int32} {o : St} (X : Cx V Γ M_X1_stretch) {A : St → Prop} (k0 : okCl a0) (hr : ∀ (σ9 : St), A σ9 → (none, σ9) = fin) (h : Cl_stretch σ a0 p1 = some o) (hA : A o) : Go V Γ M_X1_stretch (Zm V Γ 0 fin) 0 [(0, .ref (V.2.2.1 + a0)), (1, .int p1)] [] σ := by
  unfold Cl_stretch at h
  refine g_iconst (v := 0) (pc := 0) X rfl dX1_stretch_0 ?_
  refine g_istore_n (pc := 1) X [(2, .int 0), (0, .ref (V.2.2.1 + a0)), (1, .int p1)] rfl (Nat.le_of_ble_eq_true rfl) rfl dX1_stretch_1 ?_
  refine g_sub [1, 2, 0] rfl ?_
  obtain ⟨σ9, hi10, h⟩ := bd_e h
  refine tl_Cl_stretch_L2 X k0 hi10 ?_
  cases h
  exact g_vret (pc := 36) X rfl (hr _ hA) dX1_stretch_36
set_option maxRecDepth 100000 in
theorem run_Cl_stretch {V : Ev} {σ : St} {a0 : Nat} {p1 : Int32} {o : St} (k0 : okCl a0)  (h : Cl_stretch σ a0 p1 = some o) : Rs V 0 M_X1_stretch [.ref (V.2.2.1 + a0), .int p1] σ (none, o) := by
  refine Rs.of (by decide +kernel) (Nat.le_of_ble_eq_true rfl) (fun Γ X => ?_)
  exact tm_Cl_stretch X (A := fun o1 => o1 = o) k0 (fun _ e => by rw [e]) h rfl
theorem dX1_partTrouble_0 : decode cX1_partTrouble 0 = .ok (.aload_n 0, 1) := by decide +kernel
theorem dX1_partTrouble_1 : decode cX1_partTrouble 1 = .ok (.getfield 22, 3) := by decide +kernel
theorem dX1_partTrouble_4 : decode cX1_partTrouble 4 = .ok (.iload_n 2, 1) := by decide +kernel
theorem dX1_partTrouble_5 : decode cX1_partTrouble 5 = .ok (.iadd, 1) := by decide +kernel
theorem dX1_partTrouble_6 : decode cX1_partTrouble 6 = .ok (.iconst 1, 1) := by decide +kernel
theorem dX1_partTrouble_7 : decode cX1_partTrouble 7 = .ok (.isub, 1) := by decide +kernel
theorem dX1_partTrouble_8 : decode cX1_partTrouble 8 = .ok (.bipush 12, 2) := by decide +kernel
theorem dX1_partTrouble_10 : decode cX1_partTrouble 10 = .ok (.if_icmp .le 5, 3) := by decide +kernel
theorem dX1_partTrouble_13 : decode cX1_partTrouble 13 = .ok (.iconst 4, 1) := by decide +kernel
theorem dX1_partTrouble_14 : decode cX1_partTrouble 14 = .ok (.ireturn, 1) := by decide +kernel
theorem dX1_partTrouble_15 : decode cX1_partTrouble 15 = .ok (.aload_n 0, 1) := by decide +kernel
theorem dX1_partTrouble_16 : decode cX1_partTrouble 16 = .ok (.getfield 15, 3) := by decide +kernel
theorem dX1_partTrouble_19 : decode cX1_partTrouble 19 = .ok (.iload_n 1, 1) := by decide +kernel
theorem dX1_partTrouble_20 : decode cX1_partTrouble 20 = .ok (.iaload, 1) := by decide +kernel
theorem dX1_partTrouble_21 : decode cX1_partTrouble 21 = .ok (.iload_n 2, 1) := by decide +kernel
theorem dX1_partTrouble_22 : decode cX1_partTrouble 22 = .ok (.imul, 1) := by decide +kernel
theorem dX1_partTrouble_23 : decode cX1_partTrouble 23 = .ok (.bipush 60, 2) := by decide +kernel
theorem dX1_partTrouble_25 : decode cX1_partTrouble 25 = .ok (.if_icmp .le 8, 3) := by decide +kernel
theorem dX1_partTrouble_28 : decode cX1_partTrouble 28 = .ok (.bipush 7, 2) := by decide +kernel
theorem dX1_partTrouble_30 : decode cX1_partTrouble 30 = .ok (.goto 4, 3) := by decide +kernel
theorem dX1_partTrouble_33 : decode cX1_partTrouble 33 = .ok (.iconst 0, 1) := by decide +kernel
theorem dX1_partTrouble_34 : decode cX1_partTrouble 34 = .ok (.ireturn, 1) := by decide +kernel
noncomputable def Cl_partTrouble (σ : St) (a0 : Nat) (p1 : Int32) (p2 : Int32) : Option Int32 :=
  if (((σ.1 a0 3) + p2) - 1) ≤ 12 then (chk (ix p1 12) (if ((σ.1 (a0 + 2) (tn p1)) * p2) ≤ 60 then (some 0) else (some 7))) else (some 4)
set_option maxRecDepth 100000 in
set_option maxHeartbeats 4000000 in
theorem tm_Cl_partTrouble {V : Ev} {Γ : Cn} {fin : Option Value × St} {σ : St} {a0 : Nat} {p1 : Int32} {p2 : Int32} {o : Int32} (X : Cx V Γ M_X1_partTrouble) {A : Int32 → Prop} (k0 : okCl a0) (hr : ∀ (r : Int32), A r → (some (.int r), σ) = fin) (h : Cl_partTrouble σ a0 p1 p2 = some o) (hA : A o) : Go V Γ M_X1_partTrouble (Zm V Γ 0 fin) 0 [(0, .ref (V.2.2.1 + a0)), (1, .int p1), (2, .int p2)] [] σ := by
  unfold Cl_partTrouble at h
  refine g_aload_n (pc := 0) X 0 rfl dX1_partTrouble_0 ?_
  refine g_getI (pc := 1) X k_fl_X1_22 (sCl_0 k0) rfl dX1_partTrouble_1 ?_
  refine g_iload_n (pc := 4) X 2 rfl dX1_partTrouble_4 ?_
  refine g_iadd (pc := 5) X dX1_partTrouble_5 ?_
  refine g_iconst (v := 1) (pc := 6) X rfl dX1_partTrouble_6 ?_
  refine g_isub (pc := 7) X dX1_partTrouble_7 ?_
  refine g_bipush (v := 12) (pc := 8) X (by decide) dX1_partTrouble_8 ?_
  refine g_icmp_le (pc := 10) (tgt := 15) X dX1_partTrouble_10 rfl (fun c3 => ?_) (fun c3 => ?_)
  · replace h := if_t c3 h
    refine g_aload_n (pc := 15) X 0 rfl dX1_partTrouble_15 ?_
    refine g_getR (r := (a0 + 2)) (pc := 16) X k_fl_X1_15 (sCl_0 k0) rfl dX1_partTrouble_16 ?_
    refine g_iload_n (pc := 19) X 1 rfl dX1_partTrouble_19 ?_
    obtain ⟨c1, h⟩ := chk_e h
    refine g_iald (pc := 20) X (sCl_2 k0) c1 dX1_partTrouble_20 ?_
    refine g_iload_n (pc := 21) X 2 rfl dX1_partTrouble_21 ?_
    refine g_imul (pc := 22) X dX1_partTrouble_22 ?_
    refine g_bipush (v := 60) (pc := 23) X (by decide) dX1_partTrouble_23 ?_
    refine g_icmp_le (pc := 25) (tgt := 33) X dX1_partTrouble_25 rfl (fun c2 => ?_) (fun c2 => ?_)
    · replace h := if_t c2 h
      refine g_iconst (v := 0) (pc := 33) X rfl dX1_partTrouble_33 ?_
      cases h
      exact g_iret (pc := 34) X rfl rfl (hr _ hA) dX1_partTrouble_34
    · replace h := if_f c2 h
      refine g_bipush (v := 7) (pc := 28) X (by decide) dX1_partTrouble_28 ?_
      refine g_goto (pc := 30) (tgt := 34) X dX1_partTrouble_30 rfl ?_
      cases h
      exact g_iret (pc := 34) X rfl rfl (hr _ hA) dX1_partTrouble_34
  · replace h := if_f c3 h
    refine g_iconst (v := 4) (pc := 13) X rfl dX1_partTrouble_13 ?_
    cases h
    exact g_iret (pc := 14) X rfl rfl (hr _ hA) dX1_partTrouble_14
set_option maxRecDepth 100000 in
theorem run_Cl_partTrouble {V : Ev} {σ : St} {a0 : Nat} {p1 : Int32} {p2 : Int32} {o : Int32} (k0 : okCl a0)  (h : Cl_partTrouble σ a0 p1 p2 = some o) : Rs V 0 M_X1_partTrouble [.ref (V.2.2.1 + a0), .int p1, .int p2] σ (some (.int o), σ) := by
  refine Rs.of (by decide +kernel) (Nat.le_of_ble_eq_true rfl) (fun Γ X => ?_)
  exact tm_Cl_partTrouble X (A := fun o1 => o1 = o) k0 (fun _ e => by rw [e]) h rfl
theorem dX1_part_0 : decode cX1_part 0 = .ok (.aload_n 0, 1) := by decide +kernel
theorem dX1_part_1 : decode cX1_part 1 = .ok (.getfield 15, 3) := by decide +kernel
theorem dX1_part_4 : decode cX1_part 4 = .ok (.iload_n 1, 1) := by decide +kernel
theorem dX1_part_5 : decode cX1_part 5 = .ok (.iaload, 1) := by decide +kernel
theorem dX1_part_6 : decode cX1_part 6 = .ok (.istore_n 3, 1) := by decide +kernel
theorem dX1_part_7 : decode cX1_part 7 = .ok (.aload_n 0, 1) := by decide +kernel
theorem dX1_part_8 : decode cX1_part 8 = .ok (.getfield 15, 3) := by decide +kernel
theorem dX1_part_11 : decode cX1_part 11 = .ok (.iload_n 1, 1) := by decide +kernel
theorem dX1_part_12 : decode cX1_part 12 = .ok (.iload_n 3, 1) := by decide +kernel
theorem dX1_part_13 : decode cX1_part 13 = .ok (.iload_n 2, 1) := by decide +kernel
theorem dX1_part_14 : decode cX1_part 14 = .ok (.imul, 1) := by decide +kernel
theorem dX1_part_15 : decode cX1_part 15 = .ok (.iastore, 1) := by decide +kernel
theorem dX1_part_16 : decode cX1_part 16 = .ok (.iconst 1, 1) := by decide +kernel
theorem dX1_part_17 : decode cX1_part 17 = .ok (.istore 4, 2) := by decide +kernel
theorem dX1_part_19 : decode cX1_part 19 = .ok (.iload 4, 2) := by decide +kernel
theorem dX1_part_21 : decode cX1_part 21 = .ok (.iload_n 2, 1) := by decide +kernel
theorem dX1_part_22 : decode cX1_part 22 = .ok (.if_icmp .ge 33, 3) := by decide +kernel
theorem dX1_part_25 : decode cX1_part 25 = .ok (.aload_n 0, 1) := by decide +kernel
theorem dX1_part_26 : decode cX1_part 26 = .ok (.aload_n 0, 1) := by decide +kernel
theorem dX1_part_27 : decode cX1_part 27 = .ok (.getfield 9, 3) := by decide +kernel
theorem dX1_part_30 : decode cX1_part 30 = .ok (.iload_n 1, 1) := by decide +kernel
theorem dX1_part_31 : decode cX1_part 31 = .ok (.iaload, 1) := by decide +kernel
theorem dX1_part_32 : decode cX1_part 32 = .ok (.iload 4, 2) := by decide +kernel
theorem dX1_part_34 : decode cX1_part 34 = .ok (.iload_n 3, 1) := by decide +kernel
theorem dX1_part_35 : decode cX1_part 35 = .ok (.imul, 1) := by decide +kernel
theorem dX1_part_36 : decode cX1_part 36 = .ok (.iadd, 1) := by decide +kernel
theorem dX1_part_37 : decode cX1_part 37 = .ok (.iload_n 3, 1) := by decide +kernel
theorem dX1_part_38 : decode cX1_part 38 = .ok (.iload_n 2, 1) := by decide +kernel
theorem dX1_part_39 : decode cX1_part 39 = .ok (.imul, 1) := by decide +kernel
theorem dX1_part_40 : decode cX1_part 40 = .ok (.aload_n 0, 1) := by decide +kernel
theorem dX1_part_41 : decode cX1_part 41 = .ok (.iload_n 1, 1) := by decide +kernel
theorem dX1_part_42 : decode cX1_part 42 = .ok (.invokevirtual 50, 3) := by decide +kernel
theorem dX1_part_45 : decode cX1_part 45 = .ok (.lconst 0, 1) := by decide +kernel
theorem dX1_part_46 : decode cX1_part 46 = .ok (.invokevirtual 53, 3) := by decide +kernel
theorem dX1_part_49 : decode cX1_part 49 = .ok (.iinc 4 1, 3) := by decide +kernel
theorem dX1_part_52 : decode cX1_part 52 = .ok (.goto (-33), 3) := by decide +kernel
theorem dX1_part_55 : decode cX1_part 55 = .ok (.return_, 1) := by decide +kernel
noncomputable def Cl_part_L19 (l0 : Nat) (l1 : Int32) (l2 : Int32) (l3 : Int32) (σ : St) (x4 : Int32) : Option ((Int32 × St) ⊕ St) :=
  if l2 ≤ x4 then (some (.inr σ)) else (chk (ix l1 12) (bd (Cl_isOn σ l0 l1) (fun r7 => bd (Cl_append σ l0 ((σ.1 (l0 + 1) (tn l1)) + (x4 * l3)) (l3 * l2) r7 0) (fun σ9 => bnd (x4 + 1) (fun v10 => some (.inl (v10, σ9)))))))
set_option maxRecDepth 100000 in
set_option maxHeartbeats 4000000 in
theorem tb_Cl_part_L19 {V : Ev} {Γ : Cn} {fin : Option Value × St} {l0 : Nat} {l1 : Int32} {l2 : Int32} {l3 : Int32} {σ : St} {x4 : Int32} {o : ((Int32 × St) ⊕ St)} (X : Cx V Γ M_X1_part) {A : ((Int32 × St) ⊕ St) → Prop} (k_l0 : okCl l0) (hb19 : ∀ (x4 : Int32) (σ9 : St), A (.inl (x4, σ9)) → Go V Γ M_X1_part (Zm V Γ 2 fin) 19 [(0, .ref (V.2.2.1 + l0)), (1, .int l1), (2, .int l2), (3, .int l3), (4, .int x4)] [] σ9) (hx19 : ∀ (σ9 : St), A (.inr σ9) → Go V Γ M_X1_part (Zm V Γ 2 fin) 55 [] [] σ9) (h : Cl_part_L19 l0 l1 l2 l3 σ x4 = some o) (hA : A o) : Go V Γ M_X1_part (Zm V Γ 2 fin) 19 [(0, .ref (V.2.2.1 + l0)), (1, .int l1), (2, .int l2), (3, .int l3), (4, .int x4)] [] σ := by
  unfold Cl_part_L19 at h
  refine g_iload (pc := 19) X 4 rfl dX1_part_19 ?_
  refine g_iload_n (pc := 21) X 2 rfl dX1_part_21 ?_
  refine g_icmp_ge (pc := 22) (tgt := 55) X dX1_part_22 rfl (fun c11 => ?_) (fun c11 => ?_)
  · replace h := if_t c11 h
    refine g_sub [] rfl ?_
    cases h
    exact hx19 _ hA
  · replace h := if_f c11 h
    refine g_aload_n (pc := 25) X 0 rfl dX1_part_25 ?_
    refine g_aload_n (pc := 26) X 0 rfl dX1_part_26 ?_
    refine g_getR (r := (l0 + 1)) (pc := 27) X k_fl_X1_9 (sCl_0 k_l0) rfl dX1_part_27 ?_
    refine g_iload_n (pc := 30) X 1 rfl dX1_part_30 ?_
    obtain ⟨c5, h⟩ := chk_e h
    refine g_iald (pc := 31) X (sCl_1 k_l0) c5 dX1_part_31 ?_
    refine g_iload (pc := 32) X 4 rfl dX1_part_32 ?_
    refine g_iload_n (pc := 34) X 3 rfl dX1_part_34 ?_
    refine g_imul (pc := 35) X dX1_part_35 ?_
    refine g_iadd (pc := 36) X dX1_part_36 ?_
    refine g_iload_n (pc := 37) X 3 rfl dX1_part_37 ?_
    refine g_iload_n (pc := 38) X 2 rfl dX1_part_38 ?_
    refine g_imul (pc := 39) X dX1_part_39 ?_
    refine g_aload_n (pc := 40) X 0 rfl dX1_part_40 ?_
    refine g_iload_n (pc := 41) X 1 rfl dX1_part_41 ?_
    obtain ⟨r7, hc6, h⟩ := bd_e h
    refine g_callV (pc := 42) X k_ml_X1_50 (run_Cl_isOn k_l0 hc6) (sCl_0 k_l0) rfl (room_ok (Nat.le_of_ble_eq_true rfl) (Nat.le_of_ble_eq_true rfl)) ⟨Nat.le_refl _, Nat.le_refl _⟩ _ rfl (Nat.le_of_ble_eq_true rfl) dX1_part_42 ?_
    show Go V Γ M_X1_part (Zm V Γ 2 fin) 45 [(0, .ref (V.2.2.1 + l0)), (1, .int l1), (2, .int l2), (3, .int l3), (4, .int x4)] [.int r7, .int (l3 * l2), .int ((σ.1 (l0 + 1) (tn l1)) + (x4 * l3)), .ref (V.2.2.1 + l0)] σ
    refine g_lconst (v := 0) (pc := 45) X rfl dX1_part_45 ?_
    obtain ⟨σ9, hc8, h⟩ := bd_e h
    refine g_callV (pc := 46) X k_ml_X1_53 (run_Cl_append k_l0 hc8) (sCl_0 k_l0) rfl (room_ok (Nat.le_of_ble_eq_true rfl) (Nat.le_of_ble_eq_true rfl)) ⟨Nat.le_refl _, Nat.le_refl _⟩ _ rfl (Nat.le_of_ble_eq_true rfl) dX1_part_46 ?_
    show Go V Γ M_X1_part (Zm V Γ 2 fin) 49 [(0, .ref (V.2.2.1 + l0)), (1, .int l1), (2, .int l2), (3, .int l3), (4, .int x4)] [] σ9
    obtain ⟨v10, e_v10, h⟩ := bnd_e h
    refine g_iinc (pc := 49) (v := v10) X [(4, .int v10), (0, .ref (V.2.2.1 + l0)), (1, .int l1), (2, .int l2), (3, .int l3)] 4 rfl (by rw [e_v10]; rfl) (Nat.le_of_ble_eq_true rfl) rfl dX1_part_49 ?_
    refine g_goto (pc := 52) (tgt := 19) X dX1_part_52 rfl ?_
    refine g_sub [1, 2, 3, 4, 0] rfl ?_
    cases h
    exact hb19 _ _ hA
set_option maxRecDepth 100000 in
theorem tl_Cl_part_L19 {V : Ev} {Γ : Cn} {fin : Option Value × St} {l0 : Nat} {l1 : Int32} {l2 : Int32} {l3 : Int32} {x4 : Int32} {σ9 : St} (X : Cx V Γ M_X1_part) (k_l0 : okCl l0) {σ8 : St} {n : Nat} (h : iter (fun s : (Int32 × St) => Cl_part_L19 l0 l1 l2 l3 s.2 s.1) n (x4, σ9) = some σ8) (hK : Go V Γ M_X1_part (Zm V Γ 2 fin) 55 [] [] σ8) : Go V Γ M_X1_part (Zm V Γ 2 fin) 19 [(0, .ref (V.2.2.1 + l0)), (1, .int l1), (2, .int l2), (3, .int l3), (4, .int x4)] [] σ9 := by
  refine iter_go (G := (fun s : (Int32 × St) => Go V Γ M_X1_part (Zm V Γ 2 fin) 19 [(0, .ref (V.2.2.1 + l0)), (1, .int l1), (2, .int l2), (3, .int l3), (4, .int s.1)] [] s.2)) (fun s o ho hS => ?_) n (x4, σ9) h
  exact tb_Cl_part_L19 X k_l0 (fun _ _ h9 => h9) (fun _ he => by cases he; exact hK) ho hS
noncomputable def Cl_part (σ : St) (a0 : Nat) (p1 : Int32) (p2 : Int32) : Option St :=
  chk (ix p1 12) (bnd ((σ.1 (a0 + 2) (tn p1))) (fun v2 => chk (ix p1 12) (bnd (wI σ (a0 + 2) (tn p1) (v2 * p2)) (fun σ4 => bd (iter (fun s : (Int32 × St) => Cl_part_L19 a0 p1 p2 v2 s.2 s.1) FUEL (1, σ4)) (fun σ12 => some σ12)))))
set_option maxRecDepth 100000 in
set_option maxHeartbeats 4000000 in
theorem tm_Cl_part {V : Ev} {Γ : Cn} {fin : Option Value × St} {σ : St} {a0 : Nat} {p1 : Int32} {p2 : Int32} {o : St} (X : Cx V Γ M_X1_part) {A : St → Prop} (k0 : okCl a0) (hr : ∀ (σ9 : St), A σ9 → (none, σ9) = fin) (h : Cl_part σ a0 p1 p2 = some o) (hA : A o) : Go V Γ M_X1_part (Zm V Γ 2 fin) 0 [(0, .ref (V.2.2.1 + a0)), (1, .int p1), (2, .int p2)] [] σ := by
  unfold Cl_part at h
  refine g_aload_n (pc := 0) X 0 rfl dX1_part_0 ?_
  refine g_getR (r := (a0 + 2)) (pc := 1) X k_fl_X1_15 (sCl_0 k0) rfl dX1_part_1 ?_
  refine g_iload_n (pc := 4) X 1 rfl dX1_part_4 ?_
  obtain ⟨c1, h⟩ := chk_e h
  refine g_iald (pc := 5) X (sCl_2 k0) c1 dX1_part_5 ?_
  obtain ⟨v2, e_v2, h⟩ := bnd_e h
  refine g_nmI e_v2 ?_
  refine g_istore_n (pc := 6) X [(3, .int v2), (0, .ref (V.2.2.1 + a0)), (1, .int p1), (2, .int p2)] rfl (Nat.le_of_ble_eq_true rfl) rfl dX1_part_6 ?_
  refine g_aload_n (pc := 7) X 1 rfl dX1_part_7 ?_
  refine g_getR (r := (a0 + 2)) (pc := 8) X k_fl_X1_15 (sCl_0 k0) rfl dX1_part_8 ?_
  refine g_iload_n (pc := 11) X 2 rfl dX1_part_11 ?_
  refine g_iload_n (pc := 12) X 0 rfl dX1_part_12 ?_
  refine g_iload_n (pc := 13) X 3 rfl dX1_part_13 ?_
  refine g_imul (pc := 14) X dX1_part_14 ?_
  obtain ⟨c3, h⟩ := chk_e h
  refine g_iast (pc := 15) X (sCl_2 k0) c3 dX1_part_15 ?_
  obtain ⟨σ4, e_σ4, h⟩ := bnd_e h
  refine g_nmS e_σ4 ?_
  refine g_iconst (v := 1) (pc := 16) X rfl dX1_part_16 ?_
  refine g_istore (pc := 17) X [(4, .int 1), (3, .int v2), (0, .ref (V.2.2.1 + a0)), (1, .int p1), (2, .int p2)] (Nat.le_of_ble_eq_true rfl) rfl dX1_part_17 ?_
  refine g_sub [2, 3, 4, 1, 0] rfl ?_
  obtain ⟨σ12, hi13, h⟩ := bd_e h
  refine tl_Cl_part_L19 X k0 hi13 ?_
  cases h
  exact g_vret (pc := 55) X rfl (hr _ hA) dX1_part_55
set_option maxRecDepth 100000 in
theorem run_Cl_part {V : Ev} {σ : St} {a0 : Nat} {p1 : Int32} {p2 : Int32} {o : St} (k0 : okCl a0)  (h : Cl_part σ a0 p1 p2 = some o) : Rs V 2 M_X1_part [.ref (V.2.2.1 + a0), .int p1, .int p2] σ (none, o) := by
  refine Rs.of (by decide +kernel) (Nat.le_of_ble_eq_true rfl) (fun Γ X => ?_)
  exact tm_Cl_part X (A := fun o1 => o1 = o) k0 (fun _ e => by rw [e]) h rfl
theorem dX1_firstLike_0 : decode cX1_firstLike 0 = .ok (.iconst 0, 1) := by decide +kernel
theorem dX1_firstLike_1 : decode cX1_firstLike 1 = .ok (.istore_n 3, 1) := by decide +kernel
theorem dX1_firstLike_2 : decode cX1_firstLike 2 = .ok (.iload_n 3, 1) := by decide +kernel
theorem dX1_firstLike_3 : decode cX1_firstLike 3 = .ok (.aload_n 0, 1) := by decide +kernel
theorem dX1_firstLike_4 : decode cX1_firstLike 4 = .ok (.getfield 22, 3) := by decide +kernel
theorem dX1_firstLike_7 : decode cX1_firstLike 7 = .ok (.if_icmp .ge 49, 3) := by decide +kernel
theorem dX1_firstLike_10 : decode cX1_firstLike 10 = .ok (.aload_n 0, 1) := by decide +kernel
theorem dX1_firstLike_11 : decode cX1_firstLike 11 = .ok (.getfield 15, 3) := by decide +kernel
theorem dX1_firstLike_14 : decode cX1_firstLike 14 = .ok (.iload_n 3, 1) := by decide +kernel
theorem dX1_firstLike_15 : decode cX1_firstLike 15 = .ok (.iaload, 1) := by decide +kernel
theorem dX1_firstLike_16 : decode cX1_firstLike 16 = .ok (.aload_n 0, 1) := by decide +kernel
theorem dX1_firstLike_17 : decode cX1_firstLike 17 = .ok (.getfield 15, 3) := by decide +kernel
theorem dX1_firstLike_20 : decode cX1_firstLike 20 = .ok (.iload_n 1, 1) := by decide +kernel
theorem dX1_firstLike_21 : decode cX1_firstLike 21 = .ok (.iaload, 1) := by decide +kernel
theorem dX1_firstLike_22 : decode cX1_firstLike 22 = .ok (.if_icmp .ne 28, 3) := by decide +kernel
theorem dX1_firstLike_25 : decode cX1_firstLike 25 = .ok (.aload_n 0, 1) := by decide +kernel
theorem dX1_firstLike_26 : decode cX1_firstLike 26 = .ok (.getfield 9, 3) := by decide +kernel
theorem dX1_firstLike_29 : decode cX1_firstLike 29 = .ok (.iload_n 3, 1) := by decide +kernel
theorem dX1_firstLike_30 : decode cX1_firstLike 30 = .ok (.iaload, 1) := by decide +kernel
theorem dX1_firstLike_31 : decode cX1_firstLike 31 = .ok (.iload_n 2, 1) := by decide +kernel
theorem dX1_firstLike_32 : decode cX1_firstLike 32 = .ok (.if_icmp .ne 18, 3) := by decide +kernel
theorem dX1_firstLike_35 : decode cX1_firstLike 35 = .ok (.aload_n 0, 1) := by decide +kernel
theorem dX1_firstLike_36 : decode cX1_firstLike 36 = .ok (.iload_n 3, 1) := by decide +kernel
theorem dX1_firstLike_37 : decode cX1_firstLike 37 = .ok (.invokevirtual 50, 3) := by decide +kernel
theorem dX1_firstLike_40 : decode cX1_firstLike 40 = .ok (.aload_n 0, 1) := by decide +kernel
theorem dX1_firstLike_41 : decode cX1_firstLike 41 = .ok (.iload_n 1, 1) := by decide +kernel
theorem dX1_firstLike_42 : decode cX1_firstLike 42 = .ok (.invokevirtual 50, 3) := by decide +kernel
theorem dX1_firstLike_45 : decode cX1_firstLike 45 = .ok (.if_icmp .ne 5, 3) := by decide +kernel
theorem dX1_firstLike_48 : decode cX1_firstLike 48 = .ok (.iload_n 3, 1) := by decide +kernel
theorem dX1_firstLike_49 : decode cX1_firstLike 49 = .ok (.ireturn, 1) := by decide +kernel
theorem dX1_firstLike_50 : decode cX1_firstLike 50 = .ok (.iinc 3 1, 3) := by decide +kernel
theorem dX1_firstLike_53 : decode cX1_firstLike 53 = .ok (.goto (-51), 3) := by decide +kernel
theorem dX1_firstLike_56 : decode cX1_firstLike 56 = .ok (.iconst (-1), 1) := by decide +kernel
theorem dX1_firstLike_57 : decode cX1_firstLike 57 = .ok (.ireturn, 1) := by decide +kernel
noncomputable def Cl_firstLike_L2 (l0 : Nat) (l1 : Int32) (l2 : Int32) (σ : St) (x3 : Int32) : Option (Int32 ⊕ Int32) :=
  if (σ.1 l0 3) ≤ x3 then (some (.inr (-1))) else (chk (ix x3 12) (chk (ix l1 12) (if (σ.1 (l0 + 2) (tn x3)) = (σ.1 (l0 + 2) (tn l1)) then (chk (ix x3 12) (if (σ.1 (l0 + 1) (tn x3)) = l2 then (bd (Cl_isOn σ l0 x3) (fun r7 => bd (Cl_isOn σ l0 l1) (fun r9 => if r7 = r9 then (some (.inr x3)) else (bnd (x3 + 1) (fun v10 => some (.inl v10)))))) else (bnd (x3 + 1) (fun v5 => some (.inl v5))))) else (bnd (x3 + 1) (fun v3 => some (.inl v3))))))
set_option maxRecDepth 100000 in
set_option maxHeartbeats 4000000 in
theorem tb_Cl_firstLike_L2 {V : Ev} {Γ : Cn} {fin : Option Value × St} {l0 : Nat} {l1 : Int32} {l2 : Int32} {σ : St} {x3 : Int32} {o : (Int32 ⊕ Int32)} (X : Cx V Γ M_X1_firstLike) {A : (Int32 ⊕ Int32) → Prop} (k_l0 : okCl l0) (hr : ∀ (r : Int32), A (.inr r) → (some (.int r), σ) = fin) (hb2 : ∀ (x3 : Int32), A (.inl x3) → Go V Γ M_X1_firstLike (Zm V Γ 2 fin) 2 [(0, .ref (V.2.2.1 + l0)), (1, .int l1), (2, .int l2), (3, .int x3)] [] σ) (h : Cl_firstLike_L2 l0 l1 l2 σ x3 = some o) (hA : A o) : Go V Γ M_X1_firstLike (Zm V Γ 2 fin) 2 [(0, .ref (V.2.2.1 + l0)), (1, .int l1), (2, .int l2), (3, .int x3)] [] σ := by
  unfold Cl_firstLike_L2 at h
  refine g_iload_n (pc := 2) X 3 rfl dX1_firstLike_2 ?_
  refine g_aload_n (pc := 3) X 0 rfl dX1_firstLike_3 ?_
  refine g_getI (pc := 4) X k_fl_X1_22 (sCl_0 k_l0) rfl dX1_firstLike_4 ?_
  refine g_icmp_ge (pc := 7) (tgt := 56) X dX1_firstLike_7 rfl (fun c14 => ?_) (fun c14 => ?_)
  · replace h := if_t c14 h
    refine g_iconst (v := (-1)) (pc := 56) X rfl dX1_firstLike_56 ?_
    cases h
    exact g_iret (pc := 57) X rfl rfl (hr _ hA) dX1_firstLike_57
  · replace h := if_f c14 h
    refine g_aload_n (pc := 10) X 0 rfl dX1_firstLike_10 ?_
    refine g_getR (r := (l0 + 2)) (pc := 11) X k_fl_X1_15 (sCl_0 k_l0) rfl dX1_firstLike_11 ?_
    refine g_iload_n (pc := 14) X 3 rfl dX1_firstLike_14 ?_
    obtain ⟨c1, h⟩ := chk_e h
    refine g_iald (pc := 15) X (sCl_2 k_l0) c1 dX1_firstLike_15 ?_
    refine g_aload_n (pc := 16) X 0 rfl dX1_firstLike_16 ?_
    refine g_getR (r := (l0 + 2)) (pc := 17) X k_fl_X1_15 (sCl_0 k_l0) rfl dX1_firstLike_17 ?_
    refine g_iload_n (pc := 20) X 1 rfl dX1_firstLike_20 ?_
    obtain ⟨c2, h⟩ := chk_e h
    refine g_iald (pc := 21) X (sCl_2 k_l0) c2 dX1_firstLike_21 ?_
    refine g_icmp_ne (pc := 22) (tgt := 50) X dX1_firstLike_22 rfl (fun c13 => ?_) (fun c13 => ?_)
    · replace h := if_f c13 h
      obtain ⟨v3, e_v3, h⟩ := bnd_e h
      refine g_iinc (pc := 50) (v := v3) X [(3, .int v3), (0, .ref (V.2.2.1 + l0)), (1, .int l1), (2, .int l2)] 3 rfl (by rw [e_v3]; rfl) (Nat.le_of_ble_eq_true rfl) rfl dX1_firstLike_50 ?_
      refine g_goto (pc := 53) (tgt := 2) X dX1_firstLike_53 rfl ?_
      refine g_sub [1, 2, 3, 0] rfl ?_
      cases h
      exact hb2 _ hA
    · replace h := if_t c13 h
      refine g_aload_n (pc := 25) X 0 rfl dX1_firstLike_25 ?_
      refine g_getR (r := (l0 + 1)) (pc := 26) X k_fl_X1_9 (sCl_0 k_l0) rfl dX1_firstLike_26 ?_
      refine g_iload_n (pc := 29) X 3 rfl dX1_firstLike_29 ?_
      obtain ⟨c4, h⟩ := chk_e h
      refine g_iald (pc := 30) X (sCl_1 k_l0) c4 dX1_firstLike_30 ?_
      refine g_iload_n (pc := 31) X 2 rfl dX1_firstLike_31 ?_
      refine g_icmp_ne (pc := 32) (tgt := 50) X dX1_firstLike_32 rfl (fun c12 => ?_) (fun c12 => ?_)
      · replace h := if_f c12 h
        obtain ⟨v5, e_v5, h⟩ := bnd_e h
        refine g_iinc (pc := 50) (v := v5) X [(3, .int v5), (0, .ref (V.2.2.1 + l0)), (1, .int l1), (2, .int l2)] 3 rfl (by rw [e_v5]; rfl) (Nat.le_of_ble_eq_true rfl) rfl dX1_firstLike_50 ?_
        refine g_goto (pc := 53) (tgt := 2) X dX1_firstLike_53 rfl ?_
        refine g_sub [1, 2, 3, 0] rfl ?_
        cases h
        exact hb2 _ hA
      · replace h := if_t c12 h
        refine g_aload_n (pc := 35) X 0 rfl dX1_firstLike_35 ?_
        refine g_iload_n (pc := 36) X 3 rfl dX1_firstLike_36 ?_
        obtain ⟨r7, hc6, h⟩ := bd_e h
        refine g_callV (pc := 37) X k_ml_X1_50 (run_Cl_isOn k_l0 hc6) (sCl_0 k_l0) rfl (room_ok (Nat.le_of_ble_eq_true rfl) (Nat.le_of_ble_eq_true rfl)) ⟨Nat.le_refl _, Nat.le_refl _⟩ _ rfl (Nat.le_of_ble_eq_true rfl) dX1_firstLike_37 ?_
        show Go V Γ M_X1_firstLike (Zm V Γ 2 fin) 40 [(0, .ref (V.2.2.1 + l0)), (1, .int l1), (2, .int l2), (3, .int x3)] [.int r7] σ
        refine g_aload_n (pc := 40) X 0 rfl dX1_firstLike_40 ?_
        refine g_iload_n (pc := 41) X 1 rfl dX1_firstLike_41 ?_
        obtain ⟨r9, hc8, h⟩ := bd_e h
        refine g_callV (pc := 42) X k_ml_X1_50 (run_Cl_isOn k_l0 hc8) (sCl_0 k_l0) rfl (room_ok (Nat.le_of_ble_eq_true rfl) (Nat.le_of_ble_eq_true rfl)) ⟨Nat.le_refl _, Nat.le_refl _⟩ _ rfl (Nat.le_of_ble_eq_true rfl) dX1_firstLike_42 ?_
        show Go V Γ M_X1_firstLike (Zm V Γ 2 fin) 45 [(0, .ref (V.2.2.1 + l0)), (1, .int l1), (2, .int l2), (3, .int x3)] [.int r9, .int r7] σ
        refine g_icmp_ne (pc := 45) (tgt := 50) X dX1_firstLike_45 rfl (fun c11 => ?_) (fun c11 => ?_)
        · replace h := if_f c11 h
          obtain ⟨v10, e_v10, h⟩ := bnd_e h
          refine g_iinc (pc := 50) (v := v10) X [(3, .int v10), (0, .ref (V.2.2.1 + l0)), (1, .int l1), (2, .int l2)] 3 rfl (by rw [e_v10]; rfl) (Nat.le_of_ble_eq_true rfl) rfl dX1_firstLike_50 ?_
          refine g_goto (pc := 53) (tgt := 2) X dX1_firstLike_53 rfl ?_
          refine g_sub [1, 2, 3, 0] rfl ?_
          cases h
          exact hb2 _ hA
        · replace h := if_t c11 h
          refine g_iload_n (pc := 48) X 3 rfl dX1_firstLike_48 ?_
          cases h
          exact g_iret (pc := 49) X rfl rfl (hr _ hA) dX1_firstLike_49
set_option maxRecDepth 100000 in
theorem tl_Cl_firstLike_L2 {V : Ev} {Γ : Cn} {fin : Option Value × St} {l0 : Nat} {l1 : Int32} {l2 : Int32} {σ : St} {x3 : Int32} (X : Cx V Γ M_X1_firstLike) (k_l0 : okCl l0) {e : Int32} {A : Int32 → Prop} (hr : ∀ (r : Int32), A r → (some (.int r), σ) = fin) {n : Nat} (h : iter (fun s : Int32 => Cl_firstLike_L2 l0 l1 l2 σ s) n x3 = some e) (hA : A e) : Go V Γ M_X1_firstLike (Zm V Γ 2 fin) 2 [(0, .ref (V.2.2.1 + l0)), (1, .int l1), (2, .int l2), (3, .int x3)] [] σ := by
  refine iter_go (G := (fun s : Int32 => Go V Γ M_X1_firstLike (Zm V Γ 2 fin) 2 [(0, .ref (V.2.2.1 + l0)), (1, .int l1), (2, .int l2), (3, .int s)] [] σ)) (fun s o ho hS => ?_) n x3 h
  exact tb_Cl_firstLike_L2 X k_l0 (fun z0 he => hr z0 (by rw [he]; exact hA)) (fun _ h9 => h9) ho hS
noncomputable def Cl_firstLike (σ : St) (a0 : Nat) (p1 : Int32) (p2 : Int32) : Option Int32 :=
  iter (fun s : Int32 => Cl_firstLike_L2 a0 p1 p2 σ s) FUEL 0
set_option maxRecDepth 100000 in
set_option maxHeartbeats 4000000 in
theorem tm_Cl_firstLike {V : Ev} {Γ : Cn} {fin : Option Value × St} {σ : St} {a0 : Nat} {p1 : Int32} {p2 : Int32} {o : Int32} (X : Cx V Γ M_X1_firstLike) {A : Int32 → Prop} (k0 : okCl a0) (hr : ∀ (r : Int32), A r → (some (.int r), σ) = fin) (h : Cl_firstLike σ a0 p1 p2 = some o) (hA : A o) : Go V Γ M_X1_firstLike (Zm V Γ 2 fin) 0 [(0, .ref (V.2.2.1 + a0)), (1, .int p1), (2, .int p2)] [] σ := by
  unfold Cl_firstLike at h
  refine g_iconst (v := 0) (pc := 0) X rfl dX1_firstLike_0 ?_
  refine g_istore_n (pc := 1) X [(3, .int 0), (0, .ref (V.2.2.1 + a0)), (1, .int p1), (2, .int p2)] rfl (Nat.le_of_ble_eq_true rfl) rfl dX1_firstLike_1 ?_
  refine g_sub [1, 2, 3, 0] rfl ?_
  exact tl_Cl_firstLike_L2 X k0 hr h hA
set_option maxRecDepth 100000 in
theorem run_Cl_firstLike {V : Ev} {σ : St} {a0 : Nat} {p1 : Int32} {p2 : Int32} {o : Int32} (k0 : okCl a0)  (h : Cl_firstLike σ a0 p1 p2 = some o) : Rs V 2 M_X1_firstLike [.ref (V.2.2.1 + a0), .int p1, .int p2] σ (some (.int o), σ) := by
  refine Rs.of (by decide +kernel) (Nat.le_of_ble_eq_true rfl) (fun Γ X => ?_)
  exact tm_Cl_firstLike X (A := fun o1 => o1 = o) k0 (fun _ e => by rw [e]) h rfl
theorem dX1_partsWith_0 : decode cX1_partsWith 0 = .ok (.aload_n 0, 1) := by decide +kernel
theorem dX1_partsWith_1 : decode cX1_partsWith 1 = .ok (.getfield 15, 3) := by decide +kernel
theorem dX1_partsWith_4 : decode cX1_partsWith 4 = .ok (.iload_n 1, 1) := by decide +kernel
theorem dX1_partsWith_5 : decode cX1_partsWith 5 = .ok (.iaload, 1) := by decide +kernel
theorem dX1_partsWith_6 : decode cX1_partsWith 6 = .ok (.iload_n 2, 1) := by decide +kernel
theorem dX1_partsWith_7 : decode cX1_partsWith 7 = .ok (.invokestatic 57, 3) := by decide +kernel
theorem dX1_partsWith_10 : decode cX1_partsWith 10 = .ok (.istore_n 3, 1) := by decide +kernel
theorem dX1_partsWith_11 : decode cX1_partsWith 11 = .ok (.iconst 1, 1) := by decide +kernel
theorem dX1_partsWith_12 : decode cX1_partsWith 12 = .ok (.iload_n 1, 1) := by decide +kernel
theorem dX1_partsWith_13 : decode cX1_partsWith 13 = .ok (.ishl, 1) := by decide +kernel
theorem dX1_partsWith_14 : decode cX1_partsWith 14 = .ok (.istore 4, 2) := by decide +kernel
theorem dX1_partsWith_16 : decode cX1_partsWith 16 = .ok (.iconst 0, 1) := by decide +kernel
theorem dX1_partsWith_17 : decode cX1_partsWith 17 = .ok (.istore 5, 2) := by decide +kernel
theorem dX1_partsWith_19 : decode cX1_partsWith 19 = .ok (.iload 5, 2) := by decide +kernel
theorem dX1_partsWith_21 : decode cX1_partsWith 21 = .ok (.iload_n 2, 1) := by decide +kernel
theorem dX1_partsWith_22 : decode cX1_partsWith 22 = .ok (.if_icmp .ge 63, 3) := by decide +kernel
theorem dX1_partsWith_25 : decode cX1_partsWith 25 = .ok (.aload_n 0, 1) := by decide +kernel
theorem dX1_partsWith_26 : decode cX1_partsWith 26 = .ok (.getfield 9, 3) := by decide +kernel
theorem dX1_partsWith_29 : decode cX1_partsWith 29 = .ok (.iload_n 1, 1) := by decide +kernel
theorem dX1_partsWith_30 : decode cX1_partsWith 30 = .ok (.iaload, 1) := by decide +kernel
theorem dX1_partsWith_31 : decode cX1_partsWith 31 = .ok (.iload_n 3, 1) := by decide +kernel
theorem dX1_partsWith_32 : decode cX1_partsWith 32 = .ok (.invokestatic 42, 3) := by decide +kernel
theorem dX1_partsWith_35 : decode cX1_partsWith 35 = .ok (.iload 5, 2) := by decide +kernel
theorem dX1_partsWith_37 : decode cX1_partsWith 37 = .ok (.iload_n 3, 1) := by decide +kernel
theorem dX1_partsWith_38 : decode cX1_partsWith 38 = .ok (.imul, 1) := by decide +kernel
theorem dX1_partsWith_39 : decode cX1_partsWith 39 = .ok (.iadd, 1) := by decide +kernel
theorem dX1_partsWith_40 : decode cX1_partsWith 40 = .ok (.istore 6, 2) := by decide +kernel
theorem dX1_partsWith_42 : decode cX1_partsWith 42 = .ok (.iload 6, 2) := by decide +kernel
theorem dX1_partsWith_44 : decode cX1_partsWith 44 = .ok (.aload_n 0, 1) := by decide +kernel
theorem dX1_partsWith_45 : decode cX1_partsWith 45 = .ok (.getfield 9, 3) := by decide +kernel
theorem dX1_partsWith_48 : decode cX1_partsWith 48 = .ok (.iload_n 1, 1) := by decide +kernel
theorem dX1_partsWith_49 : decode cX1_partsWith 49 = .ok (.iaload, 1) := by decide +kernel
theorem dX1_partsWith_50 : decode cX1_partsWith 50 = .ok (.if_icmp .eq 29, 3) := by decide +kernel
theorem dX1_partsWith_53 : decode cX1_partsWith 53 = .ok (.aload_n 0, 1) := by decide +kernel
theorem dX1_partsWith_54 : decode cX1_partsWith 54 = .ok (.iload_n 1, 1) := by decide +kernel
theorem dX1_partsWith_55 : decode cX1_partsWith 55 = .ok (.iload 6, 2) := by decide +kernel
theorem dX1_partsWith_57 : decode cX1_partsWith 57 = .ok (.invokevirtual 60, 3) := by decide +kernel
theorem dX1_partsWith_60 : decode cX1_partsWith 60 = .ok (.istore 7, 2) := by decide +kernel
theorem dX1_partsWith_62 : decode cX1_partsWith 62 = .ok (.iload 7, 2) := by decide +kernel
theorem dX1_partsWith_64 : decode cX1_partsWith 64 = .ok (.iconst (-1), 1) := by decide +kernel
theorem dX1_partsWith_65 : decode cX1_partsWith 65 = .ok (.if_icmp .ne 5, 3) := by decide +kernel
theorem dX1_partsWith_68 : decode cX1_partsWith 68 = .ok (.iconst 0, 1) := by decide +kernel
theorem dX1_partsWith_69 : decode cX1_partsWith 69 = .ok (.ireturn, 1) := by decide +kernel
theorem dX1_partsWith_70 : decode cX1_partsWith 70 = .ok (.iload 4, 2) := by decide +kernel
theorem dX1_partsWith_72 : decode cX1_partsWith 72 = .ok (.iconst 1, 1) := by decide +kernel
theorem dX1_partsWith_73 : decode cX1_partsWith 73 = .ok (.iload 7, 2) := by decide +kernel
theorem dX1_partsWith_75 : decode cX1_partsWith 75 = .ok (.ishl, 1) := by decide +kernel
theorem dX1_partsWith_76 : decode cX1_partsWith 76 = .ok (.ior, 1) := by decide +kernel
theorem dX1_partsWith_77 : decode cX1_partsWith 77 = .ok (.istore 4, 2) := by decide +kernel
theorem dX1_partsWith_79 : decode cX1_partsWith 79 = .ok (.iinc 5 1, 3) := by decide +kernel
theorem dX1_partsWith_82 : decode cX1_partsWith 82 = .ok (.goto (-63), 3) := by decide +kernel
theorem dX1_partsWith_85 : decode cX1_partsWith 85 = .ok (.iload 4, 2) := by decide +kernel
theorem dX1_partsWith_87 : decode cX1_partsWith 87 = .ok (.ireturn, 1) := by decide +kernel
noncomputable def Cl_partsWith_L19 (l0 : Nat) (l1 : Int32) (l2 : Int32) (l3 : Int32) (σ : St) (x4 : Int32) (x5 : Int32) : Option ((Int32 × Int32) ⊕ Int32) :=
  if l2 ≤ x5 then (some (.inr x4)) else (chk (ix l1 12) (bd (RC_leftBy (σ.1 (l0 + 1) (tn l1)) l3) (fun r7 => bnd ((r7 + (x5 * l3))) (fun v8 => chk (ix l1 12) (if v8 = (σ.1 (l0 + 1) (tn l1)) then (bnd (x5 + 1) (fun v10 => some (.inl (x4, v10)))) else (bd (Cl_firstLike σ l0 l1 v8) (fun r12 => if r12 = (-1) then (some (.inr 0)) else (bnd ((x4 ||| (1 <<< (r12 &&& 31)))) (fun v13 => bnd (x5 + 1) (fun v14 => some (.inl (v13, v14))))))))))))
set_option maxRecDepth 100000 in
set_option maxHeartbeats 4000000 in
theorem tb_Cl_partsWith_L19 {V : Ev} {Γ : Cn} {fin : Option Value × St} {l0 : Nat} {l1 : Int32} {l2 : Int32} {l3 : Int32} {σ : St} {x4 : Int32} {x5 : Int32} {o : ((Int32 × Int32) ⊕ Int32)} (X : Cx V Γ M_X1_partsWith) {A : ((Int32 × Int32) ⊕ Int32) → Prop} (k_l0 : okCl l0) (hr : ∀ (r : Int32), A (.inr r) → (some (.int r), σ) = fin) (hb19 : ∀ (x4 : Int32) (x5 : Int32), A (.inl (x4, x5)) → Go V Γ M_X1_partsWith (Zm V Γ 3 fin) 19 [(0, .ref (V.2.2.1 + l0)), (1, .int l1), (2, .int l2), (3, .int l3), (4, .int x4), (5, .int x5)] [] σ) (h : Cl_partsWith_L19 l0 l1 l2 l3 σ x4 x5 = some o) (hA : A o) : Go V Γ M_X1_partsWith (Zm V Γ 3 fin) 19 [(0, .ref (V.2.2.1 + l0)), (1, .int l1), (2, .int l2), (3, .int l3), (4, .int x4), (5, .int x5)] [] σ := by
  unfold Cl_partsWith_L19 at h
  refine g_iload (pc := 19) X 5 rfl dX1_partsWith_19 ?_
  refine g_iload_n (pc := 21) X 2 rfl dX1_partsWith_21 ?_
  refine g_icmp_ge (pc := 22) (tgt := 85) X dX1_partsWith_22 rfl (fun c17 => ?_) (fun c17 => ?_)
  · replace h := if_t c17 h
    refine g_iload (pc := 85) X 4 rfl dX1_partsWith_85 ?_
    cases h
    exact g_iret (pc := 87) X rfl rfl (hr _ hA) dX1_partsWith_87
  · replace h := if_f c17 h
    refine g_aload_n (pc := 25) X 0 rfl dX1_partsWith_25 ?_
    refine g_getR (r := (l0 + 1)) (pc := 26) X k_fl_X1_9 (sCl_0 k_l0) rfl dX1_partsWith_26 ?_
    refine g_iload_n (pc := 29) X 1 rfl dX1_partsWith_29 ?_
    obtain ⟨c5, h⟩ := chk_e h
    refine g_iald (pc := 30) X (sCl_1 k_l0) c5 dX1_partsWith_30 ?_
    refine g_iload_n (pc := 31) X 3 rfl dX1_partsWith_31 ?_
    obtain ⟨r7, hc6, h⟩ := bd_e h
    refine g_callS (pc := 32) X k_ml_X1_42 (run_RC_leftBy  hc6) rfl (room_ok (Nat.le_of_ble_eq_true rfl) (Nat.le_of_ble_eq_true rfl)) ⟨Nat.le_refl _, Nat.le_refl _⟩ _ rfl (Nat.le_of_ble_eq_true rfl) dX1_partsWith_32 ?_
    show Go V Γ M_X1_partsWith (Zm V Γ 3 fin) 35 [(0, .ref (V.2.2.1 + l0)), (1, .int l1), (2, .int l2), (3, .int l3), (4, .int x4), (5, .int x5)] [.int r7] σ
    refine g_iload (pc := 35) X 5 rfl dX1_partsWith_35 ?_
    refine g_iload_n (pc := 37) X 3 rfl dX1_partsWith_37 ?_
    refine g_imul (pc := 38) X dX1_partsWith_38 ?_
    refine g_iadd (pc := 39) X dX1_partsWith_39 ?_
    obtain ⟨v8, e_v8, h⟩ := bnd_e h
    refine g_nmI e_v8 ?_
    refine g_istore (pc := 40) X [(6, .int v8), (0, .ref (V.2.2.1 + l0)), (1, .int l1), (2, .int l2), (3, .int l3), (4, .int x4), (5, .int x5)] (Nat.le_of_ble_eq_true rfl) rfl dX1_partsWith_40 ?_
    refine g_iload (pc := 42) X 0 rfl dX1_partsWith_42 ?_
    refine g_aload_n (pc := 44) X 1 rfl dX1_partsWith_44 ?_
    refine g_getR (r := (l0 + 1)) (pc := 45) X k_fl_X1_9 (sCl_0 k_l0) rfl dX1_partsWith_45 ?_
    refine g_iload_n (pc := 48) X 2 rfl dX1_partsWith_48 ?_
    obtain ⟨c9, h⟩ := chk_e h
    refine g_iald (pc := 49) X (sCl_1 k_l0) c9 dX1_partsWith_49 ?_
    refine g_icmp_eq (pc := 50) (tgt := 79) X dX1_partsWith_50 rfl (fun c16 => ?_) (fun c16 => ?_)
    · replace h := if_t c16 h
      obtain ⟨v10, e_v10, h⟩ := bnd_e h
      refine g_iinc (pc := 79) (v := v10) X [(5, .int v10), (6, .int v8), (0, .ref (V.2.2.1 + l0)), (1, .int l1), (2, .int l2), (3, .int l3), (4, .int x4)] 6 rfl (by rw [e_v10]; rfl) (Nat.le_of_ble_eq_true rfl) rfl dX1_partsWith_79 ?_
      refine g_goto (pc := 82) (tgt := 19) X dX1_partsWith_82 rfl ?_
      refine g_sub [2, 3, 4, 5, 6, 0] rfl ?_
      cases h
      exact hb19 _ _ hA
    · replace h := if_f c16 h
      refine g_aload_n (pc := 53) X 1 rfl dX1_partsWith_53 ?_
      refine g_iload_n (pc := 54) X 2 rfl dX1_partsWith_54 ?_
      refine g_iload (pc := 55) X 0 rfl dX1_partsWith_55 ?_
      obtain ⟨r12, hc11, h⟩ := bd_e h
      refine g_callV (pc := 57) X k_ml_X1_60 (run_Cl_firstLike k_l0 hc11) (sCl_0 k_l0) rfl (room_ok (Nat.le_of_ble_eq_true rfl) (Nat.le_of_ble_eq_true rfl)) ⟨Nat.le_refl _, Nat.le_refl _⟩ _ rfl (Nat.le_of_ble_eq_true rfl) dX1_partsWith_57 ?_
      show Go V Γ M_X1_partsWith (Zm V Γ 3 fin) 60 [(6, .int v8), (0, .ref (V.2.2.1 + l0)), (1, .int l1), (2, .int l2), (3, .int l3), (4, .int x4), (5, .int x5)] [.int r12] σ
      refine g_istore (pc := 60) X [(7, .int r12), (6, .int v8), (0, .ref (V.2.2.1 + l0)), (1, .int l1), (2, .int l2), (3, .int l3), (4, .int x4), (5, .int x5)] (Nat.le_of_ble_eq_true rfl) rfl dX1_partsWith_60 ?_
      refine g_iload (pc := 62) X 0 rfl dX1_partsWith_62 ?_
      refine g_iconst (v := (-1)) (pc := 64) X rfl dX1_partsWith_64 ?_
      refine g_icmp_ne (pc := 65) (tgt := 70) X dX1_partsWith_65 rfl (fun c15 => ?_) (fun c15 => ?_)
      · replace h := if_f c15 h
        refine g_iload (pc := 70) X 6 rfl dX1_partsWith_70 ?_
        refine g_iconst (v := 1) (pc := 72) X rfl dX1_partsWith_72 ?_
        refine g_iload (pc := 73) X 0 rfl dX1_partsWith_73 ?_
        refine g_ishl (pc := 75) X dX1_partsWith_75 ?_
        refine g_ior (pc := 76) X dX1_partsWith_76 ?_
        obtain ⟨v13, e_v13, h⟩ := bnd_e h
        refine g_nmI e_v13 ?_
        refine g_istore (pc := 77) X [(4, .int v13), (7, .int r12), (6, .int v8), (0, .ref (V.2.2.1 + l0)), (1, .int l1), (2, .int l2), (3, .int l3), (5, .int x5)] (Nat.le_of_ble_eq_true rfl) rfl dX1_partsWith_77 ?_
        obtain ⟨v14, e_v14, h⟩ := bnd_e h
        refine g_iinc (pc := 79) (v := v14) X [(5, .int v14), (4, .int v13), (7, .int r12), (6, .int v8), (0, .ref (V.2.2.1 + l0)), (1, .int l1), (2, .int l2), (3, .int l3)] 7 rfl (by rw [e_v14]; rfl) (Nat.le_of_ble_eq_true rfl) rfl dX1_partsWith_79 ?_
        refine g_goto (pc := 82) (tgt := 19) X dX1_partsWith_82 rfl ?_
        refine g_sub [4, 5, 6, 7, 1, 0] rfl ?_
        cases h
        exact hb19 _ _ hA
      · replace h := if_t c15 h
        refine g_iconst (v := 0) (pc := 68) X rfl dX1_partsWith_68 ?_
        cases h
        exact g_iret (pc := 69) X rfl rfl (hr _ hA) dX1_partsWith_69
set_option maxRecDepth 100000 in
theorem tl_Cl_partsWith_L19 {V : Ev} {Γ : Cn} {fin : Option Value × St} {l0 : Nat} {l1 : Int32} {l2 : Int32} {l3 : Int32} {σ : St} {x4 : Int32} {x5 : Int32} (X : Cx V Γ M_X1_partsWith) (k_l0 : okCl l0) {e : Int32} {A : Int32 → Prop} (hr : ∀ (r : Int32), A r → (some (.int r), σ) = fin) {n : Nat} (h : iter (fun s : (Int32 × Int32) => Cl_partsWith_L19 l0 l1 l2 l3 σ s.1 s.2) n (x4, x5) = some e) (hA : A e) : Go V Γ M_X1_partsWith (Zm V Γ 3 fin) 19 [(0, .ref (V.2.2.1 + l0)), (1, .int l1), (2, .int l2), (3, .int l3), (4, .int x4), (5, .int x5)] [] σ := by
  refine iter_go (G := (fun s : (Int32 × Int32) => Go V Γ M_X1_partsWith (Zm V Γ 3 fin) 19 [(0, .ref (V.2.2.1 + l0)), (1, .int l1), (2, .int l2), (3, .int l3), (4, .int s.1), (5, .int s.2)] [] σ)) (fun s o ho hS => ?_) n (x4, x5) h
  exact tb_Cl_partsWith_L19 X k_l0 (fun z0 he => hr z0 (by rw [he]; exact hA)) (fun _ _ h9 => h9) ho hS
noncomputable def Cl_partsWith (σ : St) (a0 : Nat) (p1 : Int32) (p2 : Int32) : Option Int32 :=
  chk (ix p1 12) (bd (RC_partBy_ (σ.1 (a0 + 2) (tn p1)) p2) (fun r3 => bnd ((1 <<< (p1 &&& 31))) (fun v4 => iter (fun s : (Int32 × Int32) => Cl_partsWith_L19 a0 p1 p2 r3 σ s.1 s.2) FUEL (v4, 0))))
set_option maxRecDepth 100000 in
set_option maxHeartbeats 4000000 in
theorem tm_Cl_partsWith {V : Ev} {Γ : Cn} {fin : Option Value × St} {σ : St} {a0 : Nat} {p1 : Int32} {p2 : Int32} {o : Int32} (X : Cx V Γ M_X1_partsWith) {A : Int32 → Prop} (k0 : okCl a0) (hr : ∀ (r : Int32), A r → (some (.int r), σ) = fin) (h : Cl_partsWith σ a0 p1 p2 = some o) (hA : A o) : Go V Γ M_X1_partsWith (Zm V Γ 3 fin) 0 [(0, .ref (V.2.2.1 + a0)), (1, .int p1), (2, .int p2)] [] σ := by
  unfold Cl_partsWith at h
  refine g_aload_n (pc := 0) X 0 rfl dX1_partsWith_0 ?_
  refine g_getR (r := (a0 + 2)) (pc := 1) X k_fl_X1_15 (sCl_0 k0) rfl dX1_partsWith_1 ?_
  refine g_iload_n (pc := 4) X 1 rfl dX1_partsWith_4 ?_
  obtain ⟨c1, h⟩ := chk_e h
  refine g_iald (pc := 5) X (sCl_2 k0) c1 dX1_partsWith_5 ?_
  refine g_iload_n (pc := 6) X 2 rfl dX1_partsWith_6 ?_
  obtain ⟨r3, hc2, h⟩ := bd_e h
  refine g_callS (pc := 7) X k_ml_X1_57 (run_RC_partBy_  hc2) rfl (room_ok (Nat.le_of_ble_eq_true rfl) (Nat.le_of_ble_eq_true rfl)) ⟨Nat.le_refl _, Nat.le_refl _⟩ _ rfl (Nat.le_of_ble_eq_true rfl) dX1_partsWith_7 ?_
  show Go V Γ M_X1_partsWith (Zm V Γ 3 fin) 10 [(0, .ref (V.2.2.1 + a0)), (1, .int p1), (2, .int p2)] [.int r3] σ
  refine g_istore_n (pc := 10) X [(3, .int r3), (0, .ref (V.2.2.1 + a0)), (1, .int p1), (2, .int p2)] rfl (Nat.le_of_ble_eq_true rfl) rfl dX1_partsWith_10 ?_
  refine g_iconst (v := 1) (pc := 11) X rfl dX1_partsWith_11 ?_
  refine g_iload_n (pc := 12) X 2 rfl dX1_partsWith_12 ?_
  refine g_ishl (pc := 13) X dX1_partsWith_13 ?_
  obtain ⟨v4, e_v4, h⟩ := bnd_e h
  refine g_nmI e_v4 ?_
  refine g_istore (pc := 14) X [(4, .int v4), (3, .int r3), (0, .ref (V.2.2.1 + a0)), (1, .int p1), (2, .int p2)] (Nat.le_of_ble_eq_true rfl) rfl dX1_partsWith_14 ?_
  refine g_iconst (v := 0) (pc := 16) X rfl dX1_partsWith_16 ?_
  refine g_istore (pc := 17) X [(5, .int 0), (4, .int v4), (3, .int r3), (0, .ref (V.2.2.1 + a0)), (1, .int p1), (2, .int p2)] (Nat.le_of_ble_eq_true rfl) rfl dX1_partsWith_17 ?_
  refine g_sub [3, 4, 5, 2, 1, 0] rfl ?_
  exact tl_Cl_partsWith_L19 X k0 hr h hA
set_option maxRecDepth 100000 in
theorem run_Cl_partsWith {V : Ev} {σ : St} {a0 : Nat} {p1 : Int32} {p2 : Int32} {o : Int32} (k0 : okCl a0)  (h : Cl_partsWith σ a0 p1 p2 = some o) : Rs V 3 M_X1_partsWith [.ref (V.2.2.1 + a0), .int p1, .int p2] σ (some (.int o), σ) := by
  refine Rs.of (by decide +kernel) (Nat.le_of_ble_eq_true rfl) (fun Γ X => ?_)
  exact tm_Cl_partsWith X (A := fun o1 => o1 = o) k0 (fun _ e => by rw [e]) h rfl
theorem dX1_merge_0 : decode cX1_merge 0 = .ok (.aload_n 0, 1) := by decide +kernel
theorem dX1_merge_1 : decode cX1_merge 1 = .ok (.getfield 15, 3) := by decide +kernel
theorem dX1_merge_4 : decode cX1_merge 4 = .ok (.iload_n 1, 1) := by decide +kernel
theorem dX1_merge_5 : decode cX1_merge 5 = .ok (.aload_n 0, 1) := by decide +kernel
theorem dX1_merge_6 : decode cX1_merge 6 = .ok (.getfield 15, 3) := by decide +kernel
theorem dX1_merge_9 : decode cX1_merge 9 = .ok (.iload_n 1, 1) := by decide +kernel
theorem dX1_merge_10 : decode cX1_merge 10 = .ok (.iaload, 1) := by decide +kernel
theorem dX1_merge_11 : decode cX1_merge 11 = .ok (.iload_n 2, 1) := by decide +kernel
theorem dX1_merge_12 : decode cX1_merge 12 = .ok (.invokestatic 57, 3) := by decide +kernel
theorem dX1_merge_15 : decode cX1_merge 15 = .ok (.iastore, 1) := by decide +kernel
theorem dX1_merge_16 : decode cX1_merge 16 = .ok (.aload_n 0, 1) := by decide +kernel
theorem dX1_merge_17 : decode cX1_merge 17 = .ok (.getfield 9, 3) := by decide +kernel
theorem dX1_merge_20 : decode cX1_merge 20 = .ok (.iload_n 1, 1) := by decide +kernel
theorem dX1_merge_21 : decode cX1_merge 21 = .ok (.aload_n 0, 1) := by decide +kernel
theorem dX1_merge_22 : decode cX1_merge 22 = .ok (.getfield 9, 3) := by decide +kernel
theorem dX1_merge_25 : decode cX1_merge 25 = .ok (.iload_n 1, 1) := by decide +kernel
theorem dX1_merge_26 : decode cX1_merge 26 = .ok (.iaload, 1) := by decide +kernel
theorem dX1_merge_27 : decode cX1_merge 27 = .ok (.aload_n 0, 1) := by decide +kernel
theorem dX1_merge_28 : decode cX1_merge 28 = .ok (.getfield 15, 3) := by decide +kernel
theorem dX1_merge_31 : decode cX1_merge 31 = .ok (.iload_n 1, 1) := by decide +kernel
theorem dX1_merge_32 : decode cX1_merge 32 = .ok (.iaload, 1) := by decide +kernel
theorem dX1_merge_33 : decode cX1_merge 33 = .ok (.invokestatic 42, 3) := by decide +kernel
theorem dX1_merge_36 : decode cX1_merge 36 = .ok (.iastore, 1) := by decide +kernel
theorem dX1_merge_37 : decode cX1_merge 37 = .ok (.aload_n 0, 1) := by decide +kernel
theorem dX1_merge_38 : decode cX1_merge 38 = .ok (.getfield 22, 3) := by decide +kernel
theorem dX1_merge_41 : decode cX1_merge 41 = .ok (.iconst 1, 1) := by decide +kernel
theorem dX1_merge_42 : decode cX1_merge 42 = .ok (.isub, 1) := by decide +kernel
theorem dX1_merge_43 : decode cX1_merge 43 = .ok (.istore 4, 2) := by decide +kernel
theorem dX1_merge_45 : decode cX1_merge 45 = .ok (.iload 4, 2) := by decide +kernel
theorem dX1_merge_47 : decode cX1_merge 47 = .ok (.ifCond .lt 30, 3) := by decide +kernel
theorem dX1_merge_50 : decode cX1_merge 50 = .ok (.iload 4, 2) := by decide +kernel
theorem dX1_merge_52 : decode cX1_merge 52 = .ok (.iload_n 1, 1) := by decide +kernel
theorem dX1_merge_53 : decode cX1_merge 53 = .ok (.if_icmp .eq 18, 3) := by decide +kernel
theorem dX1_merge_56 : decode cX1_merge 56 = .ok (.iload_n 3, 1) := by decide +kernel
theorem dX1_merge_57 : decode cX1_merge 57 = .ok (.iload 4, 2) := by decide +kernel
theorem dX1_merge_59 : decode cX1_merge 59 = .ok (.invokestatic 38, 3) := by decide +kernel
theorem dX1_merge_62 : decode cX1_merge 62 = .ok (.ifCond .eq 9, 3) := by decide +kernel
theorem dX1_merge_65 : decode cX1_merge 65 = .ok (.aload_n 0, 1) := by decide +kernel
theorem dX1_merge_66 : decode cX1_merge 66 = .ok (.iload 4, 2) := by decide +kernel
theorem dX1_merge_68 : decode cX1_merge 68 = .ok (.invokevirtual 63, 3) := by decide +kernel
theorem dX1_merge_71 : decode cX1_merge 71 = .ok (.iinc 4 (-1), 3) := by decide +kernel
theorem dX1_merge_74 : decode cX1_merge 74 = .ok (.goto (-29), 3) := by decide +kernel
theorem dX1_merge_77 : decode cX1_merge 77 = .ok (.return_, 1) := by decide +kernel
noncomputable def Cl_merge_L45 (l0 : Nat) (l1 : Int32) (l3 : Int32) (σ : St) (x4 : Int32) : Option ((Int32 × St) ⊕ St) :=
  if x4 < 0 then (some (.inr σ)) else (if x4 = l1 then (bnd (x4 + (-1)) (fun v13 => some (.inl (v13, σ)))) else (bd (RC_isIn l3 x4) (fun r15 => if r15 = 0 then (bnd (x4 + (-1)) (fun v16 => some (.inl (v16, σ)))) else (bd (Cl_remove σ l0 x4) (fun σ18 => bnd (x4 + (-1)) (fun v19 => some (.inl (v19, σ18))))))))
set_option maxRecDepth 100000 in
set_option maxHeartbeats 4000000 in
theorem tb_Cl_merge_L45 {V : Ev} {Γ : Cn} {fin : Option Value × St} {l0 : Nat} {l1 : Int32} {l3 : Int32} {σ : St} {x4 : Int32} {o : ((Int32 × St) ⊕ St)} (X : Cx V Γ M_X1_merge) {A : ((Int32 × St) ⊕ St) → Prop} (k_l0 : okCl l0) (hb45 : ∀ (x4 : Int32) (σ9 : St), A (.inl (x4, σ9)) → Go V Γ M_X1_merge (Zm V Γ 2 fin) 45 [(0, .ref (V.2.2.1 + l0)), (1, .int l1), (3, .int l3), (4, .int x4)] [] σ9) (hx45 : ∀ (σ9 : St), A (.inr σ9) → Go V Γ M_X1_merge (Zm V Γ 2 fin) 77 [] [] σ9) (h : Cl_merge_L45 l0 l1 l3 σ x4 = some o) (hA : A o) : Go V Γ M_X1_merge (Zm V Γ 2 fin) 45 [(0, .ref (V.2.2.1 + l0)), (1, .int l1), (3, .int l3), (4, .int x4)] [] σ := by
  unfold Cl_merge_L45 at h
  refine g_iload (pc := 45) X 3 rfl dX1_merge_45 ?_
  refine g_if_lt (pc := 47) (tgt := 77) X dX1_merge_47 rfl (fun c22 => ?_) (fun c22 => ?_)
  · replace h := if_t c22 h
    refine g_sub [] rfl ?_
    cases h
    exact hx45 _ hA
  · replace h := if_f c22 h
    refine g_iload (pc := 50) X 3 rfl dX1_merge_50 ?_
    refine g_iload_n (pc := 52) X 1 rfl dX1_merge_52 ?_
    refine g_icmp_eq (pc := 53) (tgt := 71) X dX1_merge_53 rfl (fun c21 => ?_) (fun c21 => ?_)
    · replace h := if_t c21 h
      obtain ⟨v13, e_v13, h⟩ := bnd_e h
      refine g_iinc (pc := 71) (v := v13) X [(4, .int v13), (0, .ref (V.2.2.1 + l0)), (1, .int l1), (3, .int l3)] 3 rfl (by rw [e_v13]; rfl) (Nat.le_of_ble_eq_true rfl) rfl dX1_merge_71 ?_
      refine g_goto (pc := 74) (tgt := 45) X dX1_merge_74 rfl ?_
      refine g_sub [1, 2, 3, 0] rfl ?_
      cases h
      exact hb45 _ _ hA
    · replace h := if_f c21 h
      refine g_iload_n (pc := 56) X 2 rfl dX1_merge_56 ?_
      refine g_iload (pc := 57) X 3 rfl dX1_merge_57 ?_
      obtain ⟨r15, hc14, h⟩ := bd_e h
      refine g_callS (pc := 59) X k_ml_X1_38 (run_RC_isIn  hc14) rfl (room_ok (Nat.le_of_ble_eq_true rfl) (Nat.le_of_ble_eq_true rfl)) ⟨Nat.le_refl _, Nat.le_refl _⟩ _ rfl (Nat.le_of_ble_eq_true rfl) dX1_merge_59 ?_
      show Go V Γ M_X1_merge (Zm V Γ 2 fin) 62 [(0, .ref (V.2.2.1 + l0)), (1, .int l1), (3, .int l3), (4, .int x4)] [.int r15] σ
      refine g_if_eq (pc := 62) (tgt := 71) X dX1_merge_62 rfl (fun c20 => ?_) (fun c20 => ?_)
      · replace h := if_t c20 h
        obtain ⟨v16, e_v16, h⟩ := bnd_e h
        refine g_iinc (pc := 71) (v := v16) X [(4, .int v16), (0, .ref (V.2.2.1 + l0)), (1, .int l1), (3, .int l3)] 3 rfl (by rw [e_v16]; rfl) (Nat.le_of_ble_eq_true rfl) rfl dX1_merge_71 ?_
        refine g_goto (pc := 74) (tgt := 45) X dX1_merge_74 rfl ?_
        refine g_sub [1, 2, 3, 0] rfl ?_
        cases h
        exact hb45 _ _ hA
      · replace h := if_f c20 h
        refine g_aload_n (pc := 65) X 0 rfl dX1_merge_65 ?_
        refine g_iload (pc := 66) X 3 rfl dX1_merge_66 ?_
        obtain ⟨σ18, hc17, h⟩ := bd_e h
        refine g_callV (pc := 68) X k_ml_X1_63 (run_Cl_remove k_l0 hc17) (sCl_0 k_l0) rfl (room_ok (Nat.le_of_ble_eq_true rfl) (Nat.le_of_ble_eq_true rfl)) ⟨Nat.le_refl _, Nat.le_refl _⟩ _ rfl (Nat.le_of_ble_eq_true rfl) dX1_merge_68 ?_
        show Go V Γ M_X1_merge (Zm V Γ 2 fin) 71 [(0, .ref (V.2.2.1 + l0)), (1, .int l1), (3, .int l3), (4, .int x4)] [] σ18
        obtain ⟨v19, e_v19, h⟩ := bnd_e h
        refine g_iinc (pc := 71) (v := v19) X [(4, .int v19), (0, .ref (V.2.2.1 + l0)), (1, .int l1), (3, .int l3)] 3 rfl (by rw [e_v19]; rfl) (Nat.le_of_ble_eq_true rfl) rfl dX1_merge_71 ?_
        refine g_goto (pc := 74) (tgt := 45) X dX1_merge_74 rfl ?_
        refine g_sub [1, 2, 3, 0] rfl ?_
        cases h
        exact hb45 _ _ hA
set_option maxRecDepth 100000 in
theorem tl_Cl_merge_L45 {V : Ev} {Γ : Cn} {fin : Option Value × St} {l0 : Nat} {l1 : Int32} {l3 : Int32} {x4 : Int32} {σ9 : St} (X : Cx V Γ M_X1_merge) (k_l0 : okCl l0) {σ8 : St} {n : Nat} (h : iter (fun s : (Int32 × St) => Cl_merge_L45 l0 l1 l3 s.2 s.1) n (x4, σ9) = some σ8) (hK : Go V Γ M_X1_merge (Zm V Γ 2 fin) 77 [] [] σ8) : Go V Γ M_X1_merge (Zm V Γ 2 fin) 45 [(0, .ref (V.2.2.1 + l0)), (1, .int l1), (3, .int l3), (4, .int x4)] [] σ9 := by
  refine iter_go (G := (fun s : (Int32 × St) => Go V Γ M_X1_merge (Zm V Γ 2 fin) 45 [(0, .ref (V.2.2.1 + l0)), (1, .int l1), (3, .int l3), (4, .int s.1)] [] s.2)) (fun s o ho hS => ?_) n (x4, σ9) h
  exact tb_Cl_merge_L45 X k_l0 (fun _ _ h9 => h9) (fun _ he => by cases he; exact hK) ho hS
noncomputable def Cl_merge (σ : St) (a0 : Nat) (p1 : Int32) (p2 : Int32) (p3 : Int32) : Option St :=
  chk (ix p1 12) (bd (RC_partBy_ (σ.1 (a0 + 2) (tn p1)) p2) (fun r3 => chk (ix p1 12) (bnd (wI σ (a0 + 2) (tn p1) r3) (fun σ5 => chk (ix p1 12) (chk (ix p1 12) (bd (RC_leftBy (σ5.1 (a0 + 1) (tn p1)) (σ5.1 (a0 + 2) (tn p1))) (fun r9 => chk (ix p1 12) (bnd (wI σ5 (a0 + 1) (tn p1) r9) (fun σ11 => bnd (((σ11.1 a0 3) - 1)) (fun v12 => bd (iter (fun s : (Int32 × St) => Cl_merge_L45 a0 p1 p3 s.2 s.1) FUEL (v12, σ11)) (fun σ23 => some σ23)))))))))))
set_option maxRecDepth 100000 in
set_option maxHeartbeats 4000000 in
theorem tm_Cl_merge {V : Ev} {Γ : Cn} {fin : Option Value × St} {σ : St} {a0 : Nat} {p1 : Int32} {p2 : Int32} {p3 : Int32} {o : St} (X : Cx V Γ M_X1_merge) {A : St → Prop} (k0 : okCl a0) (hr : ∀ (σ9 : St), A σ9 → (none, σ9) = fin) (h : Cl_merge σ a0 p1 p2 p3 = some o) (hA : A o) : Go V Γ M_X1_merge (Zm V Γ 2 fin) 0 [(0, .ref (V.2.2.1 + a0)), (1, .int p1), (2, .int p2), (3, .int p3)] [] σ := by
  unfold Cl_merge at h
  refine g_aload_n (pc := 0) X 0 rfl dX1_merge_0 ?_
  refine g_getR (r := (a0 + 2)) (pc := 1) X k_fl_X1_15 (sCl_0 k0) rfl dX1_merge_1 ?_
  refine g_iload_n (pc := 4) X 1 rfl dX1_merge_4 ?_
  refine g_aload_n (pc := 5) X 0 rfl dX1_merge_5 ?_
  refine g_getR (r := (a0 + 2)) (pc := 6) X k_fl_X1_15 (sCl_0 k0) rfl dX1_merge_6 ?_
  refine g_iload_n (pc := 9) X 1 rfl dX1_merge_9 ?_
  obtain ⟨c1, h⟩ := chk_e h
  refine g_iald (pc := 10) X (sCl_2 k0) c1 dX1_merge_10 ?_
  refine g_iload_n (pc := 11) X 2 rfl dX1_merge_11 ?_
  obtain ⟨r3, hc2, h⟩ := bd_e h
  refine g_callS (pc := 12) X k_ml_X1_57 (run_RC_partBy_  hc2) rfl (room_ok (Nat.le_of_ble_eq_true rfl) (Nat.le_of_ble_eq_true rfl)) ⟨Nat.le_refl _, Nat.le_refl _⟩ _ rfl (Nat.le_of_ble_eq_true rfl) dX1_merge_12 ?_
  show Go V Γ M_X1_merge (Zm V Γ 2 fin) 15 [(0, .ref (V.2.2.1 + a0)), (1, .int p1), (2, .int p2), (3, .int p3)] [.int r3, .int p1, .ref (V.2.2.1 + (a0 + 2))] σ
  obtain ⟨c4, h⟩ := chk_e h
  refine g_iast (pc := 15) X (sCl_2 k0) c4 dX1_merge_15 ?_
  obtain ⟨σ5, e_σ5, h⟩ := bnd_e h
  refine g_nmS e_σ5 ?_
  refine g_aload_n (pc := 16) X 0 rfl dX1_merge_16 ?_
  refine g_getR (r := (a0 + 1)) (pc := 17) X k_fl_X1_9 (sCl_0 k0) rfl dX1_merge_17 ?_
  refine g_iload_n (pc := 20) X 1 rfl dX1_merge_20 ?_
  refine g_aload_n (pc := 21) X 0 rfl dX1_merge_21 ?_
  refine g_getR (r := (a0 + 1)) (pc := 22) X k_fl_X1_9 (sCl_0 k0) rfl dX1_merge_22 ?_
  refine g_iload_n (pc := 25) X 1 rfl dX1_merge_25 ?_
  obtain ⟨c6, h⟩ := chk_e h
  refine g_iald (pc := 26) X (sCl_1 k0) c6 dX1_merge_26 ?_
  refine g_aload_n (pc := 27) X 0 rfl dX1_merge_27 ?_
  refine g_getR (r := (a0 + 2)) (pc := 28) X k_fl_X1_15 (sCl_0 k0) rfl dX1_merge_28 ?_
  refine g_iload_n (pc := 31) X 1 rfl dX1_merge_31 ?_
  obtain ⟨c7, h⟩ := chk_e h
  refine g_iald (pc := 32) X (sCl_2 k0) c7 dX1_merge_32 ?_
  obtain ⟨r9, hc8, h⟩ := bd_e h
  refine g_callS (pc := 33) X k_ml_X1_42 (run_RC_leftBy  hc8) rfl (room_ok (Nat.le_of_ble_eq_true rfl) (Nat.le_of_ble_eq_true rfl)) ⟨Nat.le_refl _, Nat.le_refl _⟩ _ rfl (Nat.le_of_ble_eq_true rfl) dX1_merge_33 ?_
  show Go V Γ M_X1_merge (Zm V Γ 2 fin) 36 [(0, .ref (V.2.2.1 + a0)), (1, .int p1), (2, .int p2), (3, .int p3)] [.int r9, .int p1, .ref (V.2.2.1 + (a0 + 1))] σ5
  obtain ⟨c10, h⟩ := chk_e h
  refine g_iast (pc := 36) X (sCl_1 k0) c10 dX1_merge_36 ?_
  obtain ⟨σ11, e_σ11, h⟩ := bnd_e h
  refine g_nmS e_σ11 ?_
  refine g_aload_n (pc := 37) X 0 rfl dX1_merge_37 ?_
  refine g_getI (pc := 38) X k_fl_X1_22 (sCl_0 k0) rfl dX1_merge_38 ?_
  refine g_iconst (v := 1) (pc := 41) X rfl dX1_merge_41 ?_
  refine g_isub (pc := 42) X dX1_merge_42 ?_
  obtain ⟨v12, e_v12, h⟩ := bnd_e h
  refine g_nmI e_v12 ?_
  refine g_istore (pc := 43) X [(4, .int v12), (0, .ref (V.2.2.1 + a0)), (1, .int p1), (2, .int p2), (3, .int p3)] (Nat.le_of_ble_eq_true rfl) rfl dX1_merge_43 ?_
  refine g_sub [1, 2, 4, 0] rfl ?_
  obtain ⟨σ23, hi24, h⟩ := bd_e h
  refine tl_Cl_merge_L45 X k0 hi24 ?_
  cases h
  exact g_vret (pc := 77) X rfl (hr _ hA) dX1_merge_77
set_option maxRecDepth 100000 in
theorem run_Cl_merge {V : Ev} {σ : St} {a0 : Nat} {p1 : Int32} {p2 : Int32} {p3 : Int32} {o : St} (k0 : okCl a0)  (h : Cl_merge σ a0 p1 p2 p3 = some o) : Rs V 2 M_X1_merge [.ref (V.2.2.1 + a0), .int p1, .int p2, .int p3] σ (none, o) := by
  refine Rs.of (by decide +kernel) (Nat.le_of_ble_eq_true rfl) (fun Γ X => ?_)
  exact tm_Cl_merge X (A := fun o1 => o1 = o) k0 (fun _ e => by rw [e]) h rfl
theorem dX1_greatestModulus_0 : decode cX1_greatestModulus 0 = .ok (.iconst 0, 1) := by decide +kernel
theorem dX1_greatestModulus_1 : decode cX1_greatestModulus 1 = .ok (.istore_n 1, 1) := by decide +kernel
theorem dX1_greatestModulus_2 : decode cX1_greatestModulus 2 = .ok (.iconst 0, 1) := by decide +kernel
theorem dX1_greatestModulus_3 : decode cX1_greatestModulus 3 = .ok (.istore_n 2, 1) := by decide +kernel
theorem dX1_greatestModulus_4 : decode cX1_greatestModulus 4 = .ok (.iload_n 2, 1) := by decide +kernel
theorem dX1_greatestModulus_5 : decode cX1_greatestModulus 5 = .ok (.aload_n 0, 1) := by decide +kernel
theorem dX1_greatestModulus_6 : decode cX1_greatestModulus 6 = .ok (.getfield 22, 3) := by decide +kernel
theorem dX1_greatestModulus_9 : decode cX1_greatestModulus 9 = .ok (.if_icmp .ge 20, 3) := by decide +kernel
theorem dX1_greatestModulus_12 : decode cX1_greatestModulus 12 = .ok (.iload_n 1, 1) := by decide +kernel
theorem dX1_greatestModulus_13 : decode cX1_greatestModulus 13 = .ok (.aload_n 0, 1) := by decide +kernel
theorem dX1_greatestModulus_14 : decode cX1_greatestModulus 14 = .ok (.getfield 15, 3) := by decide +kernel
theorem dX1_greatestModulus_17 : decode cX1_greatestModulus 17 = .ok (.iload_n 2, 1) := by decide +kernel
theorem dX1_greatestModulus_18 : decode cX1_greatestModulus 18 = .ok (.iaload, 1) := by decide +kernel
theorem dX1_greatestModulus_19 : decode cX1_greatestModulus 19 = .ok (.invokestatic 67, 3) := by decide +kernel
theorem dX1_greatestModulus_22 : decode cX1_greatestModulus 22 = .ok (.istore_n 1, 1) := by decide +kernel
theorem dX1_greatestModulus_23 : decode cX1_greatestModulus 23 = .ok (.iinc 2 1, 3) := by decide +kernel
theorem dX1_greatestModulus_26 : decode cX1_greatestModulus 26 = .ok (.goto (-22), 3) := by decide +kernel
theorem dX1_greatestModulus_29 : decode cX1_greatestModulus 29 = .ok (.iload_n 1, 1) := by decide +kernel
theorem dX1_greatestModulus_30 : decode cX1_greatestModulus 30 = .ok (.ireturn, 1) := by decide +kernel
noncomputable def Cl_greatestModulus_L4 (l0 : Nat) (σ : St) (x1 : Int32) (x2 : Int32) : Option ((Int32 × Int32) ⊕ Int32) :=
  if (σ.1 l0 3) ≤ x2 then (some (.inr x1)) else (chk (ix x2 12) (bnd ((jmax x1 (σ.1 (l0 + 2) (tn x2)))) (fun v2 => bnd (x2 + 1) (fun v3 => some (.inl (v2, v3))))))
set_option maxRecDepth 100000 in
set_option maxHeartbeats 4000000 in
theorem tb_Cl_greatestModulus_L4 {V : Ev} {Γ : Cn} {fin : Option Value × St} {l0 : Nat} {σ : St} {x1 : Int32} {x2 : Int32} {o : ((Int32 × Int32) ⊕ Int32)} (X : Cx V Γ M_X1_greatestModulus) {A : ((Int32 × Int32) ⊕ Int32) → Prop} (k_l0 : okCl l0) (hb4 : ∀ (x1 : Int32) (x2 : Int32), A (.inl (x1, x2)) → Go V Γ M_X1_greatestModulus (Zm V Γ 1 fin) 4 [(0, .ref (V.2.2.1 + l0)), (1, .int x1), (2, .int x2)] [] σ) (hx4 : ∀ (x1 : Int32), A (.inr x1) → Go V Γ M_X1_greatestModulus (Zm V Γ 1 fin) 29 [(1, .int x1)] [] σ) (h : Cl_greatestModulus_L4 l0 σ x1 x2 = some o) (hA : A o) : Go V Γ M_X1_greatestModulus (Zm V Γ 1 fin) 4 [(0, .ref (V.2.2.1 + l0)), (1, .int x1), (2, .int x2)] [] σ := by
  unfold Cl_greatestModulus_L4 at h
  refine g_iload_n (pc := 4) X 2 rfl dX1_greatestModulus_4 ?_
  refine g_aload_n (pc := 5) X 0 rfl dX1_greatestModulus_5 ?_
  refine g_getI (pc := 6) X k_fl_X1_22 (sCl_0 k_l0) rfl dX1_greatestModulus_6 ?_
  refine g_icmp_ge (pc := 9) (tgt := 29) X dX1_greatestModulus_9 rfl (fun c4 => ?_) (fun c4 => ?_)
  · replace h := if_t c4 h
    refine g_sub [1] rfl ?_
    cases h
    exact hx4 _ hA
  · replace h := if_f c4 h
    refine g_iload_n (pc := 12) X 1 rfl dX1_greatestModulus_12 ?_
    refine g_aload_n (pc := 13) X 0 rfl dX1_greatestModulus_13 ?_
    refine g_getR (r := (l0 + 2)) (pc := 14) X k_fl_X1_15 (sCl_0 k_l0) rfl dX1_greatestModulus_14 ?_
    refine g_iload_n (pc := 17) X 2 rfl dX1_greatestModulus_17 ?_
    obtain ⟨c1, h⟩ := chk_e h
    refine g_iald (pc := 18) X (sCl_2 k_l0) c1 dX1_greatestModulus_18 ?_
    refine g_max (pc := 19) X k_ml_X1_67 (Nat.le_of_ble_eq_true rfl) (Nat.le_of_ble_eq_true rfl) (Nat.le_refl _) (Nat.le_refl _) dX1_greatestModulus_19 ?_
    obtain ⟨v2, e_v2, h⟩ := bnd_e h
    refine g_nmI e_v2 ?_
    refine g_istore_n (pc := 22) X [(1, .int v2), (0, .ref (V.2.2.1 + l0)), (2, .int x2)] rfl (Nat.le_of_ble_eq_true rfl) rfl dX1_greatestModulus_22 ?_
    obtain ⟨v3, e_v3, h⟩ := bnd_e h
    refine g_iinc (pc := 23) (v := v3) X [(2, .int v3), (1, .int v2), (0, .ref (V.2.2.1 + l0))] 2 rfl (by rw [e_v3]; rfl) (Nat.le_of_ble_eq_true rfl) rfl dX1_greatestModulus_23 ?_
    refine g_goto (pc := 26) (tgt := 4) X dX1_greatestModulus_26 rfl ?_
    refine g_sub [2, 1, 0] rfl ?_
    cases h
    exact hb4 _ _ hA
set_option maxRecDepth 100000 in
theorem tl_Cl_greatestModulus_L4 {V : Ev} {Γ : Cn} {fin : Option Value × St} {l0 : Nat} {σ : St} {x1 : Int32} {x2 : Int32} (X : Cx V Γ M_X1_greatestModulus) (k_l0 : okCl l0) {y1 : Int32} {n : Nat} (h : iter (fun s : (Int32 × Int32) => Cl_greatestModulus_L4 l0 σ s.1 s.2) n (x1, x2) = some y1) (hK : Go V Γ M_X1_greatestModulus (Zm V Γ 1 fin) 29 [(1, .int y1)] [] σ) : Go V Γ M_X1_greatestModulus (Zm V Γ 1 fin) 4 [(0, .ref (V.2.2.1 + l0)), (1, .int x1), (2, .int x2)] [] σ := by
  refine iter_go (G := (fun s : (Int32 × Int32) => Go V Γ M_X1_greatestModulus (Zm V Γ 1 fin) 4 [(0, .ref (V.2.2.1 + l0)), (1, .int s.1), (2, .int s.2)] [] σ)) (fun s o ho hS => ?_) n (x1, x2) h
  exact tb_Cl_greatestModulus_L4 X k_l0 (fun _ _ h9 => h9) (fun _ he => by cases he; exact hK) ho hS
noncomputable def Cl_greatestModulus (σ : St) (a0 : Nat) : Option Int32 :=
  bd (iter (fun s : (Int32 × Int32) => Cl_greatestModulus_L4 a0 σ s.1 s.2) FUEL (0, 0)) (fun v5 => some v5)
set_option maxRecDepth 100000 in
set_option maxHeartbeats 4000000 in
theorem tm_Cl_greatestModulus {V : Ev} {Γ : Cn} {fin : Option Value × St} {σ : St} {a0 : Nat} {o : Int32} (X : Cx V Γ M_X1_greatestModulus) {A : Int32 → Prop} (k0 : okCl a0) (hr : ∀ (r : Int32), A r → (some (.int r), σ) = fin) (h : Cl_greatestModulus σ a0 = some o) (hA : A o) : Go V Γ M_X1_greatestModulus (Zm V Γ 1 fin) 0 [(0, .ref (V.2.2.1 + a0))] [] σ := by
  unfold Cl_greatestModulus at h
  refine g_iconst (v := 0) (pc := 0) X rfl dX1_greatestModulus_0 ?_
  refine g_istore_n (pc := 1) X [(1, .int 0), (0, .ref (V.2.2.1 + a0))] rfl (Nat.le_of_ble_eq_true rfl) rfl dX1_greatestModulus_1 ?_
  refine g_iconst (v := 0) (pc := 2) X rfl dX1_greatestModulus_2 ?_
  refine g_istore_n (pc := 3) X [(2, .int 0), (1, .int 0), (0, .ref (V.2.2.1 + a0))] rfl (Nat.le_of_ble_eq_true rfl) rfl dX1_greatestModulus_3 ?_
  refine g_sub [2, 1, 0] rfl ?_
  obtain ⟨v5, hi6, h⟩ := bd_e h
  refine tl_Cl_greatestModulus_L4 X k0 hi6 ?_
  refine g_iload_n (pc := 29) X 0 rfl dX1_greatestModulus_29 ?_
  cases h
  exact g_iret (pc := 30) X rfl rfl (hr _ hA) dX1_greatestModulus_30
set_option maxRecDepth 100000 in
theorem run_Cl_greatestModulus {V : Ev} {σ : St} {a0 : Nat} {o : Int32} (k0 : okCl a0)  (h : Cl_greatestModulus σ a0 = some o) : Rs V 1 M_X1_greatestModulus [.ref (V.2.2.1 + a0)] σ (some (.int o), σ) := by
  refine Rs.of (by decide +kernel) (Nat.le_of_ble_eq_true rfl) (fun Γ X => ?_)
  exact tm_Cl_greatestModulus X (A := fun o1 => o1 = o) k0 (fun _ e => by rw [e]) h rfl
theorem dX1_spanOf_0 : decode cX1_spanOf 0 = .ok (.iconst 1, 1) := by decide +kernel
theorem dX1_spanOf_1 : decode cX1_spanOf 1 = .ok (.istore_n 2, 1) := by decide +kernel
theorem dX1_spanOf_2 : decode cX1_spanOf 2 = .ok (.iconst 0, 1) := by decide +kernel
theorem dX1_spanOf_3 : decode cX1_spanOf 3 = .ok (.istore_n 3, 1) := by decide +kernel
theorem dX1_spanOf_4 : decode cX1_spanOf 4 = .ok (.iload_n 3, 1) := by decide +kernel
theorem dX1_spanOf_5 : decode cX1_spanOf 5 = .ok (.aload_n 0, 1) := by decide +kernel
theorem dX1_spanOf_6 : decode cX1_spanOf 6 = .ok (.getfield 22, 3) := by decide +kernel
theorem dX1_spanOf_9 : decode cX1_spanOf 9 = .ok (.if_icmp .ge 59, 3) := by decide +kernel
theorem dX1_spanOf_12 : decode cX1_spanOf 12 = .ok (.iload_n 2, 1) := by decide +kernel
theorem dX1_spanOf_13 : decode cX1_spanOf 13 = .ok (.ifCond .eq 55, 3) := by decide +kernel
theorem dX1_spanOf_16 : decode cX1_spanOf 16 = .ok (.iload_n 1, 1) := by decide +kernel
theorem dX1_spanOf_17 : decode cX1_spanOf 17 = .ok (.iload_n 3, 1) := by decide +kernel
theorem dX1_spanOf_18 : decode cX1_spanOf 18 = .ok (.invokestatic 38, 3) := by decide +kernel
theorem dX1_spanOf_21 : decode cX1_spanOf 21 = .ok (.ifCond .eq 41, 3) := by decide +kernel
theorem dX1_spanOf_24 : decode cX1_spanOf 24 = .ok (.iload_n 2, 1) := by decide +kernel
theorem dX1_spanOf_25 : decode cX1_spanOf 25 = .ok (.aload_n 0, 1) := by decide +kernel
theorem dX1_spanOf_26 : decode cX1_spanOf 26 = .ok (.getfield 15, 3) := by decide +kernel
theorem dX1_spanOf_29 : decode cX1_spanOf 29 = .ok (.iload_n 3, 1) := by decide +kernel
theorem dX1_spanOf_30 : decode cX1_spanOf 30 = .ok (.iaload, 1) := by decide +kernel
theorem dX1_spanOf_31 : decode cX1_spanOf 31 = .ok (.iload_n 2, 1) := by decide +kernel
theorem dX1_spanOf_32 : decode cX1_spanOf 32 = .ok (.i2l, 1) := by decide +kernel
theorem dX1_spanOf_33 : decode cX1_spanOf 33 = .ok (.aload_n 0, 1) := by decide +kernel
theorem dX1_spanOf_34 : decode cX1_spanOf 34 = .ok (.getfield 15, 3) := by decide +kernel
theorem dX1_spanOf_37 : decode cX1_spanOf 37 = .ok (.iload_n 3, 1) := by decide +kernel
theorem dX1_spanOf_38 : decode cX1_spanOf 38 = .ok (.iaload, 1) := by decide +kernel
theorem dX1_spanOf_39 : decode cX1_spanOf 39 = .ok (.i2l, 1) := by decide +kernel
theorem dX1_spanOf_40 : decode cX1_spanOf 40 = .ok (.invokestatic 72, 3) := by decide +kernel
theorem dX1_spanOf_43 : decode cX1_spanOf 43 = .ok (.l2i, 1) := by decide +kernel
theorem dX1_spanOf_44 : decode cX1_spanOf 44 = .ok (.invokestatic 57, 3) := by decide +kernel
theorem dX1_spanOf_47 : decode cX1_spanOf 47 = .ok (.imul, 1) := by decide +kernel
theorem dX1_spanOf_48 : decode cX1_spanOf 48 = .ok (.istore_n 2, 1) := by decide +kernel
theorem dX1_spanOf_49 : decode cX1_spanOf 49 = .ok (.iload_n 2, 1) := by decide +kernel
theorem dX1_spanOf_50 : decode cX1_spanOf 50 = .ok (.sipush 5040, 3) := by decide +kernel
theorem dX1_spanOf_53 : decode cX1_spanOf 53 = .ok (.if_icmp .le 7, 3) := by decide +kernel
theorem dX1_spanOf_56 : decode cX1_spanOf 56 = .ok (.iconst 0, 1) := by decide +kernel
theorem dX1_spanOf_57 : decode cX1_spanOf 57 = .ok (.goto 4, 3) := by decide +kernel
theorem dX1_spanOf_60 : decode cX1_spanOf 60 = .ok (.iload_n 2, 1) := by decide +kernel
theorem dX1_spanOf_61 : decode cX1_spanOf 61 = .ok (.istore_n 2, 1) := by decide +kernel
theorem dX1_spanOf_62 : decode cX1_spanOf 62 = .ok (.iinc 3 1, 3) := by decide +kernel
theorem dX1_spanOf_65 : decode cX1_spanOf 65 = .ok (.goto (-61), 3) := by decide +kernel
theorem dX1_spanOf_68 : decode cX1_spanOf 68 = .ok (.iload_n 2, 1) := by decide +kernel
theorem dX1_spanOf_69 : decode cX1_spanOf 69 = .ok (.ireturn, 1) := by decide +kernel
noncomputable def Cl_spanOf_L4 (l0 : Nat) (l1 : Int32) (σ : St) (x2 : Int32) (x3 : Int32) : Option ((Int32 × Int32) ⊕ Int32) :=
  if (σ.1 l0 3) ≤ x3 then (some (.inr x2)) else (if x2 = 0 then (some (.inr x2)) else (bd (RC_isIn l1 x3) (fun r2 => if r2 = 0 then (bnd (x3 + 1) (fun v3 => some (.inl (x2, v3)))) else (chk (ix x3 12) (chk (ix x3 12) (bd (RC_commonDivisor x2.toInt64 ((σ.1 (l0 + 2) (tn x3)).toInt64)) (fun r7 => bd (RC_partBy_ (σ.1 (l0 + 2) (tn x3)) r7.toInt32) (fun r9 => bnd ((x2 * r9)) (fun v10 => if v10 ≤ 5040 then (bnd (x3 + 1) (fun v11 => some (.inl (v10, v11)))) else (bnd (x3 + 1) (fun v12 => some (.inl (0, v12)))))))))))))
set_option maxRecDepth 100000 in
set_option maxHeartbeats 4000000 in
theorem tb_Cl_spanOf_L4 {V : Ev} {Γ : Cn} {fin : Option Value × St} {l0 : Nat} {l1 : Int32} {σ : St} {x2 : Int32} {x3 : Int32} {o : ((Int32 × Int32) ⊕ Int32)} (X : Cx V Γ M_X1_spanOf) {A : ((Int32 × Int32) ⊕ Int32) → Prop} (k_l0 : okCl l0) (hb4 : ∀ (x2 : Int32) (x3 : Int32), A (.inl (x2, x3)) → Go V Γ M_X1_spanOf (Zm V Γ 1 fin) 4 [(0, .ref (V.2.2.1 + l0)), (1, .int l1), (2, .int x2), (3, .int x3)] [] σ) (hx4 : ∀ (x2 : Int32), A (.inr x2) → Go V Γ M_X1_spanOf (Zm V Γ 1 fin) 68 [(2, .int x2)] [] σ) (h : Cl_spanOf_L4 l0 l1 σ x2 x3 = some o) (hA : A o) : Go V Γ M_X1_spanOf (Zm V Γ 1 fin) 4 [(0, .ref (V.2.2.1 + l0)), (1, .int l1), (2, .int x2), (3, .int x3)] [] σ := by
  unfold Cl_spanOf_L4 at h
  refine g_iload_n (pc := 4) X 3 rfl dX1_spanOf_4 ?_
  refine g_aload_n (pc := 5) X 0 rfl dX1_spanOf_5 ?_
  refine g_getI (pc := 6) X k_fl_X1_22 (sCl_0 k_l0) rfl dX1_spanOf_6 ?_
  refine g_icmp_ge (pc := 9) (tgt := 68) X dX1_spanOf_9 rfl (fun c16 => ?_) (fun c16 => ?_)
  · replace h := if_t c16 h
    refine g_sub [2] rfl ?_
    cases h
    exact hx4 _ hA
  · replace h := if_f c16 h
    refine g_iload_n (pc := 12) X 2 rfl dX1_spanOf_12 ?_
    refine g_if_eq (pc := 13) (tgt := 68) X dX1_spanOf_13 rfl (fun c15 => ?_) (fun c15 => ?_)
    · replace h := if_t c15 h
      refine g_sub [2] rfl ?_
      cases h
      exact hx4 _ hA
    · replace h := if_f c15 h
      refine g_iload_n (pc := 16) X 1 rfl dX1_spanOf_16 ?_
      refine g_iload_n (pc := 17) X 3 rfl dX1_spanOf_17 ?_
      obtain ⟨r2, hc1, h⟩ := bd_e h
      refine g_callS (pc := 18) X k_ml_X1_38 (run_RC_isIn  hc1) rfl (room_ok (Nat.le_of_ble_eq_true rfl) (Nat.le_of_ble_eq_true rfl)) ⟨Nat.le_refl _, Nat.le_refl _⟩ _ rfl (Nat.le_of_ble_eq_true rfl) dX1_spanOf_18 ?_
      show Go V Γ M_X1_spanOf (Zm V Γ 1 fin) 21 [(0, .ref (V.2.2.1 + l0)), (1, .int l1), (2, .int x2), (3, .int x3)] [.int r2] σ
      refine g_if_eq (pc := 21) (tgt := 62) X dX1_spanOf_21 rfl (fun c14 => ?_) (fun c14 => ?_)
      · replace h := if_t c14 h
        obtain ⟨v3, e_v3, h⟩ := bnd_e h
        refine g_iinc (pc := 62) (v := v3) X [(3, .int v3), (0, .ref (V.2.2.1 + l0)), (1, .int l1), (2, .int x2)] 3 rfl (by rw [e_v3]; rfl) (Nat.le_of_ble_eq_true rfl) rfl dX1_spanOf_62 ?_
        refine g_goto (pc := 65) (tgt := 4) X dX1_spanOf_65 rfl ?_
        refine g_sub [1, 2, 3, 0] rfl ?_
        cases h
        exact hb4 _ _ hA
      · replace h := if_f c14 h
        refine g_iload_n (pc := 24) X 2 rfl dX1_spanOf_24 ?_
        refine g_aload_n (pc := 25) X 0 rfl dX1_spanOf_25 ?_
        refine g_getR (r := (l0 + 2)) (pc := 26) X k_fl_X1_15 (sCl_0 k_l0) rfl dX1_spanOf_26 ?_
        refine g_iload_n (pc := 29) X 3 rfl dX1_spanOf_29 ?_
        obtain ⟨c4, h⟩ := chk_e h
        refine g_iald (pc := 30) X (sCl_2 k_l0) c4 dX1_spanOf_30 ?_
        refine g_iload_n (pc := 31) X 2 rfl dX1_spanOf_31 ?_
        refine g_i2l (pc := 32) X dX1_spanOf_32 ?_
        refine g_aload_n (pc := 33) X 0 rfl dX1_spanOf_33 ?_
        refine g_getR (r := (l0 + 2)) (pc := 34) X k_fl_X1_15 (sCl_0 k_l0) rfl dX1_spanOf_34 ?_
        refine g_iload_n (pc := 37) X 3 rfl dX1_spanOf_37 ?_
        obtain ⟨c5, h⟩ := chk_e h
        refine g_iald (pc := 38) X (sCl_2 k_l0) c5 dX1_spanOf_38 ?_
        refine g_i2l (pc := 39) X dX1_spanOf_39 ?_
        obtain ⟨r7, hc6, h⟩ := bd_e h
        refine g_callS (pc := 40) X k_ml_X1_72 (run_RC_commonDivisor  hc6) rfl (room_ok (Nat.le_of_ble_eq_true rfl) (Nat.le_of_ble_eq_true rfl)) ⟨Nat.le_refl _, Nat.le_refl _⟩ _ rfl (Nat.le_of_ble_eq_true rfl) dX1_spanOf_40 ?_
        show Go V Γ M_X1_spanOf (Zm V Γ 1 fin) 43 [(0, .ref (V.2.2.1 + l0)), (1, .int l1), (2, .int x2), (3, .int x3)] [.long r7, .int (σ.1 (l0 + 2) (tn x3)), .int x2] σ
        refine g_l2i (pc := 43) X dX1_spanOf_43 ?_
        obtain ⟨r9, hc8, h⟩ := bd_e h
        refine g_callS (pc := 44) X k_ml_X1_57 (run_RC_partBy_  hc8) rfl (room_ok (Nat.le_of_ble_eq_true rfl) (Nat.le_of_ble_eq_true rfl)) ⟨Nat.le_refl _, Nat.le_refl _⟩ _ rfl (Nat.le_of_ble_eq_true rfl) dX1_spanOf_44 ?_
        show Go V Γ M_X1_spanOf (Zm V Γ 1 fin) 47 [(0, .ref (V.2.2.1 + l0)), (1, .int l1), (2, .int x2), (3, .int x3)] [.int r9, .int x2] σ
        refine g_imul (pc := 47) X dX1_spanOf_47 ?_
        obtain ⟨v10, e_v10, h⟩ := bnd_e h
        refine g_nmI e_v10 ?_
        refine g_istore_n (pc := 48) X [(2, .int v10), (0, .ref (V.2.2.1 + l0)), (1, .int l1), (3, .int x3)] rfl (Nat.le_of_ble_eq_true rfl) rfl dX1_spanOf_48 ?_
        refine g_iload_n (pc := 49) X 0 rfl dX1_spanOf_49 ?_
        refine g_sipush (v := 5040) (pc := 50) X (by decide) dX1_spanOf_50 ?_
        refine g_icmp_le (pc := 53) (tgt := 60) X dX1_spanOf_53 rfl (fun c13 => ?_) (fun c13 => ?_)
        · replace h := if_t c13 h
          refine g_iload_n (pc := 60) X 0 rfl dX1_spanOf_60 ?_
          refine g_istore_n (pc := 61) X [(2, .int v10), (0, .ref (V.2.2.1 + l0)), (1, .int l1), (3, .int x3)] rfl (Nat.le_of_ble_eq_true rfl) rfl dX1_spanOf_61 ?_
          obtain ⟨v11, e_v11, h⟩ := bnd_e h
          refine g_iinc (pc := 62) (v := v11) X [(3, .int v11), (2, .int v10), (0, .ref (V.2.2.1 + l0)), (1, .int l1)] 3 rfl (by rw [e_v11]; rfl) (Nat.le_of_ble_eq_true rfl) rfl dX1_spanOf_62 ?_
          refine g_goto (pc := 65) (tgt := 4) X dX1_spanOf_65 rfl ?_
          refine g_sub [2, 3, 1, 0] rfl ?_
          cases h
          exact hb4 _ _ hA
        · replace h := if_f c13 h
          refine g_iconst (v := 0) (pc := 56) X rfl dX1_spanOf_56 ?_
          refine g_goto (pc := 57) (tgt := 61) X dX1_spanOf_57 rfl ?_
          refine g_istore_n (pc := 61) X [(2, .int 0), (0, .ref (V.2.2.1 + l0)), (1, .int l1), (3, .int x3)] rfl (Nat.le_of_ble_eq_true rfl) rfl dX1_spanOf_61 ?_
          obtain ⟨v12, e_v12, h⟩ := bnd_e h
          refine g_iinc (pc := 62) (v := v12) X [(3, .int v12), (2, .int 0), (0, .ref (V.2.2.1 + l0)), (1, .int l1)] 3 rfl (by rw [e_v12]; rfl) (Nat.le_of_ble_eq_true rfl) rfl dX1_spanOf_62 ?_
          refine g_goto (pc := 65) (tgt := 4) X dX1_spanOf_65 rfl ?_
          refine g_sub [2, 3, 1, 0] rfl ?_
          cases h
          exact hb4 _ _ hA
set_option maxRecDepth 100000 in
theorem tl_Cl_spanOf_L4 {V : Ev} {Γ : Cn} {fin : Option Value × St} {l0 : Nat} {l1 : Int32} {σ : St} {x2 : Int32} {x3 : Int32} (X : Cx V Γ M_X1_spanOf) (k_l0 : okCl l0) {y2 : Int32} {n : Nat} (h : iter (fun s : (Int32 × Int32) => Cl_spanOf_L4 l0 l1 σ s.1 s.2) n (x2, x3) = some y2) (hK : Go V Γ M_X1_spanOf (Zm V Γ 1 fin) 68 [(2, .int y2)] [] σ) : Go V Γ M_X1_spanOf (Zm V Γ 1 fin) 4 [(0, .ref (V.2.2.1 + l0)), (1, .int l1), (2, .int x2), (3, .int x3)] [] σ := by
  refine iter_go (G := (fun s : (Int32 × Int32) => Go V Γ M_X1_spanOf (Zm V Γ 1 fin) 4 [(0, .ref (V.2.2.1 + l0)), (1, .int l1), (2, .int s.1), (3, .int s.2)] [] σ)) (fun s o ho hS => ?_) n (x2, x3) h
  exact tb_Cl_spanOf_L4 X k_l0 (fun _ _ h9 => h9) (fun _ he => by cases he; exact hK) ho hS
noncomputable def Cl_spanOf (σ : St) (a0 : Nat) (p1 : Int32) : Option Int32 :=
  bd (iter (fun s : (Int32 × Int32) => Cl_spanOf_L4 a0 p1 σ s.1 s.2) FUEL (1, 0)) (fun v17 => some v17)
set_option maxRecDepth 100000 in
set_option maxHeartbeats 4000000 in
theorem tm_Cl_spanOf {V : Ev} {Γ : Cn} {fin : Option Value × St} {σ : St} {a0 : Nat} {p1 : Int32} {o : Int32} (X : Cx V Γ M_X1_spanOf) {A : Int32 → Prop} (k0 : okCl a0) (hr : ∀ (r : Int32), A r → (some (.int r), σ) = fin) (h : Cl_spanOf σ a0 p1 = some o) (hA : A o) : Go V Γ M_X1_spanOf (Zm V Γ 1 fin) 0 [(0, .ref (V.2.2.1 + a0)), (1, .int p1)] [] σ := by
  unfold Cl_spanOf at h
  refine g_iconst (v := 1) (pc := 0) X rfl dX1_spanOf_0 ?_
  refine g_istore_n (pc := 1) X [(2, .int 1), (0, .ref (V.2.2.1 + a0)), (1, .int p1)] rfl (Nat.le_of_ble_eq_true rfl) rfl dX1_spanOf_1 ?_
  refine g_iconst (v := 0) (pc := 2) X rfl dX1_spanOf_2 ?_
  refine g_istore_n (pc := 3) X [(3, .int 0), (2, .int 1), (0, .ref (V.2.2.1 + a0)), (1, .int p1)] rfl (Nat.le_of_ble_eq_true rfl) rfl dX1_spanOf_3 ?_
  refine g_sub [2, 3, 1, 0] rfl ?_
  obtain ⟨v17, hi18, h⟩ := bd_e h
  refine tl_Cl_spanOf_L4 X k0 hi18 ?_
  refine g_iload_n (pc := 68) X 0 rfl dX1_spanOf_68 ?_
  cases h
  exact g_iret (pc := 69) X rfl rfl (hr _ hA) dX1_spanOf_69
set_option maxRecDepth 100000 in
theorem run_Cl_spanOf {V : Ev} {σ : St} {a0 : Nat} {p1 : Int32} {o : Int32} (k0 : okCl a0)  (h : Cl_spanOf σ a0 p1 = some o) : Rs V 1 M_X1_spanOf [.ref (V.2.2.1 + a0), .int p1] σ (some (.int o), σ) := by
  refine Rs.of (by decide +kernel) (Nat.le_of_ble_eq_true rfl) (fun Γ X => ?_)
  exact tm_Cl_spanOf X (A := fun o1 => o1 = o) k0 (fun _ e => by rw [e]) h rfl
theorem dX1_takes_0 : decode cX1_takes 0 = .ok (.iload_n 2, 1) := by decide +kernel
theorem dX1_takes_1 : decode cX1_takes 1 = .ok (.aload_n 0, 1) := by decide +kernel
theorem dX1_takes_2 : decode cX1_takes 2 = .ok (.getfield 15, 3) := by decide +kernel
theorem dX1_takes_5 : decode cX1_takes 5 = .ok (.iload_n 1, 1) := by decide +kernel
theorem dX1_takes_6 : decode cX1_takes 6 = .ok (.iaload, 1) := by decide +kernel
theorem dX1_takes_7 : decode cX1_takes 7 = .ok (.invokestatic 42, 3) := by decide +kernel
theorem dX1_takes_10 : decode cX1_takes 10 = .ok (.aload_n 0, 1) := by decide +kernel
theorem dX1_takes_11 : decode cX1_takes 11 = .ok (.getfield 9, 3) := by decide +kernel
theorem dX1_takes_14 : decode cX1_takes 14 = .ok (.iload_n 1, 1) := by decide +kernel
theorem dX1_takes_15 : decode cX1_takes 15 = .ok (.iaload, 1) := by decide +kernel
theorem dX1_takes_16 : decode cX1_takes 16 = .ok (.if_icmp .ne 7, 3) := by decide +kernel
theorem dX1_takes_19 : decode cX1_takes 19 = .ok (.iconst 1, 1) := by decide +kernel
theorem dX1_takes_20 : decode cX1_takes 20 = .ok (.goto 4, 3) := by decide +kernel
theorem dX1_takes_23 : decode cX1_takes 23 = .ok (.iconst 0, 1) := by decide +kernel
theorem dX1_takes_24 : decode cX1_takes 24 = .ok (.ireturn, 1) := by decide +kernel
noncomputable def Cl_takes (σ : St) (a0 : Nat) (p1 : Int32) (p2 : Int32) : Option Int32 :=
  chk (ix p1 12) (bd (RC_leftBy p2 (σ.1 (a0 + 2) (tn p1))) (fun r3 => chk (ix p1 12) (if r3 = (σ.1 (a0 + 1) (tn p1)) then (some 1) else (some 0))))
set_option maxRecDepth 100000 in
set_option maxHeartbeats 4000000 in
theorem tm_Cl_takes {V : Ev} {Γ : Cn} {fin : Option Value × St} {σ : St} {a0 : Nat} {p1 : Int32} {p2 : Int32} {o : Int32} (X : Cx V Γ M_X1_takes) {A : Int32 → Prop} (k0 : okCl a0) (hr : ∀ (r : Int32), A r → (some (.int r), σ) = fin) (h : Cl_takes σ a0 p1 p2 = some o) (hA : A o) : Go V Γ M_X1_takes (Zm V Γ 1 fin) 0 [(0, .ref (V.2.2.1 + a0)), (1, .int p1), (2, .int p2)] [] σ := by
  unfold Cl_takes at h
  refine g_iload_n (pc := 0) X 2 rfl dX1_takes_0 ?_
  refine g_aload_n (pc := 1) X 0 rfl dX1_takes_1 ?_
  refine g_getR (r := (a0 + 2)) (pc := 2) X k_fl_X1_15 (sCl_0 k0) rfl dX1_takes_2 ?_
  refine g_iload_n (pc := 5) X 1 rfl dX1_takes_5 ?_
  obtain ⟨c1, h⟩ := chk_e h
  refine g_iald (pc := 6) X (sCl_2 k0) c1 dX1_takes_6 ?_
  obtain ⟨r3, hc2, h⟩ := bd_e h
  refine g_callS (pc := 7) X k_ml_X1_42 (run_RC_leftBy  hc2) rfl (room_ok (Nat.le_of_ble_eq_true rfl) (Nat.le_of_ble_eq_true rfl)) ⟨Nat.le_refl _, Nat.le_refl _⟩ _ rfl (Nat.le_of_ble_eq_true rfl) dX1_takes_7 ?_
  show Go V Γ M_X1_takes (Zm V Γ 1 fin) 10 [(0, .ref (V.2.2.1 + a0)), (1, .int p1), (2, .int p2)] [.int r3] σ
  refine g_aload_n (pc := 10) X 0 rfl dX1_takes_10 ?_
  refine g_getR (r := (a0 + 1)) (pc := 11) X k_fl_X1_9 (sCl_0 k0) rfl dX1_takes_11 ?_
  refine g_iload_n (pc := 14) X 1 rfl dX1_takes_14 ?_
  obtain ⟨c4, h⟩ := chk_e h
  refine g_iald (pc := 15) X (sCl_1 k0) c4 dX1_takes_15 ?_
  refine g_icmp_ne (pc := 16) (tgt := 23) X dX1_takes_16 rfl (fun c5 => ?_) (fun c5 => ?_)
  · replace h := if_f c5 h
    refine g_iconst (v := 0) (pc := 23) X rfl dX1_takes_23 ?_
    cases h
    exact g_iret (pc := 24) X rfl nz0.1 (hr _ hA) dX1_takes_24
  · replace h := if_t c5 h
    refine g_iconst (v := 1) (pc := 19) X rfl dX1_takes_19 ?_
    refine g_goto (pc := 20) (tgt := 24) X dX1_takes_20 rfl ?_
    cases h
    exact g_iret (pc := 24) X rfl nz1.1 (hr _ hA) dX1_takes_24
set_option maxRecDepth 100000 in
theorem run_Cl_takes {V : Ev} {σ : St} {a0 : Nat} {p1 : Int32} {p2 : Int32} {o : Int32} (k0 : okCl a0)  (h : Cl_takes σ a0 p1 p2 = some o) : Rs V 1 M_X1_takes [.ref (V.2.2.1 + a0), .int p1, .int p2] σ (some (.int o), σ) := by
  refine Rs.of (by decide +kernel) (Nat.le_of_ble_eq_true rfl) (fun Γ X => ?_)
  exact tm_Cl_takes X (A := fun o1 => o1 = o) k0 (fun _ e => by rw [e]) h rfl
theorem dX1_catchers_0 : decode cX1_catchers 0 = .ok (.iconst 0, 1) := by decide +kernel
theorem dX1_catchers_1 : decode cX1_catchers 1 = .ok (.istore_n 2, 1) := by decide +kernel
theorem dX1_catchers_2 : decode cX1_catchers 2 = .ok (.iconst 0, 1) := by decide +kernel
theorem dX1_catchers_3 : decode cX1_catchers 3 = .ok (.istore_n 3, 1) := by decide +kernel
theorem dX1_catchers_4 : decode cX1_catchers 4 = .ok (.iload_n 3, 1) := by decide +kernel
theorem dX1_catchers_5 : decode cX1_catchers 5 = .ok (.aload_n 0, 1) := by decide +kernel
theorem dX1_catchers_6 : decode cX1_catchers 6 = .ok (.getfield 22, 3) := by decide +kernel
theorem dX1_catchers_9 : decode cX1_catchers 9 = .ok (.if_icmp .ge 32, 3) := by decide +kernel
theorem dX1_catchers_12 : decode cX1_catchers 12 = .ok (.aload_n 0, 1) := by decide +kernel
theorem dX1_catchers_13 : decode cX1_catchers 13 = .ok (.iload_n 3, 1) := by decide +kernel
theorem dX1_catchers_14 : decode cX1_catchers 14 = .ok (.invokevirtual 50, 3) := by decide +kernel
theorem dX1_catchers_17 : decode cX1_catchers 17 = .ok (.ifCond .eq 18, 3) := by decide +kernel
theorem dX1_catchers_20 : decode cX1_catchers 20 = .ok (.aload_n 0, 1) := by decide +kernel
theorem dX1_catchers_21 : decode cX1_catchers 21 = .ok (.iload_n 3, 1) := by decide +kernel
theorem dX1_catchers_22 : decode cX1_catchers 22 = .ok (.iload_n 1, 1) := by decide +kernel
theorem dX1_catchers_23 : decode cX1_catchers 23 = .ok (.invokevirtual 76, 3) := by decide +kernel
theorem dX1_catchers_26 : decode cX1_catchers 26 = .ok (.ifCond .eq 9, 3) := by decide +kernel
theorem dX1_catchers_29 : decode cX1_catchers 29 = .ok (.iload_n 2, 1) := by decide +kernel
theorem dX1_catchers_30 : decode cX1_catchers 30 = .ok (.iconst 1, 1) := by decide +kernel
theorem dX1_catchers_31 : decode cX1_catchers 31 = .ok (.iload_n 3, 1) := by decide +kernel
theorem dX1_catchers_32 : decode cX1_catchers 32 = .ok (.ishl, 1) := by decide +kernel
theorem dX1_catchers_33 : decode cX1_catchers 33 = .ok (.ior, 1) := by decide +kernel
theorem dX1_catchers_34 : decode cX1_catchers 34 = .ok (.istore_n 2, 1) := by decide +kernel
theorem dX1_catchers_35 : decode cX1_catchers 35 = .ok (.iinc 3 1, 3) := by decide +kernel
theorem dX1_catchers_38 : decode cX1_catchers 38 = .ok (.goto (-34), 3) := by decide +kernel
theorem dX1_catchers_41 : decode cX1_catchers 41 = .ok (.iload_n 2, 1) := by decide +kernel
theorem dX1_catchers_42 : decode cX1_catchers 42 = .ok (.ireturn, 1) := by decide +kernel
noncomputable def Cl_catchers_L4 (l0 : Nat) (l1 : Int32) (σ : St) (x2 : Int32) (x3 : Int32) : Option ((Int32 × Int32) ⊕ Int32) :=
  if (σ.1 l0 3) ≤ x3 then (some (.inr x2)) else (bd (Cl_isOn σ l0 x3) (fun r2 => if r2 = 0 then (bnd (x3 + 1) (fun v3 => some (.inl (x2, v3)))) else (bd (Cl_takes σ l0 x3 l1) (fun r5 => if r5 = 0 then (bnd (x3 + 1) (fun v6 => some (.inl (x2, v6)))) else (bnd ((x2 ||| (1 <<< (x3 &&& 31)))) (fun v7 => bnd (x3 + 1) (fun v8 => some (.inl (v7, v8)))))))))
set_option maxRecDepth 100000 in
set_option maxHeartbeats 4000000 in
theorem tb_Cl_catchers_L4 {V : Ev} {Γ : Cn} {fin : Option Value × St} {l0 : Nat} {l1 : Int32} {σ : St} {x2 : Int32} {x3 : Int32} {o : ((Int32 × Int32) ⊕ Int32)} (X : Cx V Γ M_X1_catchers) {A : ((Int32 × Int32) ⊕ Int32) → Prop} (k_l0 : okCl l0) (hb4 : ∀ (x2 : Int32) (x3 : Int32), A (.inl (x2, x3)) → Go V Γ M_X1_catchers (Zm V Γ 2 fin) 4 [(0, .ref (V.2.2.1 + l0)), (1, .int l1), (2, .int x2), (3, .int x3)] [] σ) (hx4 : ∀ (x2 : Int32), A (.inr x2) → Go V Γ M_X1_catchers (Zm V Γ 2 fin) 41 [(2, .int x2)] [] σ) (h : Cl_catchers_L4 l0 l1 σ x2 x3 = some o) (hA : A o) : Go V Γ M_X1_catchers (Zm V Γ 2 fin) 4 [(0, .ref (V.2.2.1 + l0)), (1, .int l1), (2, .int x2), (3, .int x3)] [] σ := by
  unfold Cl_catchers_L4 at h
  refine g_iload_n (pc := 4) X 3 rfl dX1_catchers_4 ?_
  refine g_aload_n (pc := 5) X 0 rfl dX1_catchers_5 ?_
  refine g_getI (pc := 6) X k_fl_X1_22 (sCl_0 k_l0) rfl dX1_catchers_6 ?_
  refine g_icmp_ge (pc := 9) (tgt := 41) X dX1_catchers_9 rfl (fun c11 => ?_) (fun c11 => ?_)
  · replace h := if_t c11 h
    refine g_sub [2] rfl ?_
    cases h
    exact hx4 _ hA
  · replace h := if_f c11 h
    refine g_aload_n (pc := 12) X 0 rfl dX1_catchers_12 ?_
    refine g_iload_n (pc := 13) X 3 rfl dX1_catchers_13 ?_
    obtain ⟨r2, hc1, h⟩ := bd_e h
    refine g_callV (pc := 14) X k_ml_X1_50 (run_Cl_isOn k_l0 hc1) (sCl_0 k_l0) rfl (room_ok (Nat.le_of_ble_eq_true rfl) (Nat.le_of_ble_eq_true rfl)) ⟨Nat.le_refl _, Nat.le_refl _⟩ _ rfl (Nat.le_of_ble_eq_true rfl) dX1_catchers_14 ?_
    show Go V Γ M_X1_catchers (Zm V Γ 2 fin) 17 [(0, .ref (V.2.2.1 + l0)), (1, .int l1), (2, .int x2), (3, .int x3)] [.int r2] σ
    refine g_if_eq (pc := 17) (tgt := 35) X dX1_catchers_17 rfl (fun c10 => ?_) (fun c10 => ?_)
    · replace h := if_t c10 h
      obtain ⟨v3, e_v3, h⟩ := bnd_e h
      refine g_iinc (pc := 35) (v := v3) X [(3, .int v3), (0, .ref (V.2.2.1 + l0)), (1, .int l1), (2, .int x2)] 3 rfl (by rw [e_v3]; rfl) (Nat.le_of_ble_eq_true rfl) rfl dX1_catchers_35 ?_
      refine g_goto (pc := 38) (tgt := 4) X dX1_catchers_38 rfl ?_
      refine g_sub [1, 2, 3, 0] rfl ?_
      cases h
      exact hb4 _ _ hA
    · replace h := if_f c10 h
      refine g_aload_n (pc := 20) X 0 rfl dX1_catchers_20 ?_
      refine g_iload_n (pc := 21) X 3 rfl dX1_catchers_21 ?_
      refine g_iload_n (pc := 22) X 1 rfl dX1_catchers_22 ?_
      obtain ⟨r5, hc4, h⟩ := bd_e h
      refine g_callV (pc := 23) X k_ml_X1_76 (run_Cl_takes k_l0 hc4) (sCl_0 k_l0) rfl (room_ok (Nat.le_of_ble_eq_true rfl) (Nat.le_of_ble_eq_true rfl)) ⟨Nat.le_refl _, Nat.le_refl _⟩ _ rfl (Nat.le_of_ble_eq_true rfl) dX1_catchers_23 ?_
      show Go V Γ M_X1_catchers (Zm V Γ 2 fin) 26 [(0, .ref (V.2.2.1 + l0)), (1, .int l1), (2, .int x2), (3, .int x3)] [.int r5] σ
      refine g_if_eq (pc := 26) (tgt := 35) X dX1_catchers_26 rfl (fun c9 => ?_) (fun c9 => ?_)
      · replace h := if_t c9 h
        obtain ⟨v6, e_v6, h⟩ := bnd_e h
        refine g_iinc (pc := 35) (v := v6) X [(3, .int v6), (0, .ref (V.2.2.1 + l0)), (1, .int l1), (2, .int x2)] 3 rfl (by rw [e_v6]; rfl) (Nat.le_of_ble_eq_true rfl) rfl dX1_catchers_35 ?_
        refine g_goto (pc := 38) (tgt := 4) X dX1_catchers_38 rfl ?_
        refine g_sub [1, 2, 3, 0] rfl ?_
        cases h
        exact hb4 _ _ hA
      · replace h := if_f c9 h
        refine g_iload_n (pc := 29) X 2 rfl dX1_catchers_29 ?_
        refine g_iconst (v := 1) (pc := 30) X rfl dX1_catchers_30 ?_
        refine g_iload_n (pc := 31) X 3 rfl dX1_catchers_31 ?_
        refine g_ishl (pc := 32) X dX1_catchers_32 ?_
        refine g_ior (pc := 33) X dX1_catchers_33 ?_
        obtain ⟨v7, e_v7, h⟩ := bnd_e h
        refine g_nmI e_v7 ?_
        refine g_istore_n (pc := 34) X [(2, .int v7), (0, .ref (V.2.2.1 + l0)), (1, .int l1), (3, .int x3)] rfl (Nat.le_of_ble_eq_true rfl) rfl dX1_catchers_34 ?_
        obtain ⟨v8, e_v8, h⟩ := bnd_e h
        refine g_iinc (pc := 35) (v := v8) X [(3, .int v8), (2, .int v7), (0, .ref (V.2.2.1 + l0)), (1, .int l1)] 3 rfl (by rw [e_v8]; rfl) (Nat.le_of_ble_eq_true rfl) rfl dX1_catchers_35 ?_
        refine g_goto (pc := 38) (tgt := 4) X dX1_catchers_38 rfl ?_
        refine g_sub [2, 3, 1, 0] rfl ?_
        cases h
        exact hb4 _ _ hA
set_option maxRecDepth 100000 in
theorem tl_Cl_catchers_L4 {V : Ev} {Γ : Cn} {fin : Option Value × St} {l0 : Nat} {l1 : Int32} {σ : St} {x2 : Int32} {x3 : Int32} (X : Cx V Γ M_X1_catchers) (k_l0 : okCl l0) {y2 : Int32} {n : Nat} (h : iter (fun s : (Int32 × Int32) => Cl_catchers_L4 l0 l1 σ s.1 s.2) n (x2, x3) = some y2) (hK : Go V Γ M_X1_catchers (Zm V Γ 2 fin) 41 [(2, .int y2)] [] σ) : Go V Γ M_X1_catchers (Zm V Γ 2 fin) 4 [(0, .ref (V.2.2.1 + l0)), (1, .int l1), (2, .int x2), (3, .int x3)] [] σ := by
  refine iter_go (G := (fun s : (Int32 × Int32) => Go V Γ M_X1_catchers (Zm V Γ 2 fin) 4 [(0, .ref (V.2.2.1 + l0)), (1, .int l1), (2, .int s.1), (3, .int s.2)] [] σ)) (fun s o ho hS => ?_) n (x2, x3) h
  exact tb_Cl_catchers_L4 X k_l0 (fun _ _ h9 => h9) (fun _ he => by cases he; exact hK) ho hS
noncomputable def Cl_catchers (σ : St) (a0 : Nat) (p1 : Int32) : Option Int32 :=
  bd (iter (fun s : (Int32 × Int32) => Cl_catchers_L4 a0 p1 σ s.1 s.2) FUEL (0, 0)) (fun v12 => some v12)
set_option maxRecDepth 100000 in
set_option maxHeartbeats 4000000 in
theorem tm_Cl_catchers {V : Ev} {Γ : Cn} {fin : Option Value × St} {σ : St} {a0 : Nat} {p1 : Int32} {o : Int32} (X : Cx V Γ M_X1_catchers) {A : Int32 → Prop} (k0 : okCl a0) (hr : ∀ (r : Int32), A r → (some (.int r), σ) = fin) (h : Cl_catchers σ a0 p1 = some o) (hA : A o) : Go V Γ M_X1_catchers (Zm V Γ 2 fin) 0 [(0, .ref (V.2.2.1 + a0)), (1, .int p1)] [] σ := by
  unfold Cl_catchers at h
  refine g_iconst (v := 0) (pc := 0) X rfl dX1_catchers_0 ?_
  refine g_istore_n (pc := 1) X [(2, .int 0), (0, .ref (V.2.2.1 + a0)), (1, .int p1)] rfl (Nat.le_of_ble_eq_true rfl) rfl dX1_catchers_1 ?_
  refine g_iconst (v := 0) (pc := 2) X rfl dX1_catchers_2 ?_
  refine g_istore_n (pc := 3) X [(3, .int 0), (2, .int 0), (0, .ref (V.2.2.1 + a0)), (1, .int p1)] rfl (Nat.le_of_ble_eq_true rfl) rfl dX1_catchers_3 ?_
  refine g_sub [2, 3, 1, 0] rfl ?_
  obtain ⟨v12, hi13, h⟩ := bd_e h
  refine tl_Cl_catchers_L4 X k0 hi13 ?_
  refine g_iload_n (pc := 41) X 0 rfl dX1_catchers_41 ?_
  cases h
  exact g_iret (pc := 42) X rfl rfl (hr _ hA) dX1_catchers_42
set_option maxRecDepth 100000 in
theorem run_Cl_catchers {V : Ev} {σ : St} {a0 : Nat} {p1 : Int32} {o : Int32} (k0 : okCl a0)  (h : Cl_catchers σ a0 p1 = some o) : Rs V 2 M_X1_catchers [.ref (V.2.2.1 + a0), .int p1] σ (some (.int o), σ) := by
  refine Rs.of (by decide +kernel) (Nat.le_of_ble_eq_true rfl) (fun Γ X => ?_)
  exact tm_Cl_catchers X (A := fun o1 => o1 = o) k0 (fun _ e => by rw [e]) h rfl
theorem dX1_leastModulusOf_0 : decode cX1_leastModulusOf 0 = .ok (.iconst (-1), 1) := by decide +kernel
theorem dX1_leastModulusOf_1 : decode cX1_leastModulusOf 1 = .ok (.istore_n 2, 1) := by decide +kernel
theorem dX1_leastModulusOf_2 : decode cX1_leastModulusOf 2 = .ok (.iconst 0, 1) := by decide +kernel
theorem dX1_leastModulusOf_3 : decode cX1_leastModulusOf 3 = .ok (.istore_n 3, 1) := by decide +kernel
theorem dX1_leastModulusOf_4 : decode cX1_leastModulusOf 4 = .ok (.iload_n 3, 1) := by decide +kernel
theorem dX1_leastModulusOf_5 : decode cX1_leastModulusOf 5 = .ok (.aload_n 0, 1) := by decide +kernel
theorem dX1_leastModulusOf_6 : decode cX1_leastModulusOf 6 = .ok (.getfield 22, 3) := by decide +kernel
theorem dX1_leastModulusOf_9 : decode cX1_leastModulusOf 9 = .ok (.if_icmp .ge 39, 3) := by decide +kernel
theorem dX1_leastModulusOf_12 : decode cX1_leastModulusOf 12 = .ok (.iload_n 1, 1) := by decide +kernel
theorem dX1_leastModulusOf_13 : decode cX1_leastModulusOf 13 = .ok (.iload_n 3, 1) := by decide +kernel
theorem dX1_leastModulusOf_14 : decode cX1_leastModulusOf 14 = .ok (.invokestatic 38, 3) := by decide +kernel
theorem dX1_leastModulusOf_17 : decode cX1_leastModulusOf 17 = .ok (.ifCond .eq 25, 3) := by decide +kernel
theorem dX1_leastModulusOf_20 : decode cX1_leastModulusOf 20 = .ok (.iload_n 2, 1) := by decide +kernel
theorem dX1_leastModulusOf_21 : decode cX1_leastModulusOf 21 = .ok (.iconst (-1), 1) := by decide +kernel
theorem dX1_leastModulusOf_22 : decode cX1_leastModulusOf 22 = .ok (.if_icmp .eq 18, 3) := by decide +kernel
theorem dX1_leastModulusOf_25 : decode cX1_leastModulusOf 25 = .ok (.aload_n 0, 1) := by decide +kernel
theorem dX1_leastModulusOf_26 : decode cX1_leastModulusOf 26 = .ok (.getfield 15, 3) := by decide +kernel
theorem dX1_leastModulusOf_29 : decode cX1_leastModulusOf 29 = .ok (.iload_n 3, 1) := by decide +kernel
theorem dX1_leastModulusOf_30 : decode cX1_leastModulusOf 30 = .ok (.iaload, 1) := by decide +kernel
theorem dX1_leastModulusOf_31 : decode cX1_leastModulusOf 31 = .ok (.aload_n 0, 1) := by decide +kernel
theorem dX1_leastModulusOf_32 : decode cX1_leastModulusOf 32 = .ok (.getfield 15, 3) := by decide +kernel
theorem dX1_leastModulusOf_35 : decode cX1_leastModulusOf 35 = .ok (.iload_n 2, 1) := by decide +kernel
theorem dX1_leastModulusOf_36 : decode cX1_leastModulusOf 36 = .ok (.iaload, 1) := by decide +kernel
theorem dX1_leastModulusOf_37 : decode cX1_leastModulusOf 37 = .ok (.if_icmp .ge 5, 3) := by decide +kernel
theorem dX1_leastModulusOf_40 : decode cX1_leastModulusOf 40 = .ok (.iload_n 3, 1) := by decide +kernel
theorem dX1_leastModulusOf_41 : decode cX1_leastModulusOf 41 = .ok (.istore_n 2, 1) := by decide +kernel
theorem dX1_leastModulusOf_42 : decode cX1_leastModulusOf 42 = .ok (.iinc 3 1, 3) := by decide +kernel
theorem dX1_leastModulusOf_45 : decode cX1_leastModulusOf 45 = .ok (.goto (-41), 3) := by decide +kernel
theorem dX1_leastModulusOf_48 : decode cX1_leastModulusOf 48 = .ok (.iload_n 2, 1) := by decide +kernel
theorem dX1_leastModulusOf_49 : decode cX1_leastModulusOf 49 = .ok (.ireturn, 1) := by decide +kernel
noncomputable def Cl_leastModulusOf_L4 (l0 : Nat) (l1 : Int32) (σ : St) (x2 : Int32) (x3 : Int32) : Option ((Int32 × Int32) ⊕ Int32) :=
  if (σ.1 l0 3) ≤ x3 then (some (.inr x2)) else (bd (RC_isIn l1 x3) (fun r2 => if r2 = 0 then (bnd (x3 + 1) (fun v3 => some (.inl (x2, v3)))) else (if x2 = (-1) then (bnd (x3 + 1) (fun v4 => some (.inl (x3, v4)))) else (chk (ix x3 12) (chk (ix x2 12) (if (σ.1 (l0 + 2) (tn x2)) ≤ (σ.1 (l0 + 2) (tn x3)) then (bnd (x3 + 1) (fun v7 => some (.inl (x2, v7)))) else (bnd (x3 + 1) (fun v8 => some (.inl (x3, v8))))))))))
set_option maxRecDepth 100000 in
set_option maxHeartbeats 4000000 in
theorem tb_Cl_leastModulusOf_L4 {V : Ev} {Γ : Cn} {fin : Option Value × St} {l0 : Nat} {l1 : Int32} {σ : St} {x2 : Int32} {x3 : Int32} {o : ((Int32 × Int32) ⊕ Int32)} (X : Cx V Γ M_X1_leastModulusOf) {A : ((Int32 × Int32) ⊕ Int32) → Prop} (k_l0 : okCl l0) (hb4 : ∀ (x2 : Int32) (x3 : Int32), A (.inl (x2, x3)) → Go V Γ M_X1_leastModulusOf (Zm V Γ 1 fin) 4 [(0, .ref (V.2.2.1 + l0)), (1, .int l1), (2, .int x2), (3, .int x3)] [] σ) (hx4 : ∀ (x2 : Int32), A (.inr x2) → Go V Γ M_X1_leastModulusOf (Zm V Γ 1 fin) 48 [(2, .int x2)] [] σ) (h : Cl_leastModulusOf_L4 l0 l1 σ x2 x3 = some o) (hA : A o) : Go V Γ M_X1_leastModulusOf (Zm V Γ 1 fin) 4 [(0, .ref (V.2.2.1 + l0)), (1, .int l1), (2, .int x2), (3, .int x3)] [] σ := by
  unfold Cl_leastModulusOf_L4 at h
  refine g_iload_n (pc := 4) X 3 rfl dX1_leastModulusOf_4 ?_
  refine g_aload_n (pc := 5) X 0 rfl dX1_leastModulusOf_5 ?_
  refine g_getI (pc := 6) X k_fl_X1_22 (sCl_0 k_l0) rfl dX1_leastModulusOf_6 ?_
  refine g_icmp_ge (pc := 9) (tgt := 48) X dX1_leastModulusOf_9 rfl (fun c12 => ?_) (fun c12 => ?_)
  · replace h := if_t c12 h
    refine g_sub [2] rfl ?_
    cases h
    exact hx4 _ hA
  · replace h := if_f c12 h
    refine g_iload_n (pc := 12) X 1 rfl dX1_leastModulusOf_12 ?_
    refine g_iload_n (pc := 13) X 3 rfl dX1_leastModulusOf_13 ?_
    obtain ⟨r2, hc1, h⟩ := bd_e h
    refine g_callS (pc := 14) X k_ml_X1_38 (run_RC_isIn  hc1) rfl (room_ok (Nat.le_of_ble_eq_true rfl) (Nat.le_of_ble_eq_true rfl)) ⟨Nat.le_refl _, Nat.le_refl _⟩ _ rfl (Nat.le_of_ble_eq_true rfl) dX1_leastModulusOf_14 ?_
    show Go V Γ M_X1_leastModulusOf (Zm V Γ 1 fin) 17 [(0, .ref (V.2.2.1 + l0)), (1, .int l1), (2, .int x2), (3, .int x3)] [.int r2] σ
    refine g_if_eq (pc := 17) (tgt := 42) X dX1_leastModulusOf_17 rfl (fun c11 => ?_) (fun c11 => ?_)
    · replace h := if_t c11 h
      obtain ⟨v3, e_v3, h⟩ := bnd_e h
      refine g_iinc (pc := 42) (v := v3) X [(3, .int v3), (0, .ref (V.2.2.1 + l0)), (1, .int l1), (2, .int x2)] 3 rfl (by rw [e_v3]; rfl) (Nat.le_of_ble_eq_true rfl) rfl dX1_leastModulusOf_42 ?_
      refine g_goto (pc := 45) (tgt := 4) X dX1_leastModulusOf_45 rfl ?_
      refine g_sub [1, 2, 3, 0] rfl ?_
      cases h
      exact hb4 _ _ hA
    · replace h := if_f c11 h
      refine g_iload_n (pc := 20) X 2 rfl dX1_leastModulusOf_20 ?_
      refine g_iconst (v := (-1)) (pc := 21) X rfl dX1_leastModulusOf_21 ?_
      refine g_icmp_eq (pc := 22) (tgt := 40) X dX1_leastModulusOf_22 rfl (fun c10 => ?_) (fun c10 => ?_)
      · replace h := if_t c10 h
        refine g_iload_n (pc := 40) X 3 rfl dX1_leastModulusOf_40 ?_
        refine g_istore_n (pc := 41) X [(2, .int x3), (0, .ref (V.2.2.1 + l0)), (1, .int l1), (3, .int x3)] rfl (Nat.le_of_ble_eq_true rfl) rfl dX1_leastModulusOf_41 ?_
        obtain ⟨v4, e_v4, h⟩ := bnd_e h
        refine g_iinc (pc := 42) (v := v4) X [(3, .int v4), (2, .int x3), (0, .ref (V.2.2.1 + l0)), (1, .int l1)] 3 rfl (by rw [e_v4]; rfl) (Nat.le_of_ble_eq_true rfl) rfl dX1_leastModulusOf_42 ?_
        refine g_goto (pc := 45) (tgt := 4) X dX1_leastModulusOf_45 rfl ?_
        refine g_sub [2, 3, 1, 0] rfl ?_
        cases h
        exact hb4 _ _ hA
      · replace h := if_f c10 h
        refine g_aload_n (pc := 25) X 0 rfl dX1_leastModulusOf_25 ?_
        refine g_getR (r := (l0 + 2)) (pc := 26) X k_fl_X1_15 (sCl_0 k_l0) rfl dX1_leastModulusOf_26 ?_
        refine g_iload_n (pc := 29) X 3 rfl dX1_leastModulusOf_29 ?_
        obtain ⟨c5, h⟩ := chk_e h
        refine g_iald (pc := 30) X (sCl_2 k_l0) c5 dX1_leastModulusOf_30 ?_
        refine g_aload_n (pc := 31) X 0 rfl dX1_leastModulusOf_31 ?_
        refine g_getR (r := (l0 + 2)) (pc := 32) X k_fl_X1_15 (sCl_0 k_l0) rfl dX1_leastModulusOf_32 ?_
        refine g_iload_n (pc := 35) X 2 rfl dX1_leastModulusOf_35 ?_
        obtain ⟨c6, h⟩ := chk_e h
        refine g_iald (pc := 36) X (sCl_2 k_l0) c6 dX1_leastModulusOf_36 ?_
        refine g_icmp_ge (pc := 37) (tgt := 42) X dX1_leastModulusOf_37 rfl (fun c9 => ?_) (fun c9 => ?_)
        · replace h := if_t c9 h
          obtain ⟨v7, e_v7, h⟩ := bnd_e h
          refine g_iinc (pc := 42) (v := v7) X [(3, .int v7), (0, .ref (V.2.2.1 + l0)), (1, .int l1), (2, .int x2)] 3 rfl (by rw [e_v7]; rfl) (Nat.le_of_ble_eq_true rfl) rfl dX1_leastModulusOf_42 ?_
          refine g_goto (pc := 45) (tgt := 4) X dX1_leastModulusOf_45 rfl ?_
          refine g_sub [1, 2, 3, 0] rfl ?_
          cases h
          exact hb4 _ _ hA
        · replace h := if_f c9 h
          refine g_iload_n (pc := 40) X 3 rfl dX1_leastModulusOf_40 ?_
          refine g_istore_n (pc := 41) X [(2, .int x3), (0, .ref (V.2.2.1 + l0)), (1, .int l1), (3, .int x3)] rfl (Nat.le_of_ble_eq_true rfl) rfl dX1_leastModulusOf_41 ?_
          obtain ⟨v8, e_v8, h⟩ := bnd_e h
          refine g_iinc (pc := 42) (v := v8) X [(3, .int v8), (2, .int x3), (0, .ref (V.2.2.1 + l0)), (1, .int l1)] 3 rfl (by rw [e_v8]; rfl) (Nat.le_of_ble_eq_true rfl) rfl dX1_leastModulusOf_42 ?_
          refine g_goto (pc := 45) (tgt := 4) X dX1_leastModulusOf_45 rfl ?_
          refine g_sub [2, 3, 1, 0] rfl ?_
          cases h
          exact hb4 _ _ hA
set_option maxRecDepth 100000 in
theorem tl_Cl_leastModulusOf_L4 {V : Ev} {Γ : Cn} {fin : Option Value × St} {l0 : Nat} {l1 : Int32} {σ : St} {x2 : Int32} {x3 : Int32} (X : Cx V Γ M_X1_leastModulusOf) (k_l0 : okCl l0) {y2 : Int32} {n : Nat} (h : iter (fun s : (Int32 × Int32) => Cl_leastModulusOf_L4 l0 l1 σ s.1 s.2) n (x2, x3) = some y2) (hK : Go V Γ M_X1_leastModulusOf (Zm V Γ 1 fin) 48 [(2, .int y2)] [] σ) : Go V Γ M_X1_leastModulusOf (Zm V Γ 1 fin) 4 [(0, .ref (V.2.2.1 + l0)), (1, .int l1), (2, .int x2), (3, .int x3)] [] σ := by
  refine iter_go (G := (fun s : (Int32 × Int32) => Go V Γ M_X1_leastModulusOf (Zm V Γ 1 fin) 4 [(0, .ref (V.2.2.1 + l0)), (1, .int l1), (2, .int s.1), (3, .int s.2)] [] σ)) (fun s o ho hS => ?_) n (x2, x3) h
  exact tb_Cl_leastModulusOf_L4 X k_l0 (fun _ _ h9 => h9) (fun _ he => by cases he; exact hK) ho hS
noncomputable def Cl_leastModulusOf (σ : St) (a0 : Nat) (p1 : Int32) : Option Int32 :=
  bd (iter (fun s : (Int32 × Int32) => Cl_leastModulusOf_L4 a0 p1 σ s.1 s.2) FUEL ((-1), 0)) (fun v13 => some v13)
set_option maxRecDepth 100000 in
set_option maxHeartbeats 4000000 in
theorem tm_Cl_leastModulusOf {V : Ev} {Γ : Cn} {fin : Option Value × St} {σ : St} {a0 : Nat} {p1 : Int32} {o : Int32} (X : Cx V Γ M_X1_leastModulusOf) {A : Int32 → Prop} (k0 : okCl a0) (hr : ∀ (r : Int32), A r → (some (.int r), σ) = fin) (h : Cl_leastModulusOf σ a0 p1 = some o) (hA : A o) : Go V Γ M_X1_leastModulusOf (Zm V Γ 1 fin) 0 [(0, .ref (V.2.2.1 + a0)), (1, .int p1)] [] σ := by
  unfold Cl_leastModulusOf at h
  refine g_iconst (v := (-1)) (pc := 0) X rfl dX1_leastModulusOf_0 ?_
  refine g_istore_n (pc := 1) X [(2, .int (-1)), (0, .ref (V.2.2.1 + a0)), (1, .int p1)] rfl (Nat.le_of_ble_eq_true rfl) rfl dX1_leastModulusOf_1 ?_
  refine g_iconst (v := 0) (pc := 2) X rfl dX1_leastModulusOf_2 ?_
  refine g_istore_n (pc := 3) X [(3, .int 0), (2, .int (-1)), (0, .ref (V.2.2.1 + a0)), (1, .int p1)] rfl (Nat.le_of_ble_eq_true rfl) rfl dX1_leastModulusOf_3 ?_
  refine g_sub [2, 3, 1, 0] rfl ?_
  obtain ⟨v13, hi14, h⟩ := bd_e h
  refine tl_Cl_leastModulusOf_L4 X k0 hi14 ?_
  refine g_iload_n (pc := 48) X 0 rfl dX1_leastModulusOf_48 ?_
  cases h
  exact g_iret (pc := 49) X rfl rfl (hr _ hA) dX1_leastModulusOf_49
set_option maxRecDepth 100000 in
theorem run_Cl_leastModulusOf {V : Ev} {σ : St} {a0 : Nat} {p1 : Int32} {o : Int32} (k0 : okCl a0)  (h : Cl_leastModulusOf σ a0 p1 = some o) : Rs V 1 M_X1_leastModulusOf [.ref (V.2.2.1 + a0), .int p1] σ (some (.int o), σ) := by
  refine Rs.of (by decide +kernel) (Nat.le_of_ble_eq_true rfl) (fun Γ X => ?_)
  exact tm_Cl_leastModulusOf X (A := fun o1 => o1 = o) k0 (fun _ e => by rw [e]) h rfl
theorem dX1_touches_0 : decode cX1_touches 0 = .ok (.iload_n 2, 1) := by decide +kernel
theorem dX1_touches_1 : decode cX1_touches 1 = .ok (.aload_n 0, 1) := by decide +kernel
theorem dX1_touches_2 : decode cX1_touches 2 = .ok (.getfield 9, 3) := by decide +kernel
theorem dX1_touches_5 : decode cX1_touches 5 = .ok (.iload_n 1, 1) := by decide +kernel
theorem dX1_touches_6 : decode cX1_touches 6 = .ok (.iaload, 1) := by decide +kernel
theorem dX1_touches_7 : decode cX1_touches 7 = .ok (.isub, 1) := by decide +kernel
theorem dX1_touches_8 : decode cX1_touches 8 = .ok (.iload_n 3, 1) := by decide +kernel
theorem dX1_touches_9 : decode cX1_touches 9 = .ok (.i2l, 1) := by decide +kernel
theorem dX1_touches_10 : decode cX1_touches 10 = .ok (.aload_n 0, 1) := by decide +kernel
theorem dX1_touches_11 : decode cX1_touches 11 = .ok (.getfield 15, 3) := by decide +kernel
theorem dX1_touches_14 : decode cX1_touches 14 = .ok (.iload_n 1, 1) := by decide +kernel
theorem dX1_touches_15 : decode cX1_touches 15 = .ok (.iaload, 1) := by decide +kernel
theorem dX1_touches_16 : decode cX1_touches 16 = .ok (.i2l, 1) := by decide +kernel
theorem dX1_touches_17 : decode cX1_touches 17 = .ok (.invokestatic 72, 3) := by decide +kernel
theorem dX1_touches_20 : decode cX1_touches 20 = .ok (.l2i, 1) := by decide +kernel
theorem dX1_touches_21 : decode cX1_touches 21 = .ok (.invokestatic 42, 3) := by decide +kernel
theorem dX1_touches_24 : decode cX1_touches 24 = .ok (.ifCond .ne 7, 3) := by decide +kernel
theorem dX1_touches_27 : decode cX1_touches 27 = .ok (.iconst 1, 1) := by decide +kernel
theorem dX1_touches_28 : decode cX1_touches 28 = .ok (.goto 4, 3) := by decide +kernel
theorem dX1_touches_31 : decode cX1_touches 31 = .ok (.iconst 0, 1) := by decide +kernel
theorem dX1_touches_32 : decode cX1_touches 32 = .ok (.ireturn, 1) := by decide +kernel
noncomputable def Cl_touches (σ : St) (a0 : Nat) (p1 : Int32) (p2 : Int32) (p3 : Int32) : Option Int32 :=
  chk (ix p1 12) (chk (ix p1 12) (bd (RC_commonDivisor p3.toInt64 ((σ.1 (a0 + 2) (tn p1)).toInt64)) (fun r4 => bd (RC_leftBy (p2 - (σ.1 (a0 + 1) (tn p1))) r4.toInt32) (fun r6 => if r6 = 0 then (some 1) else (some 0)))))
set_option maxRecDepth 100000 in
set_option maxHeartbeats 4000000 in
theorem tm_Cl_touches {V : Ev} {Γ : Cn} {fin : Option Value × St} {σ : St} {a0 : Nat} {p1 : Int32} {p2 : Int32} {p3 : Int32} {o : Int32} (X : Cx V Γ M_X1_touches) {A : Int32 → Prop} (k0 : okCl a0) (hr : ∀ (r : Int32), A r → (some (.int r), σ) = fin) (h : Cl_touches σ a0 p1 p2 p3 = some o) (hA : A o) : Go V Γ M_X1_touches (Zm V Γ 1 fin) 0 [(0, .ref (V.2.2.1 + a0)), (1, .int p1), (2, .int p2), (3, .int p3)] [] σ := by
  unfold Cl_touches at h
  refine g_iload_n (pc := 0) X 2 rfl dX1_touches_0 ?_
  refine g_aload_n (pc := 1) X 0 rfl dX1_touches_1 ?_
  refine g_getR (r := (a0 + 1)) (pc := 2) X k_fl_X1_9 (sCl_0 k0) rfl dX1_touches_2 ?_
  refine g_iload_n (pc := 5) X 1 rfl dX1_touches_5 ?_
  obtain ⟨c1, h⟩ := chk_e h
  refine g_iald (pc := 6) X (sCl_1 k0) c1 dX1_touches_6 ?_
  refine g_isub (pc := 7) X dX1_touches_7 ?_
  refine g_iload_n (pc := 8) X 3 rfl dX1_touches_8 ?_
  refine g_i2l (pc := 9) X dX1_touches_9 ?_
  refine g_aload_n (pc := 10) X 0 rfl dX1_touches_10 ?_
  refine g_getR (r := (a0 + 2)) (pc := 11) X k_fl_X1_15 (sCl_0 k0) rfl dX1_touches_11 ?_
  refine g_iload_n (pc := 14) X 1 rfl dX1_touches_14 ?_
  obtain ⟨c2, h⟩ := chk_e h
  refine g_iald (pc := 15) X (sCl_2 k0) c2 dX1_touches_15 ?_
  refine g_i2l (pc := 16) X dX1_touches_16 ?_
  obtain ⟨r4, hc3, h⟩ := bd_e h
  refine g_callS (pc := 17) X k_ml_X1_72 (run_RC_commonDivisor  hc3) rfl (room_ok (Nat.le_of_ble_eq_true rfl) (Nat.le_of_ble_eq_true rfl)) ⟨Nat.le_refl _, Nat.le_refl _⟩ _ rfl (Nat.le_of_ble_eq_true rfl) dX1_touches_17 ?_
  show Go V Γ M_X1_touches (Zm V Γ 1 fin) 20 [(0, .ref (V.2.2.1 + a0)), (1, .int p1), (2, .int p2), (3, .int p3)] [.long r4, .int (p2 - (σ.1 (a0 + 1) (tn p1)))] σ
  refine g_l2i (pc := 20) X dX1_touches_20 ?_
  obtain ⟨r6, hc5, h⟩ := bd_e h
  refine g_callS (pc := 21) X k_ml_X1_42 (run_RC_leftBy  hc5) rfl (room_ok (Nat.le_of_ble_eq_true rfl) (Nat.le_of_ble_eq_true rfl)) ⟨Nat.le_refl _, Nat.le_refl _⟩ _ rfl (Nat.le_of_ble_eq_true rfl) dX1_touches_21 ?_
  show Go V Γ M_X1_touches (Zm V Γ 1 fin) 24 [(0, .ref (V.2.2.1 + a0)), (1, .int p1), (2, .int p2), (3, .int p3)] [.int r6] σ
  refine g_if_ne (pc := 24) (tgt := 31) X dX1_touches_24 rfl (fun c7 => ?_) (fun c7 => ?_)
  · replace h := if_f c7 h
    refine g_iconst (v := 0) (pc := 31) X rfl dX1_touches_31 ?_
    cases h
    exact g_iret (pc := 32) X rfl nz0.1 (hr _ hA) dX1_touches_32
  · replace h := if_t c7 h
    refine g_iconst (v := 1) (pc := 27) X rfl dX1_touches_27 ?_
    refine g_goto (pc := 28) (tgt := 32) X dX1_touches_28 rfl ?_
    cases h
    exact g_iret (pc := 32) X rfl nz1.1 (hr _ hA) dX1_touches_32
set_option maxRecDepth 100000 in
theorem run_Cl_touches {V : Ev} {σ : St} {a0 : Nat} {p1 : Int32} {p2 : Int32} {p3 : Int32} {o : Int32} (k0 : okCl a0)  (h : Cl_touches σ a0 p1 p2 p3 = some o) : Rs V 1 M_X1_touches [.ref (V.2.2.1 + a0), .int p1, .int p2, .int p3] σ (some (.int o), σ) := by
  refine Rs.of (by decide +kernel) (Nat.le_of_ble_eq_true rfl) (fun Γ X => ?_)
  exact tm_Cl_touches X (A := fun o1 => o1 = o) k0 (fun _ e => by rw [e]) h rfl
theorem dX1_touching_0 : decode cX1_touching 0 = .ok (.iconst 0, 1) := by decide +kernel
theorem dX1_touching_1 : decode cX1_touching 1 = .ok (.istore 4, 2) := by decide +kernel
theorem dX1_touching_3 : decode cX1_touching 3 = .ok (.iconst 0, 1) := by decide +kernel
theorem dX1_touching_4 : decode cX1_touching 4 = .ok (.istore 5, 2) := by decide +kernel
theorem dX1_touching_6 : decode cX1_touching 6 = .ok (.iload 5, 2) := by decide +kernel
theorem dX1_touching_8 : decode cX1_touching 8 = .ok (.aload_n 0, 1) := by decide +kernel
theorem dX1_touching_9 : decode cX1_touching 9 = .ok (.getfield 22, 3) := by decide +kernel
theorem dX1_touching_12 : decode cX1_touching 12 = .ok (.if_icmp .ge 38, 3) := by decide +kernel
theorem dX1_touching_15 : decode cX1_touching 15 = .ok (.iload_n 1, 1) := by decide +kernel
theorem dX1_touching_16 : decode cX1_touching 16 = .ok (.iload 5, 2) := by decide +kernel
theorem dX1_touching_18 : decode cX1_touching 18 = .ok (.invokestatic 38, 3) := by decide +kernel
theorem dX1_touching_21 : decode cX1_touching 21 = .ok (.ifCond .eq 23, 3) := by decide +kernel
theorem dX1_touching_24 : decode cX1_touching 24 = .ok (.aload_n 0, 1) := by decide +kernel
theorem dX1_touching_25 : decode cX1_touching 25 = .ok (.iload 5, 2) := by decide +kernel
theorem dX1_touching_27 : decode cX1_touching 27 = .ok (.iload_n 2, 1) := by decide +kernel
theorem dX1_touching_28 : decode cX1_touching 28 = .ok (.iload_n 3, 1) := by decide +kernel
theorem dX1_touching_29 : decode cX1_touching 29 = .ok (.invokevirtual 79, 3) := by decide +kernel
theorem dX1_touching_32 : decode cX1_touching 32 = .ok (.ifCond .eq 12, 3) := by decide +kernel
theorem dX1_touching_35 : decode cX1_touching 35 = .ok (.iload 4, 2) := by decide +kernel
theorem dX1_touching_37 : decode cX1_touching 37 = .ok (.iconst 1, 1) := by decide +kernel
theorem dX1_touching_38 : decode cX1_touching 38 = .ok (.iload 5, 2) := by decide +kernel
theorem dX1_touching_40 : decode cX1_touching 40 = .ok (.ishl, 1) := by decide +kernel
theorem dX1_touching_41 : decode cX1_touching 41 = .ok (.ior, 1) := by decide +kernel
theorem dX1_touching_42 : decode cX1_touching 42 = .ok (.istore 4, 2) := by decide +kernel
theorem dX1_touching_44 : decode cX1_touching 44 = .ok (.iinc 5 1, 3) := by decide +kernel
theorem dX1_touching_47 : decode cX1_touching 47 = .ok (.goto (-41), 3) := by decide +kernel
theorem dX1_touching_50 : decode cX1_touching 50 = .ok (.iload 4, 2) := by decide +kernel
theorem dX1_touching_52 : decode cX1_touching 52 = .ok (.ireturn, 1) := by decide +kernel
noncomputable def Cl_touching_L6 (l0 : Nat) (l1 : Int32) (l2 : Int32) (l3 : Int32) (σ : St) (x4 : Int32) (x5 : Int32) : Option ((Int32 × Int32) ⊕ Int32) :=
  if (σ.1 l0 3) ≤ x5 then (some (.inr x4)) else (bd (RC_isIn l1 x5) (fun r2 => if r2 = 0 then (bnd (x5 + 1) (fun v3 => some (.inl (x4, v3)))) else (bd (Cl_touches σ l0 x5 l2 l3) (fun r5 => if r5 = 0 then (bnd (x5 + 1) (fun v6 => some (.inl (x4, v6)))) else (bnd ((x4 ||| (1 <<< (x5 &&& 31)))) (fun v7 => bnd (x5 + 1) (fun v8 => some (.inl (v7, v8)))))))))
set_option maxRecDepth 100000 in
set_option maxHeartbeats 4000000 in
theorem tb_Cl_touching_L6 {V : Ev} {Γ : Cn} {fin : Option Value × St} {l0 : Nat} {l1 : Int32} {l2 : Int32} {l3 : Int32} {σ : St} {x4 : Int32} {x5 : Int32} {o : ((Int32 × Int32) ⊕ Int32)} (X : Cx V Γ M_X1_touching) {A : ((Int32 × Int32) ⊕ Int32) → Prop} (k_l0 : okCl l0) (hb6 : ∀ (x4 : Int32) (x5 : Int32), A (.inl (x4, x5)) → Go V Γ M_X1_touching (Zm V Γ 2 fin) 6 [(0, .ref (V.2.2.1 + l0)), (1, .int l1), (2, .int l2), (3, .int l3), (4, .int x4), (5, .int x5)] [] σ) (hx6 : ∀ (x4 : Int32), A (.inr x4) → Go V Γ M_X1_touching (Zm V Γ 2 fin) 50 [(4, .int x4)] [] σ) (h : Cl_touching_L6 l0 l1 l2 l3 σ x4 x5 = some o) (hA : A o) : Go V Γ M_X1_touching (Zm V Γ 2 fin) 6 [(0, .ref (V.2.2.1 + l0)), (1, .int l1), (2, .int l2), (3, .int l3), (4, .int x4), (5, .int x5)] [] σ := by
  unfold Cl_touching_L6 at h
  refine g_iload (pc := 6) X 5 rfl dX1_touching_6 ?_
  refine g_aload_n (pc := 8) X 0 rfl dX1_touching_8 ?_
  refine g_getI (pc := 9) X k_fl_X1_22 (sCl_0 k_l0) rfl dX1_touching_9 ?_
  refine g_icmp_ge (pc := 12) (tgt := 50) X dX1_touching_12 rfl (fun c11 => ?_) (fun c11 => ?_)
  · replace h := if_t c11 h
    refine g_sub [4] rfl ?_
    cases h
    exact hx6 _ hA
  · replace h := if_f c11 h
    refine g_iload_n (pc := 15) X 1 rfl dX1_touching_15 ?_
    refine g_iload (pc := 16) X 5 rfl dX1_touching_16 ?_
    obtain ⟨r2, hc1, h⟩ := bd_e h
    refine g_callS (pc := 18) X k_ml_X1_38 (run_RC_isIn  hc1) rfl (room_ok (Nat.le_of_ble_eq_true rfl) (Nat.le_of_ble_eq_true rfl)) ⟨Nat.le_refl _, Nat.le_refl _⟩ _ rfl (Nat.le_of_ble_eq_true rfl) dX1_touching_18 ?_
    show Go V Γ M_X1_touching (Zm V Γ 2 fin) 21 [(0, .ref (V.2.2.1 + l0)), (1, .int l1), (2, .int l2), (3, .int l3), (4, .int x4), (5, .int x5)] [.int r2] σ
    refine g_if_eq (pc := 21) (tgt := 44) X dX1_touching_21 rfl (fun c10 => ?_) (fun c10 => ?_)
    · replace h := if_t c10 h
      obtain ⟨v3, e_v3, h⟩ := bnd_e h
      refine g_iinc (pc := 44) (v := v3) X [(5, .int v3), (0, .ref (V.2.2.1 + l0)), (1, .int l1), (2, .int l2), (3, .int l3), (4, .int x4)] 5 rfl (by rw [e_v3]; rfl) (Nat.le_of_ble_eq_true rfl) rfl dX1_touching_44 ?_
      refine g_goto (pc := 47) (tgt := 6) X dX1_touching_47 rfl ?_
      refine g_sub [1, 2, 3, 4, 5, 0] rfl ?_
      cases h
      exact hb6 _ _ hA
    · replace h := if_f c10 h
      refine g_aload_n (pc := 24) X 0 rfl dX1_touching_24 ?_
      refine g_iload (pc := 25) X 5 rfl dX1_touching_25 ?_
      refine g_iload_n (pc := 27) X 2 rfl dX1_touching_27 ?_
      refine g_iload_n (pc := 28) X 3 rfl dX1_touching_28 ?_
      obtain ⟨r5, hc4, h⟩ := bd_e h
      refine g_callV (pc := 29) X k_ml_X1_79 (run_Cl_touches k_l0 hc4) (sCl_0 k_l0) rfl (room_ok (Nat.le_of_ble_eq_true rfl) (Nat.le_of_ble_eq_true rfl)) ⟨Nat.le_refl _, Nat.le_refl _⟩ _ rfl (Nat.le_of_ble_eq_true rfl) dX1_touching_29 ?_
      show Go V Γ M_X1_touching (Zm V Γ 2 fin) 32 [(0, .ref (V.2.2.1 + l0)), (1, .int l1), (2, .int l2), (3, .int l3), (4, .int x4), (5, .int x5)] [.int r5] σ
      refine g_if_eq (pc := 32) (tgt := 44) X dX1_touching_32 rfl (fun c9 => ?_) (fun c9 => ?_)
      · replace h := if_t c9 h
        obtain ⟨v6, e_v6, h⟩ := bnd_e h
        refine g_iinc (pc := 44) (v := v6) X [(5, .int v6), (0, .ref (V.2.2.1 + l0)), (1, .int l1), (2, .int l2), (3, .int l3), (4, .int x4)] 5 rfl (by rw [e_v6]; rfl) (Nat.le_of_ble_eq_true rfl) rfl dX1_touching_44 ?_
        refine g_goto (pc := 47) (tgt := 6) X dX1_touching_47 rfl ?_
        refine g_sub [1, 2, 3, 4, 5, 0] rfl ?_
        cases h
        exact hb6 _ _ hA
      · replace h := if_f c9 h
        refine g_iload (pc := 35) X 4 rfl dX1_touching_35 ?_
        refine g_iconst (v := 1) (pc := 37) X rfl dX1_touching_37 ?_
        refine g_iload (pc := 38) X 5 rfl dX1_touching_38 ?_
        refine g_ishl (pc := 40) X dX1_touching_40 ?_
        refine g_ior (pc := 41) X dX1_touching_41 ?_
        obtain ⟨v7, e_v7, h⟩ := bnd_e h
        refine g_nmI e_v7 ?_
        refine g_istore (pc := 42) X [(4, .int v7), (0, .ref (V.2.2.1 + l0)), (1, .int l1), (2, .int l2), (3, .int l3), (5, .int x5)] (Nat.le_of_ble_eq_true rfl) rfl dX1_touching_42 ?_
        obtain ⟨v8, e_v8, h⟩ := bnd_e h
        refine g_iinc (pc := 44) (v := v8) X [(5, .int v8), (4, .int v7), (0, .ref (V.2.2.1 + l0)), (1, .int l1), (2, .int l2), (3, .int l3)] 5 rfl (by rw [e_v8]; rfl) (Nat.le_of_ble_eq_true rfl) rfl dX1_touching_44 ?_
        refine g_goto (pc := 47) (tgt := 6) X dX1_touching_47 rfl ?_
        refine g_sub [2, 3, 4, 5, 1, 0] rfl ?_
        cases h
        exact hb6 _ _ hA
set_option maxRecDepth 100000 in
theorem tl_Cl_touching_L6 {V : Ev} {Γ : Cn} {fin : Option Value × St} {l0 : Nat} {l1 : Int32} {l2 : Int32} {l3 : Int32} {σ : St} {x4 : Int32} {x5 : Int32} (X : Cx V Γ M_X1_touching) (k_l0 : okCl l0) {y4 : Int32} {n : Nat} (h : iter (fun s : (Int32 × Int32) => Cl_touching_L6 l0 l1 l2 l3 σ s.1 s.2) n (x4, x5) = some y4) (hK : Go V Γ M_X1_touching (Zm V Γ 2 fin) 50 [(4, .int y4)] [] σ) : Go V Γ M_X1_touching (Zm V Γ 2 fin) 6 [(0, .ref (V.2.2.1 + l0)), (1, .int l1), (2, .int l2), (3, .int l3), (4, .int x4), (5, .int x5)] [] σ := by
  refine iter_go (G := (fun s : (Int32 × Int32) => Go V Γ M_X1_touching (Zm V Γ 2 fin) 6 [(0, .ref (V.2.2.1 + l0)), (1, .int l1), (2, .int l2), (3, .int l3), (4, .int s.1), (5, .int s.2)] [] σ)) (fun s o ho hS => ?_) n (x4, x5) h
  exact tb_Cl_touching_L6 X k_l0 (fun _ _ h9 => h9) (fun _ he => by cases he; exact hK) ho hS
noncomputable def Cl_touching (σ : St) (a0 : Nat) (p1 : Int32) (p2 : Int32) (p3 : Int32) : Option Int32 :=
  bd (iter (fun s : (Int32 × Int32) => Cl_touching_L6 a0 p1 p2 p3 σ s.1 s.2) FUEL (0, 0)) (fun v12 => some v12)
set_option maxRecDepth 100000 in
set_option maxHeartbeats 4000000 in
theorem tm_Cl_touching {V : Ev} {Γ : Cn} {fin : Option Value × St} {σ : St} {a0 : Nat} {p1 : Int32} {p2 : Int32} {p3 : Int32} {o : Int32} (X : Cx V Γ M_X1_touching) {A : Int32 → Prop} (k0 : okCl a0) (hr : ∀ (r : Int32), A r → (some (.int r), σ) = fin) (h : Cl_touching σ a0 p1 p2 p3 = some o) (hA : A o) : Go V Γ M_X1_touching (Zm V Γ 2 fin) 0 [(0, .ref (V.2.2.1 + a0)), (1, .int p1), (2, .int p2), (3, .int p3)] [] σ := by
  unfold Cl_touching at h
  refine g_iconst (v := 0) (pc := 0) X rfl dX1_touching_0 ?_
  refine g_istore (pc := 1) X [(4, .int 0), (0, .ref (V.2.2.1 + a0)), (1, .int p1), (2, .int p2), (3, .int p3)] (Nat.le_of_ble_eq_true rfl) rfl dX1_touching_1 ?_
  refine g_iconst (v := 0) (pc := 3) X rfl dX1_touching_3 ?_
  refine g_istore (pc := 4) X [(5, .int 0), (4, .int 0), (0, .ref (V.2.2.1 + a0)), (1, .int p1), (2, .int p2), (3, .int p3)] (Nat.le_of_ble_eq_true rfl) rfl dX1_touching_4 ?_
  refine g_sub [2, 3, 4, 5, 1, 0] rfl ?_
  obtain ⟨v12, hi13, h⟩ := bd_e h
  refine tl_Cl_touching_L6 X k0 hi13 ?_
  refine g_iload (pc := 50) X 0 rfl dX1_touching_50 ?_
  cases h
  exact g_iret (pc := 52) X rfl rfl (hr _ hA) dX1_touching_52
set_option maxRecDepth 100000 in
theorem run_Cl_touching {V : Ev} {σ : St} {a0 : Nat} {p1 : Int32} {p2 : Int32} {p3 : Int32} {o : Int32} (k0 : okCl a0)  (h : Cl_touching σ a0 p1 p2 p3 = some o) : Rs V 2 M_X1_touching [.ref (V.2.2.1 + a0), .int p1, .int p2, .int p3] σ (some (.int o), σ) := by
  refine Rs.of (by decide +kernel) (Nat.le_of_ble_eq_true rfl) (fun Γ X => ?_)
  exact tm_Cl_touching X (A := fun o1 => o1 = o) k0 (fun _ e => by rw [e]) h rfl
theorem dX1_anyModulusDivides_0 : decode cX1_anyModulusDivides 0 = .ok (.iconst 0, 1) := by decide +kernel
theorem dX1_anyModulusDivides_1 : decode cX1_anyModulusDivides 1 = .ok (.istore_n 3, 1) := by decide +kernel
theorem dX1_anyModulusDivides_2 : decode cX1_anyModulusDivides 2 = .ok (.iload_n 3, 1) := by decide +kernel
theorem dX1_anyModulusDivides_3 : decode cX1_anyModulusDivides 3 = .ok (.aload_n 0, 1) := by decide +kernel
theorem dX1_anyModulusDivides_4 : decode cX1_anyModulusDivides 4 = .ok (.getfield 22, 3) := by decide +kernel
theorem dX1_anyModulusDivides_7 : decode cX1_anyModulusDivides 7 = .ok (.if_icmp .ge 32, 3) := by decide +kernel
theorem dX1_anyModulusDivides_10 : decode cX1_anyModulusDivides 10 = .ok (.iload_n 1, 1) := by decide +kernel
theorem dX1_anyModulusDivides_11 : decode cX1_anyModulusDivides 11 = .ok (.iload_n 3, 1) := by decide +kernel
theorem dX1_anyModulusDivides_12 : decode cX1_anyModulusDivides 12 = .ok (.invokestatic 38, 3) := by decide +kernel
theorem dX1_anyModulusDivides_15 : decode cX1_anyModulusDivides 15 = .ok (.ifCond .eq 18, 3) := by decide +kernel
theorem dX1_anyModulusDivides_18 : decode cX1_anyModulusDivides 18 = .ok (.iload_n 2, 1) := by decide +kernel
theorem dX1_anyModulusDivides_19 : decode cX1_anyModulusDivides 19 = .ok (.aload_n 0, 1) := by decide +kernel
theorem dX1_anyModulusDivides_20 : decode cX1_anyModulusDivides 20 = .ok (.getfield 15, 3) := by decide +kernel
theorem dX1_anyModulusDivides_23 : decode cX1_anyModulusDivides 23 = .ok (.iload_n 3, 1) := by decide +kernel
theorem dX1_anyModulusDivides_24 : decode cX1_anyModulusDivides 24 = .ok (.iaload, 1) := by decide +kernel
theorem dX1_anyModulusDivides_25 : decode cX1_anyModulusDivides 25 = .ok (.invokestatic 42, 3) := by decide +kernel
theorem dX1_anyModulusDivides_28 : decode cX1_anyModulusDivides 28 = .ok (.ifCond .ne 5, 3) := by decide +kernel
theorem dX1_anyModulusDivides_31 : decode cX1_anyModulusDivides 31 = .ok (.iconst 1, 1) := by decide +kernel
theorem dX1_anyModulusDivides_32 : decode cX1_anyModulusDivides 32 = .ok (.ireturn, 1) := by decide +kernel
theorem dX1_anyModulusDivides_33 : decode cX1_anyModulusDivides 33 = .ok (.iinc 3 1, 3) := by decide +kernel
theorem dX1_anyModulusDivides_36 : decode cX1_anyModulusDivides 36 = .ok (.goto (-34), 3) := by decide +kernel
theorem dX1_anyModulusDivides_39 : decode cX1_anyModulusDivides 39 = .ok (.iconst 0, 1) := by decide +kernel
theorem dX1_anyModulusDivides_40 : decode cX1_anyModulusDivides 40 = .ok (.ireturn, 1) := by decide +kernel
noncomputable def Cl_anyModulusDivides_L2 (l0 : Nat) (l1 : Int32) (l2 : Int32) (σ : St) (x3 : Int32) : Option (Int32 ⊕ Int32) :=
  if (σ.1 l0 3) ≤ x3 then (some (.inr 0)) else (bd (RC_isIn l1 x3) (fun r2 => if r2 = 0 then (bnd (x3 + 1) (fun v3 => some (.inl v3))) else (chk (ix x3 12) (bd (RC_leftBy l2 (σ.1 (l0 + 2) (tn x3))) (fun r6 => if r6 = 0 then (some (.inr 1)) else (bnd (x3 + 1) (fun v7 => some (.inl v7))))))))
set_option maxRecDepth 100000 in
set_option maxHeartbeats 4000000 in
theorem tb_Cl_anyModulusDivides_L2 {V : Ev} {Γ : Cn} {fin : Option Value × St} {l0 : Nat} {l1 : Int32} {l2 : Int32} {σ : St} {x3 : Int32} {o : (Int32 ⊕ Int32)} (X : Cx V Γ M_X1_anyModulusDivides) {A : (Int32 ⊕ Int32) → Prop} (k_l0 : okCl l0) (hr : ∀ (r : Int32), A (.inr r) → (some (.int r), σ) = fin) (hb2 : ∀ (x3 : Int32), A (.inl x3) → Go V Γ M_X1_anyModulusDivides (Zm V Γ 1 fin) 2 [(0, .ref (V.2.2.1 + l0)), (1, .int l1), (2, .int l2), (3, .int x3)] [] σ) (h : Cl_anyModulusDivides_L2 l0 l1 l2 σ x3 = some o) (hA : A o) : Go V Γ M_X1_anyModulusDivides (Zm V Γ 1 fin) 2 [(0, .ref (V.2.2.1 + l0)), (1, .int l1), (2, .int l2), (3, .int x3)] [] σ := by
  unfold Cl_anyModulusDivides_L2 at h
  refine g_iload_n (pc := 2) X 3 rfl dX1_anyModulusDivides_2 ?_
  refine g_aload_n (pc := 3) X 0 rfl dX1_anyModulusDivides_3 ?_
  refine g_getI (pc := 4) X k_fl_X1_22 (sCl_0 k_l0) rfl dX1_anyModulusDivides_4 ?_
  refine g_icmp_ge (pc := 7) (tgt := 39) X dX1_anyModulusDivides_7 rfl (fun c10 => ?_) (fun c10 => ?_)
  · replace h := if_t c10 h
    refine g_iconst (v := 0) (pc := 39) X rfl dX1_anyModulusDivides_39 ?_
    cases h
    exact g_iret (pc := 40) X rfl nz0.1 (hr _ hA) dX1_anyModulusDivides_40
  · replace h := if_f c10 h
    refine g_iload_n (pc := 10) X 1 rfl dX1_anyModulusDivides_10 ?_
    refine g_iload_n (pc := 11) X 3 rfl dX1_anyModulusDivides_11 ?_
    obtain ⟨r2, hc1, h⟩ := bd_e h
    refine g_callS (pc := 12) X k_ml_X1_38 (run_RC_isIn  hc1) rfl (room_ok (Nat.le_of_ble_eq_true rfl) (Nat.le_of_ble_eq_true rfl)) ⟨Nat.le_refl _, Nat.le_refl _⟩ _ rfl (Nat.le_of_ble_eq_true rfl) dX1_anyModulusDivides_12 ?_
    show Go V Γ M_X1_anyModulusDivides (Zm V Γ 1 fin) 15 [(0, .ref (V.2.2.1 + l0)), (1, .int l1), (2, .int l2), (3, .int x3)] [.int r2] σ
    refine g_if_eq (pc := 15) (tgt := 33) X dX1_anyModulusDivides_15 rfl (fun c9 => ?_) (fun c9 => ?_)
    · replace h := if_t c9 h
      obtain ⟨v3, e_v3, h⟩ := bnd_e h
      refine g_iinc (pc := 33) (v := v3) X [(3, .int v3), (0, .ref (V.2.2.1 + l0)), (1, .int l1), (2, .int l2)] 3 rfl (by rw [e_v3]; rfl) (Nat.le_of_ble_eq_true rfl) rfl dX1_anyModulusDivides_33 ?_
      refine g_goto (pc := 36) (tgt := 2) X dX1_anyModulusDivides_36 rfl ?_
      refine g_sub [1, 2, 3, 0] rfl ?_
      cases h
      exact hb2 _ hA
    · replace h := if_f c9 h
      refine g_iload_n (pc := 18) X 2 rfl dX1_anyModulusDivides_18 ?_
      refine g_aload_n (pc := 19) X 0 rfl dX1_anyModulusDivides_19 ?_
      refine g_getR (r := (l0 + 2)) (pc := 20) X k_fl_X1_15 (sCl_0 k_l0) rfl dX1_anyModulusDivides_20 ?_
      refine g_iload_n (pc := 23) X 3 rfl dX1_anyModulusDivides_23 ?_
      obtain ⟨c4, h⟩ := chk_e h
      refine g_iald (pc := 24) X (sCl_2 k_l0) c4 dX1_anyModulusDivides_24 ?_
      obtain ⟨r6, hc5, h⟩ := bd_e h
      refine g_callS (pc := 25) X k_ml_X1_42 (run_RC_leftBy  hc5) rfl (room_ok (Nat.le_of_ble_eq_true rfl) (Nat.le_of_ble_eq_true rfl)) ⟨Nat.le_refl _, Nat.le_refl _⟩ _ rfl (Nat.le_of_ble_eq_true rfl) dX1_anyModulusDivides_25 ?_
      show Go V Γ M_X1_anyModulusDivides (Zm V Γ 1 fin) 28 [(0, .ref (V.2.2.1 + l0)), (1, .int l1), (2, .int l2), (3, .int x3)] [.int r6] σ
      refine g_if_ne (pc := 28) (tgt := 33) X dX1_anyModulusDivides_28 rfl (fun c8 => ?_) (fun c8 => ?_)
      · replace h := if_f c8 h
        obtain ⟨v7, e_v7, h⟩ := bnd_e h
        refine g_iinc (pc := 33) (v := v7) X [(3, .int v7), (0, .ref (V.2.2.1 + l0)), (1, .int l1), (2, .int l2)] 3 rfl (by rw [e_v7]; rfl) (Nat.le_of_ble_eq_true rfl) rfl dX1_anyModulusDivides_33 ?_
        refine g_goto (pc := 36) (tgt := 2) X dX1_anyModulusDivides_36 rfl ?_
        refine g_sub [1, 2, 3, 0] rfl ?_
        cases h
        exact hb2 _ hA
      · replace h := if_t c8 h
        refine g_iconst (v := 1) (pc := 31) X rfl dX1_anyModulusDivides_31 ?_
        cases h
        exact g_iret (pc := 32) X rfl nz1.1 (hr _ hA) dX1_anyModulusDivides_32
set_option maxRecDepth 100000 in
theorem tl_Cl_anyModulusDivides_L2 {V : Ev} {Γ : Cn} {fin : Option Value × St} {l0 : Nat} {l1 : Int32} {l2 : Int32} {σ : St} {x3 : Int32} (X : Cx V Γ M_X1_anyModulusDivides) (k_l0 : okCl l0) {e : Int32} {A : Int32 → Prop} (hr : ∀ (r : Int32), A r → (some (.int r), σ) = fin) {n : Nat} (h : iter (fun s : Int32 => Cl_anyModulusDivides_L2 l0 l1 l2 σ s) n x3 = some e) (hA : A e) : Go V Γ M_X1_anyModulusDivides (Zm V Γ 1 fin) 2 [(0, .ref (V.2.2.1 + l0)), (1, .int l1), (2, .int l2), (3, .int x3)] [] σ := by
  refine iter_go (G := (fun s : Int32 => Go V Γ M_X1_anyModulusDivides (Zm V Γ 1 fin) 2 [(0, .ref (V.2.2.1 + l0)), (1, .int l1), (2, .int l2), (3, .int s)] [] σ)) (fun s o ho hS => ?_) n x3 h
  exact tb_Cl_anyModulusDivides_L2 X k_l0 (fun z0 he => hr z0 (by rw [he]; exact hA)) (fun _ h9 => h9) ho hS
noncomputable def Cl_anyModulusDivides (σ : St) (a0 : Nat) (p1 : Int32) (p2 : Int32) : Option Int32 :=
  iter (fun s : Int32 => Cl_anyModulusDivides_L2 a0 p1 p2 σ s) FUEL 0
set_option maxRecDepth 100000 in
set_option maxHeartbeats 4000000 in
theorem tm_Cl_anyModulusDivides {V : Ev} {Γ : Cn} {fin : Option Value × St} {σ : St} {a0 : Nat} {p1 : Int32} {p2 : Int32} {o : Int32} (X : Cx V Γ M_X1_anyModulusDivides) {A : Int32 → Prop} (k0 : okCl a0) (hr : ∀ (r : Int32), A r → (some (.int r), σ) = fin) (h : Cl_anyModulusDivides σ a0 p1 p2 = some o) (hA : A o) : Go V Γ M_X1_anyModulusDivides (Zm V Γ 1 fin) 0 [(0, .ref (V.2.2.1 + a0)), (1, .int p1), (2, .int p2)] [] σ := by
  unfold Cl_anyModulusDivides at h
  refine g_iconst (v := 0) (pc := 0) X rfl dX1_anyModulusDivides_0 ?_
  refine g_istore_n (pc := 1) X [(3, .int 0), (0, .ref (V.2.2.1 + a0)), (1, .int p1), (2, .int p2)] rfl (Nat.le_of_ble_eq_true rfl) rfl dX1_anyModulusDivides_1 ?_
  refine g_sub [1, 2, 3, 0] rfl ?_
  exact tl_Cl_anyModulusDivides_L2 X k0 hr h hA
set_option maxRecDepth 100000 in
theorem run_Cl_anyModulusDivides {V : Ev} {σ : St} {a0 : Nat} {p1 : Int32} {p2 : Int32} {o : Int32} (k0 : okCl a0)  (h : Cl_anyModulusDivides σ a0 p1 p2 = some o) : Rs V 1 M_X1_anyModulusDivides [.ref (V.2.2.1 + a0), .int p1, .int p2] σ (some (.int o), σ) := by
  refine Rs.of (by decide +kernel) (Nat.le_of_ble_eq_true rfl) (fun Γ X => ?_)
  exact tm_Cl_anyModulusDivides X (A := fun o1 => o1 = o) k0 (fun _ e => by rw [e]) h rfl
theorem dX1_leastOfBoth_0 : decode cX1_leastOfBoth 0 = .ok (.iconst 0, 1) := by decide +kernel
theorem dX1_leastOfBoth_1 : decode cX1_leastOfBoth 1 = .ok (.istore_n 3, 1) := by decide +kernel
theorem dX1_leastOfBoth_2 : decode cX1_leastOfBoth 2 = .ok (.iload_n 3, 1) := by decide +kernel
theorem dX1_leastOfBoth_3 : decode cX1_leastOfBoth 3 = .ok (.aload_n 0, 1) := by decide +kernel
theorem dX1_leastOfBoth_4 : decode cX1_leastOfBoth 4 = .ok (.getfield 15, 3) := by decide +kernel
theorem dX1_leastOfBoth_7 : decode cX1_leastOfBoth 7 = .ok (.iload_n 2, 1) := by decide +kernel
theorem dX1_leastOfBoth_8 : decode cX1_leastOfBoth 8 = .ok (.iaload, 1) := by decide +kernel
theorem dX1_leastOfBoth_9 : decode cX1_leastOfBoth 9 = .ok (.if_icmp .ge 39, 3) := by decide +kernel
theorem dX1_leastOfBoth_12 : decode cX1_leastOfBoth 12 = .ok (.aload_n 0, 1) := by decide +kernel
theorem dX1_leastOfBoth_13 : decode cX1_leastOfBoth 13 = .ok (.getfield 9, 3) := by decide +kernel
theorem dX1_leastOfBoth_16 : decode cX1_leastOfBoth 16 = .ok (.iload_n 1, 1) := by decide +kernel
theorem dX1_leastOfBoth_17 : decode cX1_leastOfBoth 17 = .ok (.iaload, 1) := by decide +kernel
theorem dX1_leastOfBoth_18 : decode cX1_leastOfBoth 18 = .ok (.iload_n 3, 1) := by decide +kernel
theorem dX1_leastOfBoth_19 : decode cX1_leastOfBoth 19 = .ok (.aload_n 0, 1) := by decide +kernel
theorem dX1_leastOfBoth_20 : decode cX1_leastOfBoth 20 = .ok (.getfield 15, 3) := by decide +kernel
theorem dX1_leastOfBoth_23 : decode cX1_leastOfBoth 23 = .ok (.iload_n 1, 1) := by decide +kernel
theorem dX1_leastOfBoth_24 : decode cX1_leastOfBoth 24 = .ok (.iaload, 1) := by decide +kernel
theorem dX1_leastOfBoth_25 : decode cX1_leastOfBoth 25 = .ok (.imul, 1) := by decide +kernel
theorem dX1_leastOfBoth_26 : decode cX1_leastOfBoth 26 = .ok (.iadd, 1) := by decide +kernel
theorem dX1_leastOfBoth_27 : decode cX1_leastOfBoth 27 = .ok (.istore 4, 2) := by decide +kernel
theorem dX1_leastOfBoth_29 : decode cX1_leastOfBoth 29 = .ok (.aload_n 0, 1) := by decide +kernel
theorem dX1_leastOfBoth_30 : decode cX1_leastOfBoth 30 = .ok (.iload_n 2, 1) := by decide +kernel
theorem dX1_leastOfBoth_31 : decode cX1_leastOfBoth 31 = .ok (.iload 4, 2) := by decide +kernel
theorem dX1_leastOfBoth_33 : decode cX1_leastOfBoth 33 = .ok (.invokevirtual 76, 3) := by decide +kernel
theorem dX1_leastOfBoth_36 : decode cX1_leastOfBoth 36 = .ok (.ifCond .eq 6, 3) := by decide +kernel
theorem dX1_leastOfBoth_39 : decode cX1_leastOfBoth 39 = .ok (.iload 4, 2) := by decide +kernel
theorem dX1_leastOfBoth_41 : decode cX1_leastOfBoth 41 = .ok (.ireturn, 1) := by decide +kernel
theorem dX1_leastOfBoth_42 : decode cX1_leastOfBoth 42 = .ok (.iinc 3 1, 3) := by decide +kernel
theorem dX1_leastOfBoth_45 : decode cX1_leastOfBoth 45 = .ok (.goto (-43), 3) := by decide +kernel
theorem dX1_leastOfBoth_48 : decode cX1_leastOfBoth 48 = .ok (.iconst (-1), 1) := by decide +kernel
theorem dX1_leastOfBoth_49 : decode cX1_leastOfBoth 49 = .ok (.ireturn, 1) := by decide +kernel
noncomputable def Cl_leastOfBoth_L2 (l0 : Nat) (l1 : Int32) (l2 : Int32) (σ : St) (x3 : Int32) : Option (Int32 ⊕ Int32) :=
  chk (ix l2 12) (if (σ.1 (l0 + 2) (tn l2)) ≤ x3 then (some (.inr (-1))) else (chk (ix l1 12) (chk (ix l1 12) (bnd (((σ.1 (l0 + 1) (tn l1)) + (x3 * (σ.1 (l0 + 2) (tn l1))))) (fun v4 => bd (Cl_takes σ l0 l2 v4) (fun r6 => if r6 = 0 then (bnd (x3 + 1) (fun v7 => some (.inl v7))) else (some (.inr v4))))))))
set_option maxRecDepth 100000 in
set_option maxHeartbeats 4000000 in
theorem tb_Cl_leastOfBoth_L2 {V : Ev} {Γ : Cn} {fin : Option Value × St} {l0 : Nat} {l1 : Int32} {l2 : Int32} {σ : St} {x3 : Int32} {o : (Int32 ⊕ Int32)} (X : Cx V Γ M_X1_leastOfBoth) {A : (Int32 ⊕ Int32) → Prop} (k_l0 : okCl l0) (hr : ∀ (r : Int32), A (.inr r) → (some (.int r), σ) = fin) (hb2 : ∀ (x3 : Int32), A (.inl x3) → Go V Γ M_X1_leastOfBoth (Zm V Γ 2 fin) 2 [(0, .ref (V.2.2.1 + l0)), (1, .int l1), (2, .int l2), (3, .int x3)] [] σ) (h : Cl_leastOfBoth_L2 l0 l1 l2 σ x3 = some o) (hA : A o) : Go V Γ M_X1_leastOfBoth (Zm V Γ 2 fin) 2 [(0, .ref (V.2.2.1 + l0)), (1, .int l1), (2, .int l2), (3, .int x3)] [] σ := by
  unfold Cl_leastOfBoth_L2 at h
  refine g_iload_n (pc := 2) X 3 rfl dX1_leastOfBoth_2 ?_
  refine g_aload_n (pc := 3) X 0 rfl dX1_leastOfBoth_3 ?_
  refine g_getR (r := (l0 + 2)) (pc := 4) X k_fl_X1_15 (sCl_0 k_l0) rfl dX1_leastOfBoth_4 ?_
  refine g_iload_n (pc := 7) X 2 rfl dX1_leastOfBoth_7 ?_
  obtain ⟨c1, h⟩ := chk_e h
  refine g_iald (pc := 8) X (sCl_2 k_l0) c1 dX1_leastOfBoth_8 ?_
  refine g_icmp_ge (pc := 9) (tgt := 48) X dX1_leastOfBoth_9 rfl (fun c9 => ?_) (fun c9 => ?_)
  · replace h := if_t c9 h
    refine g_iconst (v := (-1)) (pc := 48) X rfl dX1_leastOfBoth_48 ?_
    cases h
    exact g_iret (pc := 49) X rfl rfl (hr _ hA) dX1_leastOfBoth_49
  · replace h := if_f c9 h
    refine g_aload_n (pc := 12) X 0 rfl dX1_leastOfBoth_12 ?_
    refine g_getR (r := (l0 + 1)) (pc := 13) X k_fl_X1_9 (sCl_0 k_l0) rfl dX1_leastOfBoth_13 ?_
    refine g_iload_n (pc := 16) X 1 rfl dX1_leastOfBoth_16 ?_
    obtain ⟨c2, h⟩ := chk_e h
    refine g_iald (pc := 17) X (sCl_1 k_l0) c2 dX1_leastOfBoth_17 ?_
    refine g_iload_n (pc := 18) X 3 rfl dX1_leastOfBoth_18 ?_
    refine g_aload_n (pc := 19) X 0 rfl dX1_leastOfBoth_19 ?_
    refine g_getR (r := (l0 + 2)) (pc := 20) X k_fl_X1_15 (sCl_0 k_l0) rfl dX1_leastOfBoth_20 ?_
    refine g_iload_n (pc := 23) X 1 rfl dX1_leastOfBoth_23 ?_
    obtain ⟨c3, h⟩ := chk_e h
    refine g_iald (pc := 24) X (sCl_2 k_l0) c3 dX1_leastOfBoth_24 ?_
    refine g_imul (pc := 25) X dX1_leastOfBoth_25 ?_
    refine g_iadd (pc := 26) X dX1_leastOfBoth_26 ?_
    obtain ⟨v4, e_v4, h⟩ := bnd_e h
    refine g_nmI e_v4 ?_
    refine g_istore (pc := 27) X [(4, .int v4), (0, .ref (V.2.2.1 + l0)), (1, .int l1), (2, .int l2), (3, .int x3)] (Nat.le_of_ble_eq_true rfl) rfl dX1_leastOfBoth_27 ?_
    refine g_aload_n (pc := 29) X 1 rfl dX1_leastOfBoth_29 ?_
    refine g_iload_n (pc := 30) X 3 rfl dX1_leastOfBoth_30 ?_
    refine g_iload (pc := 31) X 0 rfl dX1_leastOfBoth_31 ?_
    obtain ⟨r6, hc5, h⟩ := bd_e h
    refine g_callV (pc := 33) X k_ml_X1_76 (run_Cl_takes k_l0 hc5) (sCl_0 k_l0) rfl (room_ok (Nat.le_of_ble_eq_true rfl) (Nat.le_of_ble_eq_true rfl)) ⟨Nat.le_refl _, Nat.le_refl _⟩ _ rfl (Nat.le_of_ble_eq_true rfl) dX1_leastOfBoth_33 ?_
    show Go V Γ M_X1_leastOfBoth (Zm V Γ 2 fin) 36 [(4, .int v4), (0, .ref (V.2.2.1 + l0)), (1, .int l1), (2, .int l2), (3, .int x3)] [.int r6] σ
    refine g_if_eq (pc := 36) (tgt := 42) X dX1_leastOfBoth_36 rfl (fun c8 => ?_) (fun c8 => ?_)
    · replace h := if_t c8 h
      obtain ⟨v7, e_v7, h⟩ := bnd_e h
      refine g_iinc (pc := 42) (v := v7) X [(3, .int v7), (4, .int v4), (0, .ref (V.2.2.1 + l0)), (1, .int l1), (2, .int l2)] 4 rfl (by rw [e_v7]; rfl) (Nat.le_of_ble_eq_true rfl) rfl dX1_leastOfBoth_42 ?_
      refine g_goto (pc := 45) (tgt := 2) X dX1_leastOfBoth_45 rfl ?_
      refine g_sub [2, 3, 4, 0] rfl ?_
      cases h
      exact hb2 _ hA
    · replace h := if_f c8 h
      refine g_iload (pc := 39) X 0 rfl dX1_leastOfBoth_39 ?_
      cases h
      exact g_iret (pc := 41) X rfl rfl (hr _ hA) dX1_leastOfBoth_41
set_option maxRecDepth 100000 in
theorem tl_Cl_leastOfBoth_L2 {V : Ev} {Γ : Cn} {fin : Option Value × St} {l0 : Nat} {l1 : Int32} {l2 : Int32} {σ : St} {x3 : Int32} (X : Cx V Γ M_X1_leastOfBoth) (k_l0 : okCl l0) {e : Int32} {A : Int32 → Prop} (hr : ∀ (r : Int32), A r → (some (.int r), σ) = fin) {n : Nat} (h : iter (fun s : Int32 => Cl_leastOfBoth_L2 l0 l1 l2 σ s) n x3 = some e) (hA : A e) : Go V Γ M_X1_leastOfBoth (Zm V Γ 2 fin) 2 [(0, .ref (V.2.2.1 + l0)), (1, .int l1), (2, .int l2), (3, .int x3)] [] σ := by
  refine iter_go (G := (fun s : Int32 => Go V Γ M_X1_leastOfBoth (Zm V Γ 2 fin) 2 [(0, .ref (V.2.2.1 + l0)), (1, .int l1), (2, .int l2), (3, .int s)] [] σ)) (fun s o ho hS => ?_) n x3 h
  exact tb_Cl_leastOfBoth_L2 X k_l0 (fun z0 he => hr z0 (by rw [he]; exact hA)) (fun _ h9 => h9) ho hS
noncomputable def Cl_leastOfBoth (σ : St) (a0 : Nat) (p1 : Int32) (p2 : Int32) : Option Int32 :=
  iter (fun s : Int32 => Cl_leastOfBoth_L2 a0 p1 p2 σ s) FUEL 0
set_option maxRecDepth 100000 in
set_option maxHeartbeats 4000000 in
theorem tm_Cl_leastOfBoth {V : Ev} {Γ : Cn} {fin : Option Value × St} {σ : St} {a0 : Nat} {p1 : Int32} {p2 : Int32} {o : Int32} (X : Cx V Γ M_X1_leastOfBoth) {A : Int32 → Prop} (k0 : okCl a0) (hr : ∀ (r : Int32), A r → (some (.int r), σ) = fin) (h : Cl_leastOfBoth σ a0 p1 p2 = some o) (hA : A o) : Go V Γ M_X1_leastOfBoth (Zm V Γ 2 fin) 0 [(0, .ref (V.2.2.1 + a0)), (1, .int p1), (2, .int p2)] [] σ := by
  unfold Cl_leastOfBoth at h
  refine g_iconst (v := 0) (pc := 0) X rfl dX1_leastOfBoth_0 ?_
  refine g_istore_n (pc := 1) X [(3, .int 0), (0, .ref (V.2.2.1 + a0)), (1, .int p1), (2, .int p2)] rfl (Nat.le_of_ble_eq_true rfl) rfl dX1_leastOfBoth_1 ?_
  refine g_sub [1, 2, 3, 0] rfl ?_
  exact tl_Cl_leastOfBoth_L2 X k0 hr h hA
set_option maxRecDepth 100000 in
theorem run_Cl_leastOfBoth {V : Ev} {σ : St} {a0 : Nat} {p1 : Int32} {p2 : Int32} {o : Int32} (k0 : okCl a0)  (h : Cl_leastOfBoth σ a0 p1 p2 = some o) : Rs V 2 M_X1_leastOfBoth [.ref (V.2.2.1 + a0), .int p1, .int p2] σ (some (.int o), σ) := by
  refine Rs.of (by decide +kernel) (Nat.le_of_ble_eq_true rfl) (fun Γ X => ?_)
  exact tm_Cl_leastOfBoth X (A := fun o1 => o1 = o) k0 (fun _ e => by rw [e]) h rfl
theorem dJ6_bitCount_0f7a4_0 : decode cJ6_bitCount_0f7a4 0 = .ok (.iload_n 0, 1) := by decide +kernel
theorem dJ6_bitCount_0f7a4_1 : decode cJ6_bitCount_0f7a4 1 = .ok (.iload_n 0, 1) := by decide +kernel
theorem dJ6_bitCount_0f7a4_2 : decode cJ6_bitCount_0f7a4 2 = .ok (.iconst 1, 1) := by decide +kernel
theorem dJ6_bitCount_0f7a4_3 : decode cJ6_bitCount_0f7a4 3 = .ok (.iushr, 1) := by decide +kernel
theorem dJ6_bitCount_0f7a4_4 : decode cJ6_bitCount_0f7a4 4 = .ok (.ldc_w 265, 3) := by decide +kernel
theorem dJ6_bitCount_0f7a4_7 : decode cJ6_bitCount_0f7a4 7 = .ok (.iand, 1) := by decide +kernel
theorem dJ6_bitCount_0f7a4_8 : decode cJ6_bitCount_0f7a4 8 = .ok (.isub, 1) := by decide +kernel
theorem dJ6_bitCount_0f7a4_9 : decode cJ6_bitCount_0f7a4 9 = .ok (.istore_n 0, 1) := by decide +kernel
theorem dJ6_bitCount_0f7a4_10 : decode cJ6_bitCount_0f7a4 10 = .ok (.iload_n 0, 1) := by decide +kernel
theorem dJ6_bitCount_0f7a4_11 : decode cJ6_bitCount_0f7a4 11 = .ok (.ldc_w 266, 3) := by decide +kernel
theorem dJ6_bitCount_0f7a4_14 : decode cJ6_bitCount_0f7a4 14 = .ok (.iand, 1) := by decide +kernel
theorem dJ6_bitCount_0f7a4_15 : decode cJ6_bitCount_0f7a4 15 = .ok (.iload_n 0, 1) := by decide +kernel
theorem dJ6_bitCount_0f7a4_16 : decode cJ6_bitCount_0f7a4 16 = .ok (.iconst 2, 1) := by decide +kernel
theorem dJ6_bitCount_0f7a4_17 : decode cJ6_bitCount_0f7a4 17 = .ok (.iushr, 1) := by decide +kernel
theorem dJ6_bitCount_0f7a4_18 : decode cJ6_bitCount_0f7a4 18 = .ok (.ldc_w 266, 3) := by decide +kernel
theorem dJ6_bitCount_0f7a4_21 : decode cJ6_bitCount_0f7a4 21 = .ok (.iand, 1) := by decide +kernel
theorem dJ6_bitCount_0f7a4_22 : decode cJ6_bitCount_0f7a4 22 = .ok (.iadd, 1) := by decide +kernel
theorem dJ6_bitCount_0f7a4_23 : decode cJ6_bitCount_0f7a4 23 = .ok (.istore_n 0, 1) := by decide +kernel
theorem dJ6_bitCount_0f7a4_24 : decode cJ6_bitCount_0f7a4 24 = .ok (.iload_n 0, 1) := by decide +kernel
theorem dJ6_bitCount_0f7a4_25 : decode cJ6_bitCount_0f7a4 25 = .ok (.iload_n 0, 1) := by decide +kernel
theorem dJ6_bitCount_0f7a4_26 : decode cJ6_bitCount_0f7a4 26 = .ok (.iconst 4, 1) := by decide +kernel
theorem dJ6_bitCount_0f7a4_27 : decode cJ6_bitCount_0f7a4 27 = .ok (.iushr, 1) := by decide +kernel
theorem dJ6_bitCount_0f7a4_28 : decode cJ6_bitCount_0f7a4 28 = .ok (.iadd, 1) := by decide +kernel
theorem dJ6_bitCount_0f7a4_29 : decode cJ6_bitCount_0f7a4 29 = .ok (.ldc_w 267, 3) := by decide +kernel
theorem dJ6_bitCount_0f7a4_32 : decode cJ6_bitCount_0f7a4 32 = .ok (.iand, 1) := by decide +kernel
theorem dJ6_bitCount_0f7a4_33 : decode cJ6_bitCount_0f7a4 33 = .ok (.istore_n 0, 1) := by decide +kernel
theorem dJ6_bitCount_0f7a4_34 : decode cJ6_bitCount_0f7a4 34 = .ok (.iload_n 0, 1) := by decide +kernel
theorem dJ6_bitCount_0f7a4_35 : decode cJ6_bitCount_0f7a4 35 = .ok (.iload_n 0, 1) := by decide +kernel
theorem dJ6_bitCount_0f7a4_36 : decode cJ6_bitCount_0f7a4 36 = .ok (.bipush 8, 2) := by decide +kernel
theorem dJ6_bitCount_0f7a4_38 : decode cJ6_bitCount_0f7a4 38 = .ok (.iushr, 1) := by decide +kernel
theorem dJ6_bitCount_0f7a4_39 : decode cJ6_bitCount_0f7a4 39 = .ok (.iadd, 1) := by decide +kernel
theorem dJ6_bitCount_0f7a4_40 : decode cJ6_bitCount_0f7a4 40 = .ok (.istore_n 0, 1) := by decide +kernel
theorem dJ6_bitCount_0f7a4_41 : decode cJ6_bitCount_0f7a4 41 = .ok (.iload_n 0, 1) := by decide +kernel
theorem dJ6_bitCount_0f7a4_42 : decode cJ6_bitCount_0f7a4 42 = .ok (.iload_n 0, 1) := by decide +kernel
theorem dJ6_bitCount_0f7a4_43 : decode cJ6_bitCount_0f7a4 43 = .ok (.bipush 16, 2) := by decide +kernel
theorem dJ6_bitCount_0f7a4_45 : decode cJ6_bitCount_0f7a4 45 = .ok (.iushr, 1) := by decide +kernel
theorem dJ6_bitCount_0f7a4_46 : decode cJ6_bitCount_0f7a4 46 = .ok (.iadd, 1) := by decide +kernel
theorem dJ6_bitCount_0f7a4_47 : decode cJ6_bitCount_0f7a4 47 = .ok (.istore_n 0, 1) := by decide +kernel
theorem dJ6_bitCount_0f7a4_48 : decode cJ6_bitCount_0f7a4 48 = .ok (.iload_n 0, 1) := by decide +kernel
theorem dJ6_bitCount_0f7a4_49 : decode cJ6_bitCount_0f7a4 49 = .ok (.bipush 63, 2) := by decide +kernel
theorem dJ6_bitCount_0f7a4_51 : decode cJ6_bitCount_0f7a4 51 = .ok (.iand, 1) := by decide +kernel
theorem dJ6_bitCount_0f7a4_52 : decode cJ6_bitCount_0f7a4 52 = .ok (.ireturn, 1) := by decide +kernel
noncomputable def JI_bitCount_0f7a4 (p0 : Int32) : Option Int32 :=
  bnd ((p0 - (((p0.toUInt32 >>> ((1 : Int32).toUInt32 &&& Int32.toUInt32 31)).toInt32) &&& 1431655765))) (fun v1 => bnd (((v1 &&& 858993459) + (((v1.toUInt32 >>> ((2 : Int32).toUInt32 &&& Int32.toUInt32 31)).toInt32) &&& 858993459))) (fun v2 => bnd (((v2 + ((v2.toUInt32 >>> ((4 : Int32).toUInt32 &&& Int32.toUInt32 31)).toInt32)) &&& 252645135)) (fun v3 => bnd ((v3 + ((v3.toUInt32 >>> ((8 : Int32).toUInt32 &&& Int32.toUInt32 31)).toInt32))) (fun v4 => bnd ((v4 + ((v4.toUInt32 >>> ((16 : Int32).toUInt32 &&& Int32.toUInt32 31)).toInt32))) (fun v5 => some (v5 &&& 63))))))
set_option maxRecDepth 100000 in
set_option maxHeartbeats 4000000 in
theorem tm_JI_bitCount_0f7a4 {V : Ev} {Γ : Cn} {fin : Option Value × St} {σ : St} {p0 : Int32} {o : Int32} (X : Cx V Γ M_J6_bitCount_0f7a4) {A : Int32 → Prop}  (hr : ∀ (r : Int32), A r → (some (.int r), σ) = fin) (h : JI_bitCount_0f7a4 p0 = some o) (hA : A o) : Go V Γ M_J6_bitCount_0f7a4 (Zm V Γ 0 fin) 0 [(0, .int p0)] [] σ := by
  unfold JI_bitCount_0f7a4 at h
  refine g_iload_n (pc := 0) X 0 rfl dJ6_bitCount_0f7a4_0 ?_
  refine g_iload_n (pc := 1) X 0 rfl dJ6_bitCount_0f7a4_1 ?_
  refine g_iconst (v := 1) (pc := 2) X rfl dJ6_bitCount_0f7a4_2 ?_
  refine g_iushr (pc := 3) X dJ6_bitCount_0f7a4_3 ?_
  refine g_ldcw (v := 1431655765) (pc := 4) X (k_const_J6_265) dJ6_bitCount_0f7a4_4 ?_
  refine g_iand (pc := 7) X dJ6_bitCount_0f7a4_7 ?_
  refine g_isub (pc := 8) X dJ6_bitCount_0f7a4_8 ?_
  obtain ⟨v1, e_v1, h⟩ := bnd_e h
  refine g_nmI e_v1 ?_
  refine g_istore_n (pc := 9) X [(0, .int v1)] rfl (Nat.le_of_ble_eq_true rfl) rfl dJ6_bitCount_0f7a4_9 ?_
  refine g_iload_n (pc := 10) X 0 rfl dJ6_bitCount_0f7a4_10 ?_
  refine g_ldcw (v := 858993459) (pc := 11) X (k_const_J6_266) dJ6_bitCount_0f7a4_11 ?_
  refine g_iand (pc := 14) X dJ6_bitCount_0f7a4_14 ?_
  refine g_iload_n (pc := 15) X 0 rfl dJ6_bitCount_0f7a4_15 ?_
  refine g_iconst (v := 2) (pc := 16) X rfl dJ6_bitCount_0f7a4_16 ?_
  refine g_iushr (pc := 17) X dJ6_bitCount_0f7a4_17 ?_
  refine g_ldcw (v := 858993459) (pc := 18) X (k_const_J6_266) dJ6_bitCount_0f7a4_18 ?_
  refine g_iand (pc := 21) X dJ6_bitCount_0f7a4_21 ?_
  refine g_iadd (pc := 22) X dJ6_bitCount_0f7a4_22 ?_
  obtain ⟨v2, e_v2, h⟩ := bnd_e h
  refine g_nmI e_v2 ?_
  refine g_istore_n (pc := 23) X [(0, .int v2)] rfl (Nat.le_of_ble_eq_true rfl) rfl dJ6_bitCount_0f7a4_23 ?_
  refine g_iload_n (pc := 24) X 0 rfl dJ6_bitCount_0f7a4_24 ?_
  refine g_iload_n (pc := 25) X 0 rfl dJ6_bitCount_0f7a4_25 ?_
  refine g_iconst (v := 4) (pc := 26) X rfl dJ6_bitCount_0f7a4_26 ?_
  refine g_iushr (pc := 27) X dJ6_bitCount_0f7a4_27 ?_
  refine g_iadd (pc := 28) X dJ6_bitCount_0f7a4_28 ?_
  refine g_ldcw (v := 252645135) (pc := 29) X (k_const_J6_267) dJ6_bitCount_0f7a4_29 ?_
  refine g_iand (pc := 32) X dJ6_bitCount_0f7a4_32 ?_
  obtain ⟨v3, e_v3, h⟩ := bnd_e h
  refine g_nmI e_v3 ?_
  refine g_istore_n (pc := 33) X [(0, .int v3)] rfl (Nat.le_of_ble_eq_true rfl) rfl dJ6_bitCount_0f7a4_33 ?_
  refine g_iload_n (pc := 34) X 0 rfl dJ6_bitCount_0f7a4_34 ?_
  refine g_iload_n (pc := 35) X 0 rfl dJ6_bitCount_0f7a4_35 ?_
  refine g_bipush (v := 8) (pc := 36) X (by decide) dJ6_bitCount_0f7a4_36 ?_
  refine g_iushr (pc := 38) X dJ6_bitCount_0f7a4_38 ?_
  refine g_iadd (pc := 39) X dJ6_bitCount_0f7a4_39 ?_
  obtain ⟨v4, e_v4, h⟩ := bnd_e h
  refine g_nmI e_v4 ?_
  refine g_istore_n (pc := 40) X [(0, .int v4)] rfl (Nat.le_of_ble_eq_true rfl) rfl dJ6_bitCount_0f7a4_40 ?_
  refine g_iload_n (pc := 41) X 0 rfl dJ6_bitCount_0f7a4_41 ?_
  refine g_iload_n (pc := 42) X 0 rfl dJ6_bitCount_0f7a4_42 ?_
  refine g_bipush (v := 16) (pc := 43) X (by decide) dJ6_bitCount_0f7a4_43 ?_
  refine g_iushr (pc := 45) X dJ6_bitCount_0f7a4_45 ?_
  refine g_iadd (pc := 46) X dJ6_bitCount_0f7a4_46 ?_
  obtain ⟨v5, e_v5, h⟩ := bnd_e h
  refine g_nmI e_v5 ?_
  refine g_istore_n (pc := 47) X [(0, .int v5)] rfl (Nat.le_of_ble_eq_true rfl) rfl dJ6_bitCount_0f7a4_47 ?_
  refine g_iload_n (pc := 48) X 0 rfl dJ6_bitCount_0f7a4_48 ?_
  refine g_bipush (v := 63) (pc := 49) X (by decide) dJ6_bitCount_0f7a4_49 ?_
  refine g_iand (pc := 51) X dJ6_bitCount_0f7a4_51 ?_
  cases h
  exact g_iret (pc := 52) X rfl rfl (hr _ hA) dJ6_bitCount_0f7a4_52
set_option maxRecDepth 100000 in
theorem run_JI_bitCount_0f7a4 {V : Ev} {σ : St} {p0 : Int32} {o : Int32}   (h : JI_bitCount_0f7a4 p0 = some o) : Rs V 0 M_J6_bitCount_0f7a4 [.int p0] σ (some (.int o), σ) := by
  refine Rs.of (by decide +kernel) (Nat.le_of_ble_eq_true rfl) (fun Γ X => ?_)
  exact tm_JI_bitCount_0f7a4 X (A := fun o1 => o1 = o)  (fun _ e => by rw [e]) h rfl
theorem dX1_couples_0 : decode cX1_couples 0 = .ok (.iconst 0, 1) := by decide +kernel
theorem dX1_couples_1 : decode cX1_couples 1 = .ok (.istore_n 1, 1) := by decide +kernel
theorem dX1_couples_2 : decode cX1_couples 2 = .ok (.iconst 0, 1) := by decide +kernel
theorem dX1_couples_3 : decode cX1_couples 3 = .ok (.istore_n 2, 1) := by decide +kernel
theorem dX1_couples_4 : decode cX1_couples 4 = .ok (.iload_n 2, 1) := by decide +kernel
theorem dX1_couples_5 : decode cX1_couples 5 = .ok (.aload_n 0, 1) := by decide +kernel
theorem dX1_couples_6 : decode cX1_couples 6 = .ok (.getfield 22, 3) := by decide +kernel
theorem dX1_couples_9 : decode cX1_couples 9 = .ok (.if_icmp .ge 51, 3) := by decide +kernel
theorem dX1_couples_12 : decode cX1_couples 12 = .ok (.aload_n 0, 1) := by decide +kernel
theorem dX1_couples_13 : decode cX1_couples 13 = .ok (.iload_n 2, 1) := by decide +kernel
theorem dX1_couples_14 : decode cX1_couples 14 = .ok (.invokevirtual 50, 3) := by decide +kernel
theorem dX1_couples_17 : decode cX1_couples 17 = .ok (.ifCond .eq 37, 3) := by decide +kernel
theorem dX1_couples_20 : decode cX1_couples 20 = .ok (.aload_n 0, 1) := by decide +kernel
theorem dX1_couples_21 : decode cX1_couples 21 = .ok (.getfield 26, 3) := by decide +kernel
theorem dX1_couples_24 : decode cX1_couples 24 = .ok (.iconst 1, 1) := by decide +kernel
theorem dX1_couples_25 : decode cX1_couples 25 = .ok (.iload_n 2, 1) := by decide +kernel
theorem dX1_couples_26 : decode cX1_couples 26 = .ok (.ishl, 1) := by decide +kernel
theorem dX1_couples_27 : decode cX1_couples 27 = .ok (.iconst 1, 1) := by decide +kernel
theorem dX1_couples_28 : decode cX1_couples 28 = .ok (.isub, 1) := by decide +kernel
theorem dX1_couples_29 : decode cX1_couples 29 = .ok (.iand, 1) := by decide +kernel
theorem dX1_couples_30 : decode cX1_couples 30 = .ok (.istore_n 3, 1) := by decide +kernel
theorem dX1_couples_31 : decode cX1_couples 31 = .ok (.iload_n 1, 1) := by decide +kernel
theorem dX1_couples_32 : decode cX1_couples 32 = .ok (.aload_n 0, 1) := by decide +kernel
theorem dX1_couples_33 : decode cX1_couples 33 = .ok (.iload_n 3, 1) := by decide +kernel
theorem dX1_couples_34 : decode cX1_couples 34 = .ok (.aload_n 0, 1) := by decide +kernel
theorem dX1_couples_35 : decode cX1_couples 35 = .ok (.getfield 9, 3) := by decide +kernel
theorem dX1_couples_38 : decode cX1_couples 38 = .ok (.iload_n 2, 1) := by decide +kernel
theorem dX1_couples_39 : decode cX1_couples 39 = .ok (.iaload, 1) := by decide +kernel
theorem dX1_couples_40 : decode cX1_couples 40 = .ok (.aload_n 0, 1) := by decide +kernel
theorem dX1_couples_41 : decode cX1_couples 41 = .ok (.getfield 15, 3) := by decide +kernel
theorem dX1_couples_44 : decode cX1_couples 44 = .ok (.iload_n 2, 1) := by decide +kernel
theorem dX1_couples_45 : decode cX1_couples 45 = .ok (.iaload, 1) := by decide +kernel
theorem dX1_couples_46 : decode cX1_couples 46 = .ok (.invokevirtual 83, 3) := by decide +kernel
theorem dX1_couples_49 : decode cX1_couples 49 = .ok (.invokestatic 87, 3) := by decide +kernel
theorem dX1_couples_52 : decode cX1_couples 52 = .ok (.iadd, 1) := by decide +kernel
theorem dX1_couples_53 : decode cX1_couples 53 = .ok (.istore_n 1, 1) := by decide +kernel
theorem dX1_couples_54 : decode cX1_couples 54 = .ok (.iinc 2 1, 3) := by decide +kernel
theorem dX1_couples_57 : decode cX1_couples 57 = .ok (.goto (-53), 3) := by decide +kernel
theorem dX1_couples_60 : decode cX1_couples 60 = .ok (.iload_n 1, 1) := by decide +kernel
theorem dX1_couples_61 : decode cX1_couples 61 = .ok (.ireturn, 1) := by decide +kernel
noncomputable def Cl_couples_L4 (l0 : Nat) (σ : St) (x1 : Int32) (x2 : Int32) : Option ((Int32 × Int32) ⊕ Int32) :=
  if (σ.1 l0 3) ≤ x2 then (some (.inr x1)) else (bd (Cl_isOn σ l0 x2) (fun r2 => if r2 = 0 then (bnd (x2 + 1) (fun v3 => some (.inl (x1, v3)))) else (bnd (((σ.1 l0 4) &&& ((1 <<< (x2 &&& 31)) - 1))) (fun v4 => chk (ix x2 12) (chk (ix x2 12) (bd (Cl_touching σ l0 v4 (σ.1 (l0 + 1) (tn x2)) (σ.1 (l0 + 2) (tn x2))) (fun r8 => bd (JI_bitCount_0f7a4 r8) (fun r10 => bnd ((x1 + r10)) (fun v11 => bnd (x2 + 1) (fun v12 => some (.inl (v11, v12))))))))))))
set_option maxRecDepth 100000 in
set_option maxHeartbeats 4000000 in
theorem tb_Cl_couples_L4 {V : Ev} {Γ : Cn} {fin : Option Value × St} {l0 : Nat} {σ : St} {x1 : Int32} {x2 : Int32} {o : ((Int32 × Int32) ⊕ Int32)} (X : Cx V Γ M_X1_couples) {A : ((Int32 × Int32) ⊕ Int32) → Prop} (k_l0 : okCl l0) (hb4 : ∀ (x1 : Int32) (x2 : Int32), A (.inl (x1, x2)) → Go V Γ M_X1_couples (Zm V Γ 3 fin) 4 [(0, .ref (V.2.2.1 + l0)), (1, .int x1), (2, .int x2)] [] σ) (hx4 : ∀ (x1 : Int32), A (.inr x1) → Go V Γ M_X1_couples (Zm V Γ 3 fin) 60 [(1, .int x1)] [] σ) (h : Cl_couples_L4 l0 σ x1 x2 = some o) (hA : A o) : Go V Γ M_X1_couples (Zm V Γ 3 fin) 4 [(0, .ref (V.2.2.1 + l0)), (1, .int x1), (2, .int x2)] [] σ := by
  unfold Cl_couples_L4 at h
  refine g_iload_n (pc := 4) X 2 rfl dX1_couples_4 ?_
  refine g_aload_n (pc := 5) X 0 rfl dX1_couples_5 ?_
  refine g_getI (pc := 6) X k_fl_X1_22 (sCl_0 k_l0) rfl dX1_couples_6 ?_
  refine g_icmp_ge (pc := 9) (tgt := 60) X dX1_couples_9 rfl (fun c14 => ?_) (fun c14 => ?_)
  · replace h := if_t c14 h
    refine g_sub [1] rfl ?_
    cases h
    exact hx4 _ hA
  · replace h := if_f c14 h
    refine g_aload_n (pc := 12) X 0 rfl dX1_couples_12 ?_
    refine g_iload_n (pc := 13) X 2 rfl dX1_couples_13 ?_
    obtain ⟨r2, hc1, h⟩ := bd_e h
    refine g_callV (pc := 14) X k_ml_X1_50 (run_Cl_isOn k_l0 hc1) (sCl_0 k_l0) rfl (room_ok (Nat.le_of_ble_eq_true rfl) (Nat.le_of_ble_eq_true rfl)) ⟨Nat.le_refl _, Nat.le_refl _⟩ _ rfl (Nat.le_of_ble_eq_true rfl) dX1_couples_14 ?_
    show Go V Γ M_X1_couples (Zm V Γ 3 fin) 17 [(0, .ref (V.2.2.1 + l0)), (1, .int x1), (2, .int x2)] [.int r2] σ
    refine g_if_eq (pc := 17) (tgt := 54) X dX1_couples_17 rfl (fun c13 => ?_) (fun c13 => ?_)
    · replace h := if_t c13 h
      obtain ⟨v3, e_v3, h⟩ := bnd_e h
      refine g_iinc (pc := 54) (v := v3) X [(2, .int v3), (0, .ref (V.2.2.1 + l0)), (1, .int x1)] 2 rfl (by rw [e_v3]; rfl) (Nat.le_of_ble_eq_true rfl) rfl dX1_couples_54 ?_
      refine g_goto (pc := 57) (tgt := 4) X dX1_couples_57 rfl ?_
      refine g_sub [1, 2, 0] rfl ?_
      cases h
      exact hb4 _ _ hA
    · replace h := if_f c13 h
      refine g_aload_n (pc := 20) X 0 rfl dX1_couples_20 ?_
      refine g_getI (pc := 21) X k_fl_X1_26 (sCl_0 k_l0) rfl dX1_couples_21 ?_
      refine g_iconst (v := 1) (pc := 24) X rfl dX1_couples_24 ?_
      refine g_iload_n (pc := 25) X 2 rfl dX1_couples_25 ?_
      refine g_ishl (pc := 26) X dX1_couples_26 ?_
      refine g_iconst (v := 1) (pc := 27) X rfl dX1_couples_27 ?_
      refine g_isub (pc := 28) X dX1_couples_28 ?_
      refine g_iand (pc := 29) X dX1_couples_29 ?_
      obtain ⟨v4, e_v4, h⟩ := bnd_e h
      refine g_nmI e_v4 ?_
      refine g_istore_n (pc := 30) X [(3, .int v4), (0, .ref (V.2.2.1 + l0)), (1, .int x1), (2, .int x2)] rfl (Nat.le_of_ble_eq_true rfl) rfl dX1_couples_30 ?_
      refine g_iload_n (pc := 31) X 2 rfl dX1_couples_31 ?_
      refine g_aload_n (pc := 32) X 1 rfl dX1_couples_32 ?_
      refine g_iload_n (pc := 33) X 0 rfl dX1_couples_33 ?_
      refine g_aload_n (pc := 34) X 1 rfl dX1_couples_34 ?_
      refine g_getR (r := (l0 + 1)) (pc := 35) X k_fl_X1_9 (sCl_0 k_l0) rfl dX1_couples_35 ?_
      refine g_iload_n (pc := 38) X 3 rfl dX1_couples_38 ?_
      obtain ⟨c5, h⟩ := chk_e h
      refine g_iald (pc := 39) X (sCl_1 k_l0) c5 dX1_couples_39 ?_
      refine g_aload_n (pc := 40) X 1 rfl dX1_couples_40 ?_
      refine g_getR (r := (l0 + 2)) (pc := 41) X k_fl_X1_15 (sCl_0 k_l0) rfl dX1_couples_41 ?_
      refine g_iload_n (pc := 44) X 3 rfl dX1_couples_44 ?_
      obtain ⟨c6, h⟩ := chk_e h
      refine g_iald (pc := 45) X (sCl_2 k_l0) c6 dX1_couples_45 ?_
      obtain ⟨r8, hc7, h⟩ := bd_e h
      refine g_callV (pc := 46) X k_ml_X1_83 (run_Cl_touching k_l0 hc7) (sCl_0 k_l0) rfl (room_ok (Nat.le_of_ble_eq_true rfl) (Nat.le_of_ble_eq_true rfl)) ⟨Nat.le_refl _, Nat.le_refl _⟩ _ rfl (Nat.le_of_ble_eq_true rfl) dX1_couples_46 ?_
      show Go V Γ M_X1_couples (Zm V Γ 3 fin) 49 [(3, .int v4), (0, .ref (V.2.2.1 + l0)), (1, .int x1), (2, .int x2)] [.int r8, .int x1] σ
      obtain ⟨r10, hc9, h⟩ := bd_e h
      refine g_callS (pc := 49) X k_ml_X1_87 (run_JI_bitCount_0f7a4  hc9) rfl (room_ok (Nat.le_of_ble_eq_true rfl) (Nat.le_of_ble_eq_true rfl)) ⟨Nat.le_refl _, Nat.le_refl _⟩ _ rfl (Nat.le_of_ble_eq_true rfl) dX1_couples_49 ?_
      show Go V Γ M_X1_couples (Zm V Γ 3 fin) 52 [(3, .int v4), (0, .ref (V.2.2.1 + l0)), (1, .int x1), (2, .int x2)] [.int r10, .int x1] σ
      refine g_iadd (pc := 52) X dX1_couples_52 ?_
      obtain ⟨v11, e_v11, h⟩ := bnd_e h
      refine g_nmI e_v11 ?_
      refine g_istore_n (pc := 53) X [(1, .int v11), (3, .int v4), (0, .ref (V.2.2.1 + l0)), (2, .int x2)] rfl (Nat.le_of_ble_eq_true rfl) rfl dX1_couples_53 ?_
      obtain ⟨v12, e_v12, h⟩ := bnd_e h
      refine g_iinc (pc := 54) (v := v12) X [(2, .int v12), (1, .int v11), (3, .int v4), (0, .ref (V.2.2.1 + l0))] 3 rfl (by rw [e_v12]; rfl) (Nat.le_of_ble_eq_true rfl) rfl dX1_couples_54 ?_
      refine g_goto (pc := 57) (tgt := 4) X dX1_couples_57 rfl ?_
      refine g_sub [3, 1, 0] rfl ?_
      cases h
      exact hb4 _ _ hA
set_option maxRecDepth 100000 in
theorem tl_Cl_couples_L4 {V : Ev} {Γ : Cn} {fin : Option Value × St} {l0 : Nat} {σ : St} {x1 : Int32} {x2 : Int32} (X : Cx V Γ M_X1_couples) (k_l0 : okCl l0) {y1 : Int32} {n : Nat} (h : iter (fun s : (Int32 × Int32) => Cl_couples_L4 l0 σ s.1 s.2) n (x1, x2) = some y1) (hK : Go V Γ M_X1_couples (Zm V Γ 3 fin) 60 [(1, .int y1)] [] σ) : Go V Γ M_X1_couples (Zm V Γ 3 fin) 4 [(0, .ref (V.2.2.1 + l0)), (1, .int x1), (2, .int x2)] [] σ := by
  refine iter_go (G := (fun s : (Int32 × Int32) => Go V Γ M_X1_couples (Zm V Γ 3 fin) 4 [(0, .ref (V.2.2.1 + l0)), (1, .int s.1), (2, .int s.2)] [] σ)) (fun s o ho hS => ?_) n (x1, x2) h
  exact tb_Cl_couples_L4 X k_l0 (fun _ _ h9 => h9) (fun _ he => by cases he; exact hK) ho hS
noncomputable def Cl_couples (σ : St) (a0 : Nat) : Option Int32 :=
  bd (iter (fun s : (Int32 × Int32) => Cl_couples_L4 a0 σ s.1 s.2) FUEL (0, 0)) (fun v15 => some v15)
set_option maxRecDepth 100000 in
set_option maxHeartbeats 4000000 in
theorem tm_Cl_couples {V : Ev} {Γ : Cn} {fin : Option Value × St} {σ : St} {a0 : Nat} {o : Int32} (X : Cx V Γ M_X1_couples) {A : Int32 → Prop} (k0 : okCl a0) (hr : ∀ (r : Int32), A r → (some (.int r), σ) = fin) (h : Cl_couples σ a0 = some o) (hA : A o) : Go V Γ M_X1_couples (Zm V Γ 3 fin) 0 [(0, .ref (V.2.2.1 + a0))] [] σ := by
  unfold Cl_couples at h
  refine g_iconst (v := 0) (pc := 0) X rfl dX1_couples_0 ?_
  refine g_istore_n (pc := 1) X [(1, .int 0), (0, .ref (V.2.2.1 + a0))] rfl (Nat.le_of_ble_eq_true rfl) rfl dX1_couples_1 ?_
  refine g_iconst (v := 0) (pc := 2) X rfl dX1_couples_2 ?_
  refine g_istore_n (pc := 3) X [(2, .int 0), (1, .int 0), (0, .ref (V.2.2.1 + a0))] rfl (Nat.le_of_ble_eq_true rfl) rfl dX1_couples_3 ?_
  refine g_sub [2, 1, 0] rfl ?_
  obtain ⟨v15, hi16, h⟩ := bd_e h
  refine tl_Cl_couples_L4 X k0 hi16 ?_
  refine g_iload_n (pc := 60) X 0 rfl dX1_couples_60 ?_
  cases h
  exact g_iret (pc := 61) X rfl rfl (hr _ hA) dX1_couples_61
set_option maxRecDepth 100000 in
theorem run_Cl_couples {V : Ev} {σ : St} {a0 : Nat} {o : Int32} (k0 : okCl a0)  (h : Cl_couples σ a0 = some o) : Rs V 3 M_X1_couples [.ref (V.2.2.1 + a0)] σ (some (.int o), σ) := by
  refine Rs.of (by decide +kernel) (Nat.le_of_ble_eq_true rfl) (fun Γ X => ?_)
  exact tm_Cl_couples X (A := fun o1 => o1 = o) k0 (fun _ e => by rw [e]) h rfl
theorem dX1_allUnlike_0 : decode cX1_allUnlike 0 = .ok (.ldc2_w 93, 3) := by decide +kernel
theorem dX1_allUnlike_3 : decode cX1_allUnlike 3 = .ok (.lstore_n 1, 1) := by decide +kernel
theorem dX1_allUnlike_4 : decode cX1_allUnlike 4 = .ok (.iconst 0, 1) := by decide +kernel
theorem dX1_allUnlike_5 : decode cX1_allUnlike 5 = .ok (.istore_n 3, 1) := by decide +kernel
theorem dX1_allUnlike_6 : decode cX1_allUnlike 6 = .ok (.iload_n 3, 1) := by decide +kernel
theorem dX1_allUnlike_7 : decode cX1_allUnlike 7 = .ok (.aload_n 0, 1) := by decide +kernel
theorem dX1_allUnlike_8 : decode cX1_allUnlike 8 = .ok (.getfield 22, 3) := by decide +kernel
theorem dX1_allUnlike_11 : decode cX1_allUnlike 11 = .ok (.if_icmp .ge 43, 3) := by decide +kernel
theorem dX1_allUnlike_14 : decode cX1_allUnlike 14 = .ok (.aload_n 0, 1) := by decide +kernel
theorem dX1_allUnlike_15 : decode cX1_allUnlike 15 = .ok (.iload_n 3, 1) := by decide +kernel
theorem dX1_allUnlike_16 : decode cX1_allUnlike 16 = .ok (.invokevirtual 50, 3) := by decide +kernel
theorem dX1_allUnlike_19 : decode cX1_allUnlike 19 = .ok (.ifCond .eq 29, 3) := by decide +kernel
theorem dX1_allUnlike_22 : decode cX1_allUnlike 22 = .ok (.lconst 1, 1) := by decide +kernel
theorem dX1_allUnlike_23 : decode cX1_allUnlike 23 = .ok (.aload_n 0, 1) := by decide +kernel
theorem dX1_allUnlike_24 : decode cX1_allUnlike 24 = .ok (.getfield 15, 3) := by decide +kernel
theorem dX1_allUnlike_27 : decode cX1_allUnlike 27 = .ok (.iload_n 3, 1) := by decide +kernel
theorem dX1_allUnlike_28 : decode cX1_allUnlike 28 = .ok (.iaload, 1) := by decide +kernel
theorem dX1_allUnlike_29 : decode cX1_allUnlike 29 = .ok (.lshl, 1) := by decide +kernel
theorem dX1_allUnlike_30 : decode cX1_allUnlike 30 = .ok (.lstore 4, 2) := by decide +kernel
theorem dX1_allUnlike_32 : decode cX1_allUnlike 32 = .ok (.lload_n 1, 1) := by decide +kernel
theorem dX1_allUnlike_33 : decode cX1_allUnlike 33 = .ok (.lload 4, 2) := by decide +kernel
theorem dX1_allUnlike_35 : decode cX1_allUnlike 35 = .ok (.land, 1) := by decide +kernel
theorem dX1_allUnlike_36 : decode cX1_allUnlike 36 = .ok (.lconst 0, 1) := by decide +kernel
theorem dX1_allUnlike_37 : decode cX1_allUnlike 37 = .ok (.lcmp, 1) := by decide +kernel
theorem dX1_allUnlike_38 : decode cX1_allUnlike 38 = .ok (.ifCond .eq 5, 3) := by decide +kernel
theorem dX1_allUnlike_41 : decode cX1_allUnlike 41 = .ok (.iconst 0, 1) := by decide +kernel
theorem dX1_allUnlike_42 : decode cX1_allUnlike 42 = .ok (.ireturn, 1) := by decide +kernel
theorem dX1_allUnlike_43 : decode cX1_allUnlike 43 = .ok (.lload_n 1, 1) := by decide +kernel
theorem dX1_allUnlike_44 : decode cX1_allUnlike 44 = .ok (.lload 4, 2) := by decide +kernel
theorem dX1_allUnlike_46 : decode cX1_allUnlike 46 = .ok (.lor, 1) := by decide +kernel
theorem dX1_allUnlike_47 : decode cX1_allUnlike 47 = .ok (.lstore_n 1, 1) := by decide +kernel
theorem dX1_allUnlike_48 : decode cX1_allUnlike 48 = .ok (.iinc 3 1, 3) := by decide +kernel
theorem dX1_allUnlike_51 : decode cX1_allUnlike 51 = .ok (.goto (-45), 3) := by decide +kernel
theorem dX1_allUnlike_54 : decode cX1_allUnlike 54 = .ok (.iconst 1, 1) := by decide +kernel
theorem dX1_allUnlike_55 : decode cX1_allUnlike 55 = .ok (.ireturn, 1) := by decide +kernel
noncomputable def Cl_allUnlike_L6 (l0 : Nat) (σ : St) (x1 : Int64) (x3 : Int32) : Option ((Int64 × Int32) ⊕ Int32) :=
  if (σ.1 l0 3) ≤ x3 then (some (.inr 1)) else (bd (Cl_isOn σ l0 x3) (fun r2 => if r2 = 0 then (bnd (x3 + 1) (fun v3 => some (.inl (x1, v3)))) else (chk (ix x3 12) (bnd ((1 <<< ((σ.1 (l0 + 2) (tn x3)).toInt64 &&& 63))) (fun v5 => if (x1 &&& v5) = 0 then (bnd ((x1 ||| v5)) (fun v6 => bnd (x3 + 1) (fun v7 => some (.inl (v6, v7))))) else (some (.inr 0)))))))
set_option maxRecDepth 100000 in
set_option maxHeartbeats 4000000 in
theorem tb_Cl_allUnlike_L6 {V : Ev} {Γ : Cn} {fin : Option Value × St} {l0 : Nat} {σ : St} {x1 : Int64} {x3 : Int32} {o : ((Int64 × Int32) ⊕ Int32)} (X : Cx V Γ M_X1_allUnlike) {A : ((Int64 × Int32) ⊕ Int32) → Prop} (k_l0 : okCl l0) (hr : ∀ (r : Int32), A (.inr r) → (some (.int r), σ) = fin) (hb6 : ∀ (x1 : Int64) (x3 : Int32), A (.inl (x1, x3)) → Go V Γ M_X1_allUnlike (Zm V Γ 2 fin) 6 [(0, .ref (V.2.2.1 + l0)), (1, .long x1), (3, .int x3)] [] σ) (h : Cl_allUnlike_L6 l0 σ x1 x3 = some o) (hA : A o) : Go V Γ M_X1_allUnlike (Zm V Γ 2 fin) 6 [(0, .ref (V.2.2.1 + l0)), (1, .long x1), (3, .int x3)] [] σ := by
  unfold Cl_allUnlike_L6 at h
  refine g_iload_n (pc := 6) X 2 rfl dX1_allUnlike_6 ?_
  refine g_aload_n (pc := 7) X 0 rfl dX1_allUnlike_7 ?_
  refine g_getI (pc := 8) X k_fl_X1_22 (sCl_0 k_l0) rfl dX1_allUnlike_8 ?_
  refine g_icmp_ge (pc := 11) (tgt := 54) X dX1_allUnlike_11 rfl (fun c10 => ?_) (fun c10 => ?_)
  · replace h := if_t c10 h
    refine g_iconst (v := 1) (pc := 54) X rfl dX1_allUnlike_54 ?_
    cases h
    exact g_iret (pc := 55) X rfl nz1.1 (hr _ hA) dX1_allUnlike_55
  · replace h := if_f c10 h
    refine g_aload_n (pc := 14) X 0 rfl dX1_allUnlike_14 ?_
    refine g_iload_n (pc := 15) X 2 rfl dX1_allUnlike_15 ?_
    obtain ⟨r2, hc1, h⟩ := bd_e h
    refine g_callV (pc := 16) X k_ml_X1_50 (run_Cl_isOn k_l0 hc1) (sCl_0 k_l0) rfl (room_ok (Nat.le_of_ble_eq_true rfl) (Nat.le_of_ble_eq_true rfl)) ⟨Nat.le_refl _, Nat.le_refl _⟩ _ rfl (Nat.le_of_ble_eq_true rfl) dX1_allUnlike_16 ?_
    show Go V Γ M_X1_allUnlike (Zm V Γ 2 fin) 19 [(0, .ref (V.2.2.1 + l0)), (1, .long x1), (3, .int x3)] [.int r2] σ
    refine g_if_eq (pc := 19) (tgt := 48) X dX1_allUnlike_19 rfl (fun c9 => ?_) (fun c9 => ?_)
    · replace h := if_t c9 h
      obtain ⟨v3, e_v3, h⟩ := bnd_e h
      refine g_iinc (pc := 48) (v := v3) X [(3, .int v3), (0, .ref (V.2.2.1 + l0)), (1, .long x1)] 2 rfl (by rw [e_v3]; rfl) (Nat.le_of_ble_eq_true rfl) rfl dX1_allUnlike_48 ?_
      refine g_goto (pc := 51) (tgt := 6) X dX1_allUnlike_51 rfl ?_
      refine g_sub [1, 2, 0] rfl ?_
      cases h
      exact hb6 _ _ hA
    · replace h := if_f c9 h
      refine g_lconst (v := 1) (pc := 22) X rfl dX1_allUnlike_22 ?_
      refine g_aload_n (pc := 23) X 0 rfl dX1_allUnlike_23 ?_
      refine g_getR (r := (l0 + 2)) (pc := 24) X k_fl_X1_15 (sCl_0 k_l0) rfl dX1_allUnlike_24 ?_
      refine g_iload_n (pc := 27) X 2 rfl dX1_allUnlike_27 ?_
      obtain ⟨c4, h⟩ := chk_e h
      refine g_iald (pc := 28) X (sCl_2 k_l0) c4 dX1_allUnlike_28 ?_
      refine g_lshl (pc := 29) X dX1_allUnlike_29 ?_
      obtain ⟨v5, e_v5, h⟩ := bnd_e h
      refine g_nmL e_v5 ?_
      refine g_lstore (pc := 30) X [(4, .long v5), (0, .ref (V.2.2.1 + l0)), (1, .long x1), (3, .int x3)] (Nat.le_of_ble_eq_true rfl) rfl dX1_allUnlike_30 ?_
      refine g_lload_n (pc := 32) X 2 rfl dX1_allUnlike_32 ?_
      refine g_lload (pc := 33) X 0 rfl dX1_allUnlike_33 ?_
      refine g_land (pc := 35) X dX1_allUnlike_35 ?_
      refine g_lconst (v := 0) (pc := 36) X rfl dX1_allUnlike_36 ?_
      refine g_lcmp_eq (pc := 37) (tgt := 43) X dX1_allUnlike_37 dX1_allUnlike_38 rfl (fun c8 => ?_) (fun c8 => ?_)
      · replace h := if_t c8 h
        refine g_lload_n (pc := 43) X 2 rfl dX1_allUnlike_43 ?_
        refine g_lload (pc := 44) X 0 rfl dX1_allUnlike_44 ?_
        refine g_lor (pc := 46) X dX1_allUnlike_46 ?_
        obtain ⟨v6, e_v6, h⟩ := bnd_e h
        refine g_nmL e_v6 ?_
        refine g_lstore_n (pc := 47) X [(1, .long v6), (4, .long v5), (0, .ref (V.2.2.1 + l0)), (3, .int x3)] rfl (Nat.le_of_ble_eq_true rfl) rfl dX1_allUnlike_47 ?_
        obtain ⟨v7, e_v7, h⟩ := bnd_e h
        refine g_iinc (pc := 48) (v := v7) X [(3, .int v7), (1, .long v6), (4, .long v5), (0, .ref (V.2.2.1 + l0))] 3 rfl (by rw [e_v7]; rfl) (Nat.le_of_ble_eq_true rfl) rfl dX1_allUnlike_48 ?_
        refine g_goto (pc := 51) (tgt := 6) X dX1_allUnlike_51 rfl ?_
        refine g_sub [3, 1, 0] rfl ?_
        cases h
        exact hb6 _ _ hA
      · replace h := if_f c8 h
        refine g_iconst (v := 0) (pc := 41) X rfl dX1_allUnlike_41 ?_
        cases h
        exact g_iret (pc := 42) X rfl nz0.1 (hr _ hA) dX1_allUnlike_42
set_option maxRecDepth 100000 in
theorem tl_Cl_allUnlike_L6 {V : Ev} {Γ : Cn} {fin : Option Value × St} {l0 : Nat} {σ : St} {x1 : Int64} {x3 : Int32} (X : Cx V Γ M_X1_allUnlike) (k_l0 : okCl l0) {e : Int32} {A : Int32 → Prop} (hr : ∀ (r : Int32), A r → (some (.int r), σ) = fin) {n : Nat} (h : iter (fun s : (Int64 × Int32) => Cl_allUnlike_L6 l0 σ s.1 s.2) n (x1, x3) = some e) (hA : A e) : Go V Γ M_X1_allUnlike (Zm V Γ 2 fin) 6 [(0, .ref (V.2.2.1 + l0)), (1, .long x1), (3, .int x3)] [] σ := by
  refine iter_go (G := (fun s : (Int64 × Int32) => Go V Γ M_X1_allUnlike (Zm V Γ 2 fin) 6 [(0, .ref (V.2.2.1 + l0)), (1, .long s.1), (3, .int s.2)] [] σ)) (fun s o ho hS => ?_) n (x1, x3) h
  exact tb_Cl_allUnlike_L6 X k_l0 (fun z0 he => hr z0 (by rw [he]; exact hA)) (fun _ _ h9 => h9) ho hS
noncomputable def Cl_allUnlike (σ : St) (a0 : Nat) : Option Int32 :=
  iter (fun s : (Int64 × Int32) => Cl_allUnlike_L6 a0 σ s.1 s.2) FUEL (2, 0)
set_option maxRecDepth 100000 in
set_option maxHeartbeats 4000000 in
theorem tm_Cl_allUnlike {V : Ev} {Γ : Cn} {fin : Option Value × St} {σ : St} {a0 : Nat} {o : Int32} (X : Cx V Γ M_X1_allUnlike) {A : Int32 → Prop} (k0 : okCl a0) (hr : ∀ (r : Int32), A r → (some (.int r), σ) = fin) (h : Cl_allUnlike σ a0 = some o) (hA : A o) : Go V Γ M_X1_allUnlike (Zm V Γ 2 fin) 0 [(0, .ref (V.2.2.1 + a0))] [] σ := by
  unfold Cl_allUnlike at h
  refine g_ldc2 (v := 2) (pc := 0) X k_constl_X1_93 dX1_allUnlike_0 ?_
  refine g_lstore_n (pc := 3) X [(1, .long 2), (0, .ref (V.2.2.1 + a0))] rfl (Nat.le_of_ble_eq_true rfl) rfl dX1_allUnlike_3 ?_
  refine g_iconst (v := 0) (pc := 4) X rfl dX1_allUnlike_4 ?_
  refine g_istore_n (pc := 5) X [(3, .int 0), (1, .long 2), (0, .ref (V.2.2.1 + a0))] rfl (Nat.le_of_ble_eq_true rfl) rfl dX1_allUnlike_5 ?_
  refine g_sub [2, 1, 0] rfl ?_
  exact tl_Cl_allUnlike_L6 X k0 hr h hA
set_option maxRecDepth 100000 in
theorem run_Cl_allUnlike {V : Ev} {σ : St} {a0 : Nat} {o : Int32} (k0 : okCl a0)  (h : Cl_allUnlike σ a0 = some o) : Rs V 2 M_X1_allUnlike [.ref (V.2.2.1 + a0)] σ (some (.int o), σ) := by
  refine Rs.of (by decide +kernel) (Nat.le_of_ble_eq_true rfl) (fun Γ X => ?_)
  exact tm_Cl_allUnlike X (A := fun o1 => o1 = o) k0 (fun _ e => by rw [e]) h rfl
theorem dX1_caughtTimes_0 : decode cX1_caughtTimes 0 = .ok (.iconst 0, 1) := by decide +kernel
theorem dX1_caughtTimes_1 : decode cX1_caughtTimes 1 = .ok (.istore_n 2, 1) := by decide +kernel
theorem dX1_caughtTimes_2 : decode cX1_caughtTimes 2 = .ok (.iconst 0, 1) := by decide +kernel
theorem dX1_caughtTimes_3 : decode cX1_caughtTimes 3 = .ok (.istore_n 3, 1) := by decide +kernel
theorem dX1_caughtTimes_4 : decode cX1_caughtTimes 4 = .ok (.iload_n 3, 1) := by decide +kernel
theorem dX1_caughtTimes_5 : decode cX1_caughtTimes 5 = .ok (.aload_n 0, 1) := by decide +kernel
theorem dX1_caughtTimes_6 : decode cX1_caughtTimes 6 = .ok (.getfield 22, 3) := by decide +kernel
theorem dX1_caughtTimes_9 : decode cX1_caughtTimes 9 = .ok (.if_icmp .ge 30, 3) := by decide +kernel
theorem dX1_caughtTimes_12 : decode cX1_caughtTimes 12 = .ok (.aload_n 0, 1) := by decide +kernel
theorem dX1_caughtTimes_13 : decode cX1_caughtTimes 13 = .ok (.iload_n 3, 1) := by decide +kernel
theorem dX1_caughtTimes_14 : decode cX1_caughtTimes 14 = .ok (.invokevirtual 50, 3) := by decide +kernel
theorem dX1_caughtTimes_17 : decode cX1_caughtTimes 17 = .ok (.ifCond .eq 16, 3) := by decide +kernel
theorem dX1_caughtTimes_20 : decode cX1_caughtTimes 20 = .ok (.iload_n 2, 1) := by decide +kernel
theorem dX1_caughtTimes_21 : decode cX1_caughtTimes 21 = .ok (.iload_n 1, 1) := by decide +kernel
theorem dX1_caughtTimes_22 : decode cX1_caughtTimes 22 = .ok (.aload_n 0, 1) := by decide +kernel
theorem dX1_caughtTimes_23 : decode cX1_caughtTimes 23 = .ok (.getfield 15, 3) := by decide +kernel
theorem dX1_caughtTimes_26 : decode cX1_caughtTimes 26 = .ok (.iload_n 3, 1) := by decide +kernel
theorem dX1_caughtTimes_27 : decode cX1_caughtTimes 27 = .ok (.iaload, 1) := by decide +kernel
theorem dX1_caughtTimes_28 : decode cX1_caughtTimes 28 = .ok (.invokestatic 57, 3) := by decide +kernel
theorem dX1_caughtTimes_31 : decode cX1_caughtTimes 31 = .ok (.iadd, 1) := by decide +kernel
theorem dX1_caughtTimes_32 : decode cX1_caughtTimes 32 = .ok (.istore_n 2, 1) := by decide +kernel
theorem dX1_caughtTimes_33 : decode cX1_caughtTimes 33 = .ok (.iinc 3 1, 3) := by decide +kernel
theorem dX1_caughtTimes_36 : decode cX1_caughtTimes 36 = .ok (.goto (-32), 3) := by decide +kernel
theorem dX1_caughtTimes_39 : decode cX1_caughtTimes 39 = .ok (.iload_n 2, 1) := by decide +kernel
theorem dX1_caughtTimes_40 : decode cX1_caughtTimes 40 = .ok (.ireturn, 1) := by decide +kernel
noncomputable def Cl_caughtTimes_L4 (l0 : Nat) (l1 : Int32) (σ : St) (x2 : Int32) (x3 : Int32) : Option ((Int32 × Int32) ⊕ Int32) :=
  if (σ.1 l0 3) ≤ x3 then (some (.inr x2)) else (bd (Cl_isOn σ l0 x3) (fun r2 => if r2 = 0 then (bnd (x3 + 1) (fun v3 => some (.inl (x2, v3)))) else (chk (ix x3 12) (bd (RC_partBy_ l1 (σ.1 (l0 + 2) (tn x3))) (fun r6 => bnd ((x2 + r6)) (fun v7 => bnd (x3 + 1) (fun v8 => some (.inl (v7, v8)))))))))
set_option maxRecDepth 100000 in
set_option maxHeartbeats 4000000 in
theorem tb_Cl_caughtTimes_L4 {V : Ev} {Γ : Cn} {fin : Option Value × St} {l0 : Nat} {l1 : Int32} {σ : St} {x2 : Int32} {x3 : Int32} {o : ((Int32 × Int32) ⊕ Int32)} (X : Cx V Γ M_X1_caughtTimes) {A : ((Int32 × Int32) ⊕ Int32) → Prop} (k_l0 : okCl l0) (hb4 : ∀ (x2 : Int32) (x3 : Int32), A (.inl (x2, x3)) → Go V Γ M_X1_caughtTimes (Zm V Γ 2 fin) 4 [(0, .ref (V.2.2.1 + l0)), (1, .int l1), (2, .int x2), (3, .int x3)] [] σ) (hx4 : ∀ (x2 : Int32), A (.inr x2) → Go V Γ M_X1_caughtTimes (Zm V Γ 2 fin) 39 [(2, .int x2)] [] σ) (h : Cl_caughtTimes_L4 l0 l1 σ x2 x3 = some o) (hA : A o) : Go V Γ M_X1_caughtTimes (Zm V Γ 2 fin) 4 [(0, .ref (V.2.2.1 + l0)), (1, .int l1), (2, .int x2), (3, .int x3)] [] σ := by
  unfold Cl_caughtTimes_L4 at h
  refine g_iload_n (pc := 4) X 3 rfl dX1_caughtTimes_4 ?_
  refine g_aload_n (pc := 5) X 0 rfl dX1_caughtTimes_5 ?_
  refine g_getI (pc := 6) X k_fl_X1_22 (sCl_0 k_l0) rfl dX1_caughtTimes_6 ?_
  refine g_icmp_ge (pc := 9) (tgt := 39) X dX1_caughtTimes_9 rfl (fun c10 => ?_) (fun c10 => ?_)
  · replace h := if_t c10 h
    refine g_sub [2] rfl ?_
    cases h
    exact hx4 _ hA
  · replace h := if_f c10 h
    refine g_aload_n (pc := 12) X 0 rfl dX1_caughtTimes_12 ?_
    refine g_iload_n (pc := 13) X 3 rfl dX1_caughtTimes_13 ?_
    obtain ⟨r2, hc1, h⟩ := bd_e h
    refine g_callV (pc := 14) X k_ml_X1_50 (run_Cl_isOn k_l0 hc1) (sCl_0 k_l0) rfl (room_ok (Nat.le_of_ble_eq_true rfl) (Nat.le_of_ble_eq_true rfl)) ⟨Nat.le_refl _, Nat.le_refl _⟩ _ rfl (Nat.le_of_ble_eq_true rfl) dX1_caughtTimes_14 ?_
    show Go V Γ M_X1_caughtTimes (Zm V Γ 2 fin) 17 [(0, .ref (V.2.2.1 + l0)), (1, .int l1), (2, .int x2), (3, .int x3)] [.int r2] σ
    refine g_if_eq (pc := 17) (tgt := 33) X dX1_caughtTimes_17 rfl (fun c9 => ?_) (fun c9 => ?_)
    · replace h := if_t c9 h
      obtain ⟨v3, e_v3, h⟩ := bnd_e h
      refine g_iinc (pc := 33) (v := v3) X [(3, .int v3), (0, .ref (V.2.2.1 + l0)), (1, .int l1), (2, .int x2)] 3 rfl (by rw [e_v3]; rfl) (Nat.le_of_ble_eq_true rfl) rfl dX1_caughtTimes_33 ?_
      refine g_goto (pc := 36) (tgt := 4) X dX1_caughtTimes_36 rfl ?_
      refine g_sub [1, 2, 3, 0] rfl ?_
      cases h
      exact hb4 _ _ hA
    · replace h := if_f c9 h
      refine g_iload_n (pc := 20) X 2 rfl dX1_caughtTimes_20 ?_
      refine g_iload_n (pc := 21) X 1 rfl dX1_caughtTimes_21 ?_
      refine g_aload_n (pc := 22) X 0 rfl dX1_caughtTimes_22 ?_
      refine g_getR (r := (l0 + 2)) (pc := 23) X k_fl_X1_15 (sCl_0 k_l0) rfl dX1_caughtTimes_23 ?_
      refine g_iload_n (pc := 26) X 3 rfl dX1_caughtTimes_26 ?_
      obtain ⟨c4, h⟩ := chk_e h
      refine g_iald (pc := 27) X (sCl_2 k_l0) c4 dX1_caughtTimes_27 ?_
      obtain ⟨r6, hc5, h⟩ := bd_e h
      refine g_callS (pc := 28) X k_ml_X1_57 (run_RC_partBy_  hc5) rfl (room_ok (Nat.le_of_ble_eq_true rfl) (Nat.le_of_ble_eq_true rfl)) ⟨Nat.le_refl _, Nat.le_refl _⟩ _ rfl (Nat.le_of_ble_eq_true rfl) dX1_caughtTimes_28 ?_
      show Go V Γ M_X1_caughtTimes (Zm V Γ 2 fin) 31 [(0, .ref (V.2.2.1 + l0)), (1, .int l1), (2, .int x2), (3, .int x3)] [.int r6, .int x2] σ
      refine g_iadd (pc := 31) X dX1_caughtTimes_31 ?_
      obtain ⟨v7, e_v7, h⟩ := bnd_e h
      refine g_nmI e_v7 ?_
      refine g_istore_n (pc := 32) X [(2, .int v7), (0, .ref (V.2.2.1 + l0)), (1, .int l1), (3, .int x3)] rfl (Nat.le_of_ble_eq_true rfl) rfl dX1_caughtTimes_32 ?_
      obtain ⟨v8, e_v8, h⟩ := bnd_e h
      refine g_iinc (pc := 33) (v := v8) X [(3, .int v8), (2, .int v7), (0, .ref (V.2.2.1 + l0)), (1, .int l1)] 3 rfl (by rw [e_v8]; rfl) (Nat.le_of_ble_eq_true rfl) rfl dX1_caughtTimes_33 ?_
      refine g_goto (pc := 36) (tgt := 4) X dX1_caughtTimes_36 rfl ?_
      refine g_sub [2, 3, 1, 0] rfl ?_
      cases h
      exact hb4 _ _ hA
set_option maxRecDepth 100000 in
theorem tl_Cl_caughtTimes_L4 {V : Ev} {Γ : Cn} {fin : Option Value × St} {l0 : Nat} {l1 : Int32} {σ : St} {x2 : Int32} {x3 : Int32} (X : Cx V Γ M_X1_caughtTimes) (k_l0 : okCl l0) {y2 : Int32} {n : Nat} (h : iter (fun s : (Int32 × Int32) => Cl_caughtTimes_L4 l0 l1 σ s.1 s.2) n (x2, x3) = some y2) (hK : Go V Γ M_X1_caughtTimes (Zm V Γ 2 fin) 39 [(2, .int y2)] [] σ) : Go V Γ M_X1_caughtTimes (Zm V Γ 2 fin) 4 [(0, .ref (V.2.2.1 + l0)), (1, .int l1), (2, .int x2), (3, .int x3)] [] σ := by
  refine iter_go (G := (fun s : (Int32 × Int32) => Go V Γ M_X1_caughtTimes (Zm V Γ 2 fin) 4 [(0, .ref (V.2.2.1 + l0)), (1, .int l1), (2, .int s.1), (3, .int s.2)] [] σ)) (fun s o ho hS => ?_) n (x2, x3) h
  exact tb_Cl_caughtTimes_L4 X k_l0 (fun _ _ h9 => h9) (fun _ he => by cases he; exact hK) ho hS
noncomputable def Cl_caughtTimes (σ : St) (a0 : Nat) (p1 : Int32) : Option Int32 :=
  bd (iter (fun s : (Int32 × Int32) => Cl_caughtTimes_L4 a0 p1 σ s.1 s.2) FUEL (0, 0)) (fun v11 => some v11)
set_option maxRecDepth 100000 in
set_option maxHeartbeats 4000000 in
theorem tm_Cl_caughtTimes {V : Ev} {Γ : Cn} {fin : Option Value × St} {σ : St} {a0 : Nat} {p1 : Int32} {o : Int32} (X : Cx V Γ M_X1_caughtTimes) {A : Int32 → Prop} (k0 : okCl a0) (hr : ∀ (r : Int32), A r → (some (.int r), σ) = fin) (h : Cl_caughtTimes σ a0 p1 = some o) (hA : A o) : Go V Γ M_X1_caughtTimes (Zm V Γ 2 fin) 0 [(0, .ref (V.2.2.1 + a0)), (1, .int p1)] [] σ := by
  unfold Cl_caughtTimes at h
  refine g_iconst (v := 0) (pc := 0) X rfl dX1_caughtTimes_0 ?_
  refine g_istore_n (pc := 1) X [(2, .int 0), (0, .ref (V.2.2.1 + a0)), (1, .int p1)] rfl (Nat.le_of_ble_eq_true rfl) rfl dX1_caughtTimes_1 ?_
  refine g_iconst (v := 0) (pc := 2) X rfl dX1_caughtTimes_2 ?_
  refine g_istore_n (pc := 3) X [(3, .int 0), (2, .int 0), (0, .ref (V.2.2.1 + a0)), (1, .int p1)] rfl (Nat.le_of_ble_eq_true rfl) rfl dX1_caughtTimes_3 ?_
  refine g_sub [2, 3, 1, 0] rfl ?_
  obtain ⟨v11, hi12, h⟩ := bd_e h
  refine tl_Cl_caughtTimes_L4 X k0 hi12 ?_
  refine g_iload_n (pc := 39) X 0 rfl dX1_caughtTimes_39 ?_
  cases h
  exact g_iret (pc := 40) X rfl rfl (hr _ hA) dX1_caughtTimes_40
set_option maxRecDepth 100000 in
theorem run_Cl_caughtTimes {V : Ev} {σ : St} {a0 : Nat} {p1 : Int32} {o : Int32} (k0 : okCl a0)  (h : Cl_caughtTimes σ a0 p1 = some o) : Rs V 2 M_X1_caughtTimes [.ref (V.2.2.1 + a0), .int p1] σ (some (.int o), σ) := by
  refine Rs.of (by decide +kernel) (Nat.le_of_ble_eq_true rfl) (fun Γ X => ?_)
  exact tm_Cl_caughtTimes X (A := fun o1 => o1 = o) k0 (fun _ e => by rw [e]) h rfl
theorem dX2_clear_0 : decode cX2_clear 0 = .ok (.aload_n 0, 1) := by decide +kernel
theorem dX2_clear_1 : decode cX2_clear 1 = .ok (.iconst 0, 1) := by decide +kernel
theorem dX2_clear_2 : decode cX2_clear 2 = .ok (.putfield 28, 3) := by decide +kernel
theorem dX2_clear_5 : decode cX2_clear 5 = .ok (.aload_n 0, 1) := by decide +kernel
theorem dX2_clear_6 : decode cX2_clear 6 = .ok (.iconst 0, 1) := by decide +kernel
theorem dX2_clear_7 : decode cX2_clear 7 = .ok (.putfield 32, 3) := by decide +kernel
theorem dX2_clear_10 : decode cX2_clear 10 = .ok (.aload_n 0, 1) := by decide +kernel
theorem dX2_clear_11 : decode cX2_clear 11 = .ok (.iconst 0, 1) := by decide +kernel
theorem dX2_clear_12 : decode cX2_clear 12 = .ok (.putfield 35, 3) := by decide +kernel
theorem dX2_clear_15 : decode cX2_clear 15 = .ok (.return_, 1) := by decide +kernel
noncomputable def Da_clear (σ : St) (a0 : Nat) : Option St :=
  bnd (wI σ a0 6 0) (fun σ1 => bnd (wI σ1 a0 7 0) (fun σ2 => bnd (wI σ2 a0 8 0) (fun σ3 => some σ3)))
set_option maxRecDepth 100000 in
set_option maxHeartbeats 4000000 in
theorem tm_Da_clear {V : Ev} {Γ : Cn} {fin : Option Value × St} {σ : St} {a0 : Nat} {o : St} (X : Cx V Γ M_X2_clear) {A : St → Prop} (k0 : okDa a0) (hr : ∀ (σ9 : St), A σ9 → (none, σ9) = fin) (h : Da_clear σ a0 = some o) (hA : A o) : Go V Γ M_X2_clear (Zm V Γ 0 fin) 0 [(0, .ref (V.2.2.1 + a0))] [] σ := by
  unfold Da_clear at h
  refine g_aload_n (pc := 0) X 0 rfl dX2_clear_0 ?_
  refine g_iconst (v := 0) (pc := 1) X rfl dX2_clear_1 ?_
  refine g_putI (pc := 2) X k_fl_X2_28 (sDa_0 k0) rfl rfl rfl dX2_clear_2 ?_
  obtain ⟨σ1, e_σ1, h⟩ := bnd_e h
  refine g_nmS e_σ1 ?_
  refine g_aload_n (pc := 5) X 0 rfl dX2_clear_5 ?_
  refine g_iconst (v := 0) (pc := 6) X rfl dX2_clear_6 ?_
  refine g_putI (pc := 7) X k_fl_X2_32 (sDa_0 k0) rfl rfl rfl dX2_clear_7 ?_
  obtain ⟨σ2, e_σ2, h⟩ := bnd_e h
  refine g_nmS e_σ2 ?_
  refine g_aload_n (pc := 10) X 0 rfl dX2_clear_10 ?_
  refine g_iconst (v := 0) (pc := 11) X rfl dX2_clear_11 ?_
  refine g_putI (pc := 12) X k_fl_X2_35 (sDa_0 k0) rfl nz0.1 nz0.2 dX2_clear_12 ?_
  obtain ⟨σ3, e_σ3, h⟩ := bnd_e h
  refine g_nmS e_σ3 ?_
  cases h
  exact g_vret (pc := 15) X rfl (hr _ hA) dX2_clear_15
set_option maxRecDepth 100000 in
theorem run_Da_clear {V : Ev} {σ : St} {a0 : Nat} {o : St} (k0 : okDa a0)  (h : Da_clear σ a0 = some o) : Rs V 0 M_X2_clear [.ref (V.2.2.1 + a0)] σ (none, o) := by
  refine Rs.of (by decide +kernel) (Nat.le_of_ble_eq_true rfl) (fun Γ X => ?_)
  exact tm_Da_clear X (A := fun o1 => o1 = o) k0 (fun _ e => by rw [e]) h rfl
theorem dX2_copyFrom_0 : decode cX2_copyFrom 0 = .ok (.aload_n 1, 1) := by decide +kernel
theorem dX2_copyFrom_1 : decode cX2_copyFrom 1 = .ok (.getfield 9, 3) := by decide +kernel
theorem dX2_copyFrom_4 : decode cX2_copyFrom 4 = .ok (.iconst 0, 1) := by decide +kernel
theorem dX2_copyFrom_5 : decode cX2_copyFrom 5 = .ok (.aload_n 0, 1) := by decide +kernel
theorem dX2_copyFrom_6 : decode cX2_copyFrom 6 = .ok (.getfield 9, 3) := by decide +kernel
theorem dX2_copyFrom_9 : decode cX2_copyFrom 9 = .ok (.iconst 0, 1) := by decide +kernel
theorem dX2_copyFrom_10 : decode cX2_copyFrom 10 = .ok (.bipush 60, 2) := by decide +kernel
theorem dX2_copyFrom_12 : decode cX2_copyFrom 12 = .ok (.invokestatic 39, 3) := by decide +kernel
theorem dX2_copyFrom_15 : decode cX2_copyFrom 15 = .ok (.aload_n 1, 1) := by decide +kernel
theorem dX2_copyFrom_16 : decode cX2_copyFrom 16 = .ok (.getfield 13, 3) := by decide +kernel
theorem dX2_copyFrom_19 : decode cX2_copyFrom 19 = .ok (.iconst 0, 1) := by decide +kernel
theorem dX2_copyFrom_20 : decode cX2_copyFrom 20 = .ok (.aload_n 0, 1) := by decide +kernel
theorem dX2_copyFrom_21 : decode cX2_copyFrom 21 = .ok (.getfield 13, 3) := by decide +kernel
theorem dX2_copyFrom_24 : decode cX2_copyFrom 24 = .ok (.iconst 0, 1) := by decide +kernel
theorem dX2_copyFrom_25 : decode cX2_copyFrom 25 = .ok (.bipush 60, 2) := by decide +kernel
theorem dX2_copyFrom_27 : decode cX2_copyFrom 27 = .ok (.invokestatic 39, 3) := by decide +kernel
theorem dX2_copyFrom_30 : decode cX2_copyFrom 30 = .ok (.aload_n 1, 1) := by decide +kernel
theorem dX2_copyFrom_31 : decode cX2_copyFrom 31 = .ok (.getfield 16, 3) := by decide +kernel
theorem dX2_copyFrom_34 : decode cX2_copyFrom 34 = .ok (.iconst 0, 1) := by decide +kernel
theorem dX2_copyFrom_35 : decode cX2_copyFrom 35 = .ok (.aload_n 0, 1) := by decide +kernel
theorem dX2_copyFrom_36 : decode cX2_copyFrom 36 = .ok (.getfield 16, 3) := by decide +kernel
theorem dX2_copyFrom_39 : decode cX2_copyFrom 39 = .ok (.iconst 0, 1) := by decide +kernel
theorem dX2_copyFrom_40 : decode cX2_copyFrom 40 = .ok (.bipush 60, 2) := by decide +kernel
theorem dX2_copyFrom_42 : decode cX2_copyFrom 42 = .ok (.invokestatic 39, 3) := by decide +kernel
theorem dX2_copyFrom_45 : decode cX2_copyFrom 45 = .ok (.aload_n 1, 1) := by decide +kernel
theorem dX2_copyFrom_46 : decode cX2_copyFrom 46 = .ok (.getfield 19, 3) := by decide +kernel
theorem dX2_copyFrom_49 : decode cX2_copyFrom 49 = .ok (.iconst 0, 1) := by decide +kernel
theorem dX2_copyFrom_50 : decode cX2_copyFrom 50 = .ok (.aload_n 0, 1) := by decide +kernel
theorem dX2_copyFrom_51 : decode cX2_copyFrom 51 = .ok (.getfield 19, 3) := by decide +kernel
theorem dX2_copyFrom_54 : decode cX2_copyFrom 54 = .ok (.iconst 0, 1) := by decide +kernel
theorem dX2_copyFrom_55 : decode cX2_copyFrom 55 = .ok (.bipush 60, 2) := by decide +kernel
theorem dX2_copyFrom_57 : decode cX2_copyFrom 57 = .ok (.invokestatic 39, 3) := by decide +kernel
theorem dX2_copyFrom_60 : decode cX2_copyFrom 60 = .ok (.aload_n 1, 1) := by decide +kernel
theorem dX2_copyFrom_61 : decode cX2_copyFrom 61 = .ok (.getfield 22, 3) := by decide +kernel
theorem dX2_copyFrom_64 : decode cX2_copyFrom 64 = .ok (.iconst 0, 1) := by decide +kernel
theorem dX2_copyFrom_65 : decode cX2_copyFrom 65 = .ok (.aload_n 0, 1) := by decide +kernel
theorem dX2_copyFrom_66 : decode cX2_copyFrom 66 = .ok (.getfield 22, 3) := by decide +kernel
theorem dX2_copyFrom_69 : decode cX2_copyFrom 69 = .ok (.iconst 0, 1) := by decide +kernel
theorem dX2_copyFrom_70 : decode cX2_copyFrom 70 = .ok (.bipush 60, 2) := by decide +kernel
theorem dX2_copyFrom_72 : decode cX2_copyFrom 72 = .ok (.invokestatic 39, 3) := by decide +kernel
theorem dX2_copyFrom_75 : decode cX2_copyFrom 75 = .ok (.aload_n 1, 1) := by decide +kernel
theorem dX2_copyFrom_76 : decode cX2_copyFrom 76 = .ok (.getfield 25, 3) := by decide +kernel
theorem dX2_copyFrom_79 : decode cX2_copyFrom 79 = .ok (.iconst 0, 1) := by decide +kernel
theorem dX2_copyFrom_80 : decode cX2_copyFrom 80 = .ok (.aload_n 0, 1) := by decide +kernel
theorem dX2_copyFrom_81 : decode cX2_copyFrom 81 = .ok (.getfield 25, 3) := by decide +kernel
theorem dX2_copyFrom_84 : decode cX2_copyFrom 84 = .ok (.iconst 0, 1) := by decide +kernel
theorem dX2_copyFrom_85 : decode cX2_copyFrom 85 = .ok (.bipush 60, 2) := by decide +kernel
theorem dX2_copyFrom_87 : decode cX2_copyFrom 87 = .ok (.invokestatic 39, 3) := by decide +kernel
theorem dX2_copyFrom_90 : decode cX2_copyFrom 90 = .ok (.aload_n 0, 1) := by decide +kernel
theorem dX2_copyFrom_91 : decode cX2_copyFrom 91 = .ok (.aload_n 1, 1) := by decide +kernel
theorem dX2_copyFrom_92 : decode cX2_copyFrom 92 = .ok (.getfield 28, 3) := by decide +kernel
theorem dX2_copyFrom_95 : decode cX2_copyFrom 95 = .ok (.putfield 28, 3) := by decide +kernel
theorem dX2_copyFrom_98 : decode cX2_copyFrom 98 = .ok (.aload_n 0, 1) := by decide +kernel
theorem dX2_copyFrom_99 : decode cX2_copyFrom 99 = .ok (.aload_n 1, 1) := by decide +kernel
theorem dX2_copyFrom_100 : decode cX2_copyFrom 100 = .ok (.getfield 32, 3) := by decide +kernel
theorem dX2_copyFrom_103 : decode cX2_copyFrom 103 = .ok (.putfield 32, 3) := by decide +kernel
theorem dX2_copyFrom_106 : decode cX2_copyFrom 106 = .ok (.aload_n 0, 1) := by decide +kernel
theorem dX2_copyFrom_107 : decode cX2_copyFrom 107 = .ok (.aload_n 1, 1) := by decide +kernel
theorem dX2_copyFrom_108 : decode cX2_copyFrom 108 = .ok (.getfield 35, 3) := by decide +kernel
theorem dX2_copyFrom_111 : decode cX2_copyFrom 111 = .ok (.putfield 35, 3) := by decide +kernel
theorem dX2_copyFrom_114 : decode cX2_copyFrom 114 = .ok (.return_, 1) := by decide +kernel
noncomputable def Da_copyFrom (σ : St) (a0 : Nat) (a1 : Nat) : Option St :=
  chk (cpk 0 0 60 60 60) (bnd (rI σ (a0 + 1) (va_cpy (σ.1 (a1 + 1)) (σ.1 (a0 + 1)) (tn 0) (tn 0) (tn 60))) (fun σ2 => chk (cpk 0 0 60 60 60) (bnd (rI σ2 (a0 + 2) (va_cpy (σ2.1 (a1 + 2)) (σ2.1 (a0 + 2)) (tn 0) (tn 0) (tn 60))) (fun σ4 => chk (cpk 0 0 60 60 60) (bnd (rI σ4 (a0 + 3) (va_cpy (σ4.1 (a1 + 3)) (σ4.1 (a0 + 3)) (tn 0) (tn 0) (tn 60))) (fun σ6 => chk (cpk 0 0 60 60 60) (bnd (rI σ6 (a0 + 4) (va_cpy (σ6.1 (a1 + 4)) (σ6.1 (a0 + 4)) (tn 0) (tn 0) (tn 60))) (fun σ8 => chk (cpk 0 0 60 60 60) (bnd (rI σ8 (a0 + 5) (va_cpy (σ8.1 (a1 + 5)) (σ8.1 (a0 + 5)) (tn 0) (tn 0) (tn 60))) (fun σ10 => chk (cpk 0 0 60 60 60) (bnd (rI σ10 (a0 + 6) (va_cpy (σ10.1 (a1 + 6)) (σ10.1 (a0 + 6)) (tn 0) (tn 0) (tn 60))) (fun σ12 => bnd (wI σ12 a0 6 (σ12.1 a1 6)) (fun σ13 => bnd (wI σ13 a0 7 (σ13.1 a1 7)) (fun σ14 => chk (ckz (σ14.1 a1 8)) (bnd (wI σ14 a0 8 (σ14.1 a1 8)) (fun σ16 => some σ16))))))))))))))))
set_option maxRecDepth 100000 in
set_option maxHeartbeats 4000000 in
theorem tm_Da_copyFrom {V : Ev} {Γ : Cn} {fin : Option Value × St} {σ : St} {a0 : Nat} {a1 : Nat} {o : St} (X : Cx V Γ M_X2_copyFrom) {A : St → Prop} (k0 : okDa a0) (k1 : okDa a1) (hr : ∀ (σ9 : St), A σ9 → (none, σ9) = fin) (h : Da_copyFrom σ a0 a1 = some o) (hA : A o) : Go V Γ M_X2_copyFrom (Zm V Γ 1 fin) 0 [(0, .ref (V.2.2.1 + a0)), (1, .ref (V.2.2.1 + a1))] [] σ := by
  unfold Da_copyFrom at h
  refine g_aload_n (pc := 0) X 1 rfl dX2_copyFrom_0 ?_
  refine g_getR (r := (a1 + 1)) (pc := 1) X k_fl_X2_9 (sDa_0 k1) rfl dX2_copyFrom_1 ?_
  refine g_iconst (v := 0) (pc := 4) X rfl dX2_copyFrom_4 ?_
  refine g_aload_n (pc := 5) X 0 rfl dX2_copyFrom_5 ?_
  refine g_getR (r := (a0 + 1)) (pc := 6) X k_fl_X2_9 (sDa_0 k0) rfl dX2_copyFrom_6 ?_
  refine g_iconst (v := 0) (pc := 9) X rfl dX2_copyFrom_9 ?_
  refine g_bipush (v := 60) (pc := 10) X (by decide) dX2_copyFrom_10 ?_
  obtain ⟨c1, h⟩ := chk_e h
  refine g_copyI (pc := 12) X k_ml_X2_39 (sDa_1 k1) (sDa_1 k0) c1 (Nat.le_of_ble_eq_true rfl) (Nat.le_of_ble_eq_true rfl) dX2_copyFrom_12 ?_
  obtain ⟨σ2, e_σ2, h⟩ := bnd_e h
  refine g_nmS e_σ2 ?_
  refine g_aload_n (pc := 15) X 1 rfl dX2_copyFrom_15 ?_
  refine g_getR (r := (a1 + 2)) (pc := 16) X k_fl_X2_13 (sDa_0 k1) rfl dX2_copyFrom_16 ?_
  refine g_iconst (v := 0) (pc := 19) X rfl dX2_copyFrom_19 ?_
  refine g_aload_n (pc := 20) X 0 rfl dX2_copyFrom_20 ?_
  refine g_getR (r := (a0 + 2)) (pc := 21) X k_fl_X2_13 (sDa_0 k0) rfl dX2_copyFrom_21 ?_
  refine g_iconst (v := 0) (pc := 24) X rfl dX2_copyFrom_24 ?_
  refine g_bipush (v := 60) (pc := 25) X (by decide) dX2_copyFrom_25 ?_
  obtain ⟨c3, h⟩ := chk_e h
  refine g_copyI (pc := 27) X k_ml_X2_39 (sDa_2 k1) (sDa_2 k0) c3 (Nat.le_of_ble_eq_true rfl) (Nat.le_of_ble_eq_true rfl) dX2_copyFrom_27 ?_
  obtain ⟨σ4, e_σ4, h⟩ := bnd_e h
  refine g_nmS e_σ4 ?_
  refine g_aload_n (pc := 30) X 1 rfl dX2_copyFrom_30 ?_
  refine g_getR (r := (a1 + 3)) (pc := 31) X k_fl_X2_16 (sDa_0 k1) rfl dX2_copyFrom_31 ?_
  refine g_iconst (v := 0) (pc := 34) X rfl dX2_copyFrom_34 ?_
  refine g_aload_n (pc := 35) X 0 rfl dX2_copyFrom_35 ?_
  refine g_getR (r := (a0 + 3)) (pc := 36) X k_fl_X2_16 (sDa_0 k0) rfl dX2_copyFrom_36 ?_
  refine g_iconst (v := 0) (pc := 39) X rfl dX2_copyFrom_39 ?_
  refine g_bipush (v := 60) (pc := 40) X (by decide) dX2_copyFrom_40 ?_
  obtain ⟨c5, h⟩ := chk_e h
  refine g_copyI (pc := 42) X k_ml_X2_39 (sDa_3 k1) (sDa_3 k0) c5 (Nat.le_of_ble_eq_true rfl) (Nat.le_of_ble_eq_true rfl) dX2_copyFrom_42 ?_
  obtain ⟨σ6, e_σ6, h⟩ := bnd_e h
  refine g_nmS e_σ6 ?_
  refine g_aload_n (pc := 45) X 1 rfl dX2_copyFrom_45 ?_
  refine g_getR (r := (a1 + 4)) (pc := 46) X k_fl_X2_19 (sDa_0 k1) rfl dX2_copyFrom_46 ?_
  refine g_iconst (v := 0) (pc := 49) X rfl dX2_copyFrom_49 ?_
  refine g_aload_n (pc := 50) X 0 rfl dX2_copyFrom_50 ?_
  refine g_getR (r := (a0 + 4)) (pc := 51) X k_fl_X2_19 (sDa_0 k0) rfl dX2_copyFrom_51 ?_
  refine g_iconst (v := 0) (pc := 54) X rfl dX2_copyFrom_54 ?_
  refine g_bipush (v := 60) (pc := 55) X (by decide) dX2_copyFrom_55 ?_
  obtain ⟨c7, h⟩ := chk_e h
  refine g_copyI (pc := 57) X k_ml_X2_39 (sDa_4 k1) (sDa_4 k0) c7 (Nat.le_of_ble_eq_true rfl) (Nat.le_of_ble_eq_true rfl) dX2_copyFrom_57 ?_
  obtain ⟨σ8, e_σ8, h⟩ := bnd_e h
  refine g_nmS e_σ8 ?_
  refine g_aload_n (pc := 60) X 1 rfl dX2_copyFrom_60 ?_
  refine g_getR (r := (a1 + 5)) (pc := 61) X k_fl_X2_22 (sDa_0 k1) rfl dX2_copyFrom_61 ?_
  refine g_iconst (v := 0) (pc := 64) X rfl dX2_copyFrom_64 ?_
  refine g_aload_n (pc := 65) X 0 rfl dX2_copyFrom_65 ?_
  refine g_getR (r := (a0 + 5)) (pc := 66) X k_fl_X2_22 (sDa_0 k0) rfl dX2_copyFrom_66 ?_
  refine g_iconst (v := 0) (pc := 69) X rfl dX2_copyFrom_69 ?_
  refine g_bipush (v := 60) (pc := 70) X (by decide) dX2_copyFrom_70 ?_
  obtain ⟨c9, h⟩ := chk_e h
  refine g_copyI (pc := 72) X k_ml_X2_39 (sDa_5 k1) (sDa_5 k0) c9 (Nat.le_of_ble_eq_true rfl) (Nat.le_of_ble_eq_true rfl) dX2_copyFrom_72 ?_
  obtain ⟨σ10, e_σ10, h⟩ := bnd_e h
  refine g_nmS e_σ10 ?_
  refine g_aload_n (pc := 75) X 1 rfl dX2_copyFrom_75 ?_
  refine g_getR (r := (a1 + 6)) (pc := 76) X k_fl_X2_25 (sDa_0 k1) rfl dX2_copyFrom_76 ?_
  refine g_iconst (v := 0) (pc := 79) X rfl dX2_copyFrom_79 ?_
  refine g_aload_n (pc := 80) X 0 rfl dX2_copyFrom_80 ?_
  refine g_getR (r := (a0 + 6)) (pc := 81) X k_fl_X2_25 (sDa_0 k0) rfl dX2_copyFrom_81 ?_
  refine g_iconst (v := 0) (pc := 84) X rfl dX2_copyFrom_84 ?_
  refine g_bipush (v := 60) (pc := 85) X (by decide) dX2_copyFrom_85 ?_
  obtain ⟨c11, h⟩ := chk_e h
  refine g_copyI (pc := 87) X k_ml_X2_39 (sDa_6 k1) (sDa_6 k0) c11 (Nat.le_of_ble_eq_true rfl) (Nat.le_of_ble_eq_true rfl) dX2_copyFrom_87 ?_
  obtain ⟨σ12, e_σ12, h⟩ := bnd_e h
  refine g_nmS e_σ12 ?_
  refine g_aload_n (pc := 90) X 0 rfl dX2_copyFrom_90 ?_
  refine g_aload_n (pc := 91) X 1 rfl dX2_copyFrom_91 ?_
  refine g_getI (pc := 92) X k_fl_X2_28 (sDa_0 k1) rfl dX2_copyFrom_92 ?_
  refine g_putI (pc := 95) X k_fl_X2_28 (sDa_0 k0) rfl rfl rfl dX2_copyFrom_95 ?_
  obtain ⟨σ13, e_σ13, h⟩ := bnd_e h
  refine g_nmS e_σ13 ?_
  refine g_aload_n (pc := 98) X 0 rfl dX2_copyFrom_98 ?_
  refine g_aload_n (pc := 99) X 1 rfl dX2_copyFrom_99 ?_
  refine g_getI (pc := 100) X k_fl_X2_32 (sDa_0 k1) rfl dX2_copyFrom_100 ?_
  refine g_putI (pc := 103) X k_fl_X2_32 (sDa_0 k0) rfl rfl rfl dX2_copyFrom_103 ?_
  obtain ⟨σ14, e_σ14, h⟩ := bnd_e h
  refine g_nmS e_σ14 ?_
  refine g_aload_n (pc := 106) X 0 rfl dX2_copyFrom_106 ?_
  refine g_aload_n (pc := 107) X 1 rfl dX2_copyFrom_107 ?_
  refine g_getI (pc := 108) X k_fl_X2_35 (sDa_0 k1) rfl dX2_copyFrom_108 ?_
  obtain ⟨c15, h⟩ := chk_e h
  refine g_putI (pc := 111) X k_fl_X2_35 (sDa_0 k0) rfl (ckz_e c15).1 (ckz_e c15).2 dX2_copyFrom_111 ?_
  obtain ⟨σ16, e_σ16, h⟩ := bnd_e h
  refine g_nmS e_σ16 ?_
  cases h
  exact g_vret (pc := 114) X rfl (hr _ hA) dX2_copyFrom_114
set_option maxRecDepth 100000 in
theorem run_Da_copyFrom {V : Ev} {σ : St} {a0 : Nat} {a1 : Nat} {o : St} (k0 : okDa a0) (k1 : okDa a1)  (h : Da_copyFrom σ a0 a1 = some o) : Rs V 1 M_X2_copyFrom [.ref (V.2.2.1 + a0), .ref (V.2.2.1 + a1)] σ (none, o) := by
  refine Rs.of (by decide +kernel) (Nat.le_of_ble_eq_true rfl) (fun Γ X => ?_)
  exact tm_Da_copyFrom X (A := fun o1 => o1 = o) k0 k1 (fun _ e => by rw [e]) h rfl
theorem dX2_append_0 : decode cX2_append 0 = .ok (.aload_n 0, 1) := by decide +kernel
theorem dX2_append_1 : decode cX2_append 1 = .ok (.getfield 28, 3) := by decide +kernel
theorem dX2_append_4 : decode cX2_append 4 = .ok (.bipush 59, 2) := by decide +kernel
theorem dX2_append_6 : decode cX2_append 6 = .ok (.invokestatic 45, 3) := by decide +kernel
theorem dX2_append_9 : decode cX2_append 9 = .ok (.istore_n 2, 1) := by decide +kernel
theorem dX2_append_10 : decode cX2_append 10 = .ok (.aload_n 0, 1) := by decide +kernel
theorem dX2_append_11 : decode cX2_append 11 = .ok (.getfield 9, 3) := by decide +kernel
theorem dX2_append_14 : decode cX2_append 14 = .ok (.iload_n 2, 1) := by decide +kernel
theorem dX2_append_15 : decode cX2_append 15 = .ok (.iload_n 1, 1) := by decide +kernel
theorem dX2_append_16 : decode cX2_append 16 = .ok (.iastore, 1) := by decide +kernel
theorem dX2_append_17 : decode cX2_append 17 = .ok (.aload_n 0, 1) := by decide +kernel
theorem dX2_append_18 : decode cX2_append 18 = .ok (.iload_n 2, 1) := by decide +kernel
theorem dX2_append_19 : decode cX2_append 19 = .ok (.iconst 1, 1) := by decide +kernel
theorem dX2_append_20 : decode cX2_append 20 = .ok (.iadd, 1) := by decide +kernel
theorem dX2_append_21 : decode cX2_append 21 = .ok (.putfield 28, 3) := by decide +kernel
theorem dX2_append_24 : decode cX2_append 24 = .ok (.iload_n 2, 1) := by decide +kernel
theorem dX2_append_25 : decode cX2_append 25 = .ok (.ireturn, 1) := by decide +kernel
noncomputable def Da_append (σ : St) (a0 : Nat) (p1 : Int32) : Option (Int32 × St) :=
  bnd ((jmin (σ.1 a0 6) 59)) (fun v1 => chk (ix v1 60) (bnd (wI σ (a0 + 1) (tn v1) p1) (fun σ3 => bnd (wI σ3 a0 6 (v1 + 1)) (fun σ4 => some (v1, σ4)))))
set_option maxRecDepth 100000 in
set_option maxHeartbeats 4000000 in
theorem tm_Da_append {V : Ev} {Γ : Cn} {fin : Option Value × St} {σ : St} {a0 : Nat} {p1 : Int32} {o : (Int32 × St)} (X : Cx V Γ M_X2_append) {A : (Int32 × St) → Prop} (k0 : okDa a0) (hr : ∀ (r : Int32) (σ9 : St), A (r, σ9) → (some (.int r), σ9) = fin) (h : Da_append σ a0 p1 = some o) (hA : A o) : Go V Γ M_X2_append (Zm V Γ 1 fin) 0 [(0, .ref (V.2.2.1 + a0)), (1, .int p1)] [] σ := by
  unfold Da_append at h
  refine g_aload_n (pc := 0) X 0 rfl dX2_append_0 ?_
  refine g_getI (pc := 1) X k_fl_X2_28 (sDa_0 k0) rfl dX2_append_1 ?_
  refine g_bipush (v := 59) (pc := 4) X (by decide) dX2_append_4 ?_
  refine g_min (pc := 6) X k_ml_X2_45 (Nat.le_of_ble_eq_true rfl) (Nat.le_of_ble_eq_true rfl) (Nat.le_refl _) (Nat.le_refl _) dX2_append_6 ?_
  obtain ⟨v1, e_v1, h⟩ := bnd_e h
  refine g_nmI e_v1 ?_
  refine g_istore_n (pc := 9) X [(2, .int v1), (0, .ref (V.2.2.1 + a0)), (1, .int p1)] rfl (Nat.le_of_ble_eq_true rfl) rfl dX2_append_9 ?_
  refine g_aload_n (pc := 10) X 1 rfl dX2_append_10 ?_
  refine g_getR (r := (a0 + 1)) (pc := 11) X k_fl_X2_9 (sDa_0 k0) rfl dX2_append_11 ?_
  refine g_iload_n (pc := 14) X 0 rfl dX2_append_14 ?_
  refine g_iload_n (pc := 15) X 2 rfl dX2_append_15 ?_
  obtain ⟨c2, h⟩ := chk_e h
  refine g_iast (pc := 16) X (sDa_1 k0) c2 dX2_append_16 ?_
  obtain ⟨σ3, e_σ3, h⟩ := bnd_e h
  refine g_nmS e_σ3 ?_
  refine g_aload_n (pc := 17) X 1 rfl dX2_append_17 ?_
  refine g_iload_n (pc := 18) X 0 rfl dX2_append_18 ?_
  refine g_iconst (v := 1) (pc := 19) X rfl dX2_append_19 ?_
  refine g_iadd (pc := 20) X dX2_append_20 ?_
  refine g_putI (pc := 21) X k_fl_X2_28 (sDa_0 k0) rfl rfl rfl dX2_append_21 ?_
  obtain ⟨σ4, e_σ4, h⟩ := bnd_e h
  refine g_nmS e_σ4 ?_
  refine g_iload_n (pc := 24) X 0 rfl dX2_append_24 ?_
  cases h
  exact g_iret (pc := 25) X rfl rfl (hr _ _ hA) dX2_append_25
set_option maxRecDepth 100000 in
theorem run_Da_append {V : Ev} {σ : St} {a0 : Nat} {p1 : Int32} {o : (Int32 × St)} (k0 : okDa a0)  (h : Da_append σ a0 p1 = some o) : Rs V 1 M_X2_append [.ref (V.2.2.1 + a0), .int p1] σ (some (.int o.1), o.2) := by
  refine Rs.of (by decide +kernel) (Nat.le_of_ble_eq_true rfl) (fun Γ X => ?_)
  exact tm_Da_append X (A := fun o1 => o1 = o) k0 (fun _ _ e => by rw [← e]) h rfl
theorem dX2_pair_0 : decode cX2_pair 0 = .ok (.aload_n 0, 1) := by decide +kernel
theorem dX2_pair_1 : decode cX2_pair 1 = .ok (.getfield 25, 3) := by decide +kernel
theorem dX2_pair_4 : decode cX2_pair 4 = .ok (.iload_n 1, 1) := by decide +kernel
theorem dX2_pair_5 : decode cX2_pair 5 = .ok (.iload_n 2, 1) := by decide +kernel
theorem dX2_pair_6 : decode cX2_pair 6 = .ok (.iastore, 1) := by decide +kernel
theorem dX2_pair_7 : decode cX2_pair 7 = .ok (.aload_n 0, 1) := by decide +kernel
theorem dX2_pair_8 : decode cX2_pair 8 = .ok (.getfield 25, 3) := by decide +kernel
theorem dX2_pair_11 : decode cX2_pair 11 = .ok (.iload_n 2, 1) := by decide +kernel
theorem dX2_pair_12 : decode cX2_pair 12 = .ok (.iload_n 1, 1) := by decide +kernel
theorem dX2_pair_13 : decode cX2_pair 13 = .ok (.iastore, 1) := by decide +kernel
theorem dX2_pair_14 : decode cX2_pair 14 = .ok (.return_, 1) := by decide +kernel
noncomputable def Da_pair (σ : St) (a0 : Nat) (p1 : Int32) (p2 : Int32) : Option St :=
  chk (ix p1 60) (bnd (wI σ (a0 + 6) (tn p1) p2) (fun σ2 => chk (ix p2 60) (bnd (wI σ2 (a0 + 6) (tn p2) p1) (fun σ4 => some σ4))))
set_option maxRecDepth 100000 in
set_option maxHeartbeats 4000000 in
theorem tm_Da_pair {V : Ev} {Γ : Cn} {fin : Option Value × St} {σ : St} {a0 : Nat} {p1 : Int32} {p2 : Int32} {o : St} (X : Cx V Γ M_X2_pair) {A : St → Prop} (k0 : okDa a0) (hr : ∀ (σ9 : St), A σ9 → (none, σ9) = fin) (h : Da_pair σ a0 p1 p2 = some o) (hA : A o) : Go V Γ M_X2_pair (Zm V Γ 0 fin) 0 [(0, .ref (V.2.2.1 + a0)), (1, .int p1), (2, .int p2)] [] σ := by
  unfold Da_pair at h
  refine g_aload_n (pc := 0) X 0 rfl dX2_pair_0 ?_
  refine g_getR (r := (a0 + 6)) (pc := 1) X k_fl_X2_25 (sDa_0 k0) rfl dX2_pair_1 ?_
  refine g_iload_n (pc := 4) X 1 rfl dX2_pair_4 ?_
  refine g_iload_n (pc := 5) X 2 rfl dX2_pair_5 ?_
  obtain ⟨c1, h⟩ := chk_e h
  refine g_iast (pc := 6) X (sDa_6 k0) c1 dX2_pair_6 ?_
  obtain ⟨σ2, e_σ2, h⟩ := bnd_e h
  refine g_nmS e_σ2 ?_
  refine g_aload_n (pc := 7) X 0 rfl dX2_pair_7 ?_
  refine g_getR (r := (a0 + 6)) (pc := 8) X k_fl_X2_25 (sDa_0 k0) rfl dX2_pair_8 ?_
  refine g_iload_n (pc := 11) X 2 rfl dX2_pair_11 ?_
  refine g_iload_n (pc := 12) X 1 rfl dX2_pair_12 ?_
  obtain ⟨c3, h⟩ := chk_e h
  refine g_iast (pc := 13) X (sDa_6 k0) c3 dX2_pair_13 ?_
  obtain ⟨σ4, e_σ4, h⟩ := bnd_e h
  refine g_nmS e_σ4 ?_
  cases h
  exact g_vret (pc := 14) X rfl (hr _ hA) dX2_pair_14
set_option maxRecDepth 100000 in
theorem run_Da_pair {V : Ev} {σ : St} {a0 : Nat} {p1 : Int32} {p2 : Int32} {o : St} (k0 : okDa a0)  (h : Da_pair σ a0 p1 p2 = some o) : Rs V 0 M_X2_pair [.ref (V.2.2.1 + a0), .int p1, .int p2] σ (none, o) := by
  refine Rs.of (by decide +kernel) (Nat.le_of_ble_eq_true rfl) (fun Γ X => ?_)
  exact tm_Da_pair X (A := fun o1 => o1 = o) k0 (fun _ e => by rw [e]) h rfl
theorem dX6_token_0 : decode cX6_token 0 = .ok (.aload_n 0, 1) := by decide +kernel
theorem dX6_token_1 : decode cX6_token 1 = .ok (.getfield 22, 3) := by decide +kernel
theorem dX6_token_4 : decode cX6_token 4 = .ok (.aload_n 0, 1) := by decide +kernel
theorem dX6_token_5 : decode cX6_token 5 = .ok (.getfield 36, 3) := by decide +kernel
theorem dX6_token_8 : decode cX6_token 8 = .ok (.iaload, 1) := by decide +kernel
theorem dX6_token_9 : decode cX6_token 9 = .ok (.ireturn, 1) := by decide +kernel
noncomputable def Re_token (σ : St) : Option Int32 :=
  chk (ix (σ.1 2 7) 901) (some (σ.1 4 (tn (σ.1 2 7))))
set_option maxRecDepth 100000 in
set_option maxHeartbeats 4000000 in
theorem tm_Re_token {V : Ev} {Γ : Cn} {fin : Option Value × St} {σ : St} {o : Int32} (X : Cx V Γ M_X6_token) {A : Int32 → Prop}  (hr : ∀ (r : Int32), A r → (some (.int r), σ) = fin) (h : Re_token σ = some o) (hA : A o) : Go V Γ M_X6_token (Zm V Γ 0 fin) 0 [(0, .ref (V.2.2.1 + 2))] [] σ := by
  unfold Re_token at h
  refine g_aload_n (pc := 0) X 0 rfl dX6_token_0 ?_
  refine g_getR (r := 4) (pc := 1) X k_fl_X6_22 s_2 rfl dX6_token_1 ?_
  refine g_aload_n (pc := 4) X 0 rfl dX6_token_4 ?_
  refine g_getI (pc := 5) X k_fl_X6_36 s_2 rfl dX6_token_5 ?_
  obtain ⟨c1, h⟩ := chk_e h
  refine g_iald (pc := 8) X s_4 c1 dX6_token_8 ?_
  cases h
  exact g_iret (pc := 9) X rfl rfl (hr _ hA) dX6_token_9
set_option maxRecDepth 100000 in
theorem run_Re_token {V : Ev} {σ : St} {o : Int32}   (h : Re_token σ = some o) : Rs V 0 M_X6_token [.ref (V.2.2.1 + 2)] σ (some (.int o), σ) := by
  refine Rs.of (by decide +kernel) (Nat.le_of_ble_eq_true rfl) (fun Γ X => ?_)
  exact tm_Re_token X (A := fun o1 => o1 = o)  (fun _ e => by rw [e]) h rfl
theorem dX6_step_0 : decode cX6_step 0 = .ok (.aload_n 0, 1) := by decide +kernel
theorem dX6_step_1 : decode cX6_step 1 = .ok (.getfield 36, 3) := by decide +kernel
theorem dX6_step_4 : decode cX6_step 4 = .ok (.iconst 1, 1) := by decide +kernel
theorem dX6_step_5 : decode cX6_step 5 = .ok (.iadd, 1) := by decide +kernel
theorem dX6_step_6 : decode cX6_step 6 = .ok (.aload_n 0, 1) := by decide +kernel
theorem dX6_step_7 : decode cX6_step 7 = .ok (.getfield 33, 3) := by decide +kernel
theorem dX6_step_10 : decode cX6_step 10 = .ok (.if_icmp .ge 13, 3) := by decide +kernel
theorem dX6_step_13 : decode cX6_step 13 = .ok (.aload_n 0, 1) := by decide +kernel
theorem dX6_step_14 : decode cX6_step 14 = .ok (.dup, 1) := by decide +kernel
theorem dX6_step_15 : decode cX6_step 15 = .ok (.getfield 36, 3) := by decide +kernel
theorem dX6_step_18 : decode cX6_step 18 = .ok (.iconst 1, 1) := by decide +kernel
theorem dX6_step_19 : decode cX6_step 19 = .ok (.iadd, 1) := by decide +kernel
theorem dX6_step_20 : decode cX6_step 20 = .ok (.putfield 36, 3) := by decide +kernel
theorem dX6_step_23 : decode cX6_step 23 = .ok (.return_, 1) := by decide +kernel
noncomputable def Re_step (σ : St) : Option St :=
  if (σ.1 2 6) ≤ ((σ.1 2 7) + 1) then (some σ) else (bnd (wI σ 2 7 ((σ.1 2 7) + 1)) (fun σ1 => some σ1))
set_option maxRecDepth 100000 in
set_option maxHeartbeats 4000000 in
theorem tm_Re_step {V : Ev} {Γ : Cn} {fin : Option Value × St} {σ : St} {o : St} (X : Cx V Γ M_X6_step) {A : St → Prop}  (hr : ∀ (σ9 : St), A σ9 → (none, σ9) = fin) (h : Re_step σ = some o) (hA : A o) : Go V Γ M_X6_step (Zm V Γ 0 fin) 0 [(0, .ref (V.2.2.1 + 2))] [] σ := by
  unfold Re_step at h
  refine g_aload_n (pc := 0) X 0 rfl dX6_step_0 ?_
  refine g_getI (pc := 1) X k_fl_X6_36 s_2 rfl dX6_step_1 ?_
  refine g_iconst (v := 1) (pc := 4) X rfl dX6_step_4 ?_
  refine g_iadd (pc := 5) X dX6_step_5 ?_
  refine g_aload_n (pc := 6) X 0 rfl dX6_step_6 ?_
  refine g_getI (pc := 7) X k_fl_X6_33 s_2 rfl dX6_step_7 ?_
  refine g_icmp_ge (pc := 10) (tgt := 23) X dX6_step_10 rfl (fun c2 => ?_) (fun c2 => ?_)
  · replace h := if_t c2 h
    cases h
    exact g_vret (pc := 23) X rfl (hr _ hA) dX6_step_23
  · replace h := if_f c2 h
    refine g_aload_n (pc := 13) X 0 rfl dX6_step_13 ?_
    refine g_dup (pc := 14) X rfl dX6_step_14 ?_
    refine g_getI (pc := 15) X k_fl_X6_36 s_2 rfl dX6_step_15 ?_
    refine g_iconst (v := 1) (pc := 18) X rfl dX6_step_18 ?_
    refine g_iadd (pc := 19) X dX6_step_19 ?_
    refine g_putI (pc := 20) X k_fl_X6_36 s_2 rfl rfl rfl dX6_step_20 ?_
    obtain ⟨σ1, e_σ1, h⟩ := bnd_e h
    refine g_nmS e_σ1 ?_
    cases h
    exact g_vret (pc := 23) X rfl (hr _ hA) dX6_step_23
set_option maxRecDepth 100000 in
theorem run_Re_step {V : Ev} {σ : St} {o : St}   (h : Re_step σ = some o) : Rs V 0 M_X6_step [.ref (V.2.2.1 + 2)] σ (none, o) := by
  refine Rs.of (by decide +kernel) (Nat.le_of_ble_eq_true rfl) (fun Γ X => ?_)
  exact tm_Re_step X (A := fun o1 => o1 = o)  (fun _ e => by rw [e]) h rfl
theorem dX6_blame_0 : decode cX6_blame 0 = .ok (.aload_n 0, 1) := by decide +kernel
theorem dX6_blame_1 : decode cX6_blame 1 = .ok (.aload_n 0, 1) := by decide +kernel
theorem dX6_blame_2 : decode cX6_blame 2 = .ok (.getfield 22, 3) := by decide +kernel
theorem dX6_blame_5 : decode cX6_blame 5 = .ok (.aload_n 0, 1) := by decide +kernel
theorem dX6_blame_6 : decode cX6_blame 6 = .ok (.getfield 36, 3) := by decide +kernel
theorem dX6_blame_9 : decode cX6_blame 9 = .ok (.iaload, 1) := by decide +kernel
theorem dX6_blame_10 : decode cX6_blame 10 = .ok (.iconst 1, 1) := by decide +kernel
theorem dX6_blame_11 : decode cX6_blame 11 = .ok (.if_icmp .ne 7, 3) := by decide +kernel
theorem dX6_blame_14 : decode cX6_blame 14 = .ok (.iconst 1, 1) := by decide +kernel
theorem dX6_blame_15 : decode cX6_blame 15 = .ok (.goto 4, 3) := by decide +kernel
theorem dX6_blame_18 : decode cX6_blame 18 = .ok (.iload_n 1, 1) := by decide +kernel
theorem dX6_blame_19 : decode cX6_blame 19 = .ok (.putfield 43, 3) := by decide +kernel
theorem dX6_blame_22 : decode cX6_blame 22 = .ok (.aload_n 0, 1) := by decide +kernel
theorem dX6_blame_23 : decode cX6_blame 23 = .ok (.aload_n 0, 1) := by decide +kernel
theorem dX6_blame_24 : decode cX6_blame 24 = .ok (.getfield 26, 3) := by decide +kernel
theorem dX6_blame_27 : decode cX6_blame 27 = .ok (.aload_n 0, 1) := by decide +kernel
theorem dX6_blame_28 : decode cX6_blame 28 = .ok (.getfield 36, 3) := by decide +kernel
theorem dX6_blame_31 : decode cX6_blame 31 = .ok (.iaload, 1) := by decide +kernel
theorem dX6_blame_32 : decode cX6_blame 32 = .ok (.putfield 46, 3) := by decide +kernel
theorem dX6_blame_35 : decode cX6_blame 35 = .ok (.iconst 0, 1) := by decide +kernel
theorem dX6_blame_36 : decode cX6_blame 36 = .ok (.ireturn, 1) := by decide +kernel
noncomputable def Re_blame_J19 (σ : St) (s0 : Int32) : Option ((Int32 × St)) :=
  bnd (wI σ 2 9 s0) (fun σ2 => chk (ix (σ2.1 2 7) 901) (bnd (wI σ2 2 10 (σ2.1 5 (tn (σ2.1 2 7)))) (fun σ4 => some (0, σ4))))
set_option maxRecDepth 100000 in
set_option maxHeartbeats 4000000 in
theorem tj_Re_blame_J19 {V : Ev} {Γ : Cn} {fin : Option Value × St} {σ : St} {s0 : Int32} {o : (Int32 × St)} (X : Cx V Γ M_X6_blame) {A : (Int32 × St) → Prop}  (hr : ∀ (r : Int32) (σ9 : St), A (r, σ9) → (some (.int r), σ9) = fin) (h : Re_blame_J19 σ s0 = some o) (hA : A o) : Go V Γ M_X6_blame (Zm V Γ 0 fin) 19 [(0, .ref (V.2.2.1 + 2))] [.int s0, .ref (V.2.2.1 + 2)] σ := by
  unfold Re_blame_J19 at h
  refine g_putI (pc := 19) X k_fl_X6_43 s_2 rfl rfl rfl dX6_blame_19 ?_
  obtain ⟨σ2, e_σ2, h⟩ := bnd_e h
  refine g_nmS e_σ2 ?_
  refine g_aload_n (pc := 22) X 0 rfl dX6_blame_22 ?_
  refine g_aload_n (pc := 23) X 0 rfl dX6_blame_23 ?_
  refine g_getR (r := 5) (pc := 24) X k_fl_X6_26 s_2 rfl dX6_blame_24 ?_
  refine g_aload_n (pc := 27) X 0 rfl dX6_blame_27 ?_
  refine g_getI (pc := 28) X k_fl_X6_36 s_2 rfl dX6_blame_28 ?_
  obtain ⟨c3, h⟩ := chk_e h
  refine g_iald (pc := 31) X s_5 c3 dX6_blame_31 ?_
  refine g_putI (pc := 32) X k_fl_X6_46 s_2 rfl rfl rfl dX6_blame_32 ?_
  obtain ⟨σ4, e_σ4, h⟩ := bnd_e h
  refine g_nmS e_σ4 ?_
  refine g_iconst (v := 0) (pc := 35) X rfl dX6_blame_35 ?_
  cases h
  exact g_iret (pc := 36) X rfl nz0.1 (hr _ _ hA) dX6_blame_36
noncomputable def Re_blame (σ : St) (p1 : Int32) : Option (Int32 × St) :=
  chk (ix (σ.1 2 7) 901) (if (σ.1 4 (tn (σ.1 2 7))) = 1 then (Re_blame_J19 σ 1) else (Re_blame_J19 σ p1))
set_option maxRecDepth 100000 in
set_option maxHeartbeats 4000000 in
theorem tm_Re_blame {V : Ev} {Γ : Cn} {fin : Option Value × St} {σ : St} {p1 : Int32} {o : (Int32 × St)} (X : Cx V Γ M_X6_blame) {A : (Int32 × St) → Prop}  (hr : ∀ (r : Int32) (σ9 : St), A (r, σ9) → (some (.int r), σ9) = fin) (h : Re_blame σ p1 = some o) (hA : A o) : Go V Γ M_X6_blame (Zm V Γ 0 fin) 0 [(0, .ref (V.2.2.1 + 2)), (1, .int p1)] [] σ := by
  unfold Re_blame at h
  refine g_aload_n (pc := 0) X 0 rfl dX6_blame_0 ?_
  refine g_aload_n (pc := 1) X 0 rfl dX6_blame_1 ?_
  refine g_getR (r := 4) (pc := 2) X k_fl_X6_22 s_2 rfl dX6_blame_2 ?_
  refine g_aload_n (pc := 5) X 0 rfl dX6_blame_5 ?_
  refine g_getI (pc := 6) X k_fl_X6_36 s_2 rfl dX6_blame_6 ?_
  obtain ⟨c1, h⟩ := chk_e h
  refine g_iald (pc := 9) X s_4 c1 dX6_blame_9 ?_
  refine g_iconst (v := 1) (pc := 10) X rfl dX6_blame_10 ?_
  refine g_icmp_ne (pc := 11) (tgt := 18) X dX6_blame_11 rfl (fun c5 => ?_) (fun c5 => ?_)
  · replace h := if_f c5 h
    refine g_iload_n (pc := 18) X 1 rfl dX6_blame_18 ?_
    refine g_sub [0] rfl ?_
    exact tj_Re_blame_J19 X  hr h hA
  · replace h := if_t c5 h
    refine g_iconst (v := 1) (pc := 14) X rfl dX6_blame_14 ?_
    refine g_goto (pc := 15) (tgt := 19) X dX6_blame_15 rfl ?_
    refine g_sub [0] rfl ?_
    exact tj_Re_blame_J19 X  hr h hA
set_option maxRecDepth 100000 in
theorem run_Re_blame {V : Ev} {σ : St} {p1 : Int32} {o : (Int32 × St)}   (h : Re_blame σ p1 = some o) : Rs V 0 M_X6_blame [.ref (V.2.2.1 + 2), .int p1] σ (some (.int o.1), o.2) := by
  refine Rs.of (by decide +kernel) (Nat.le_of_ble_eq_true rfl) (fun Γ X => ?_)
  exact tm_Re_blame X (A := fun o1 => o1 = o)  (fun _ _ e => by rw [← e]) h rfl
theorem dX6_take_0 : decode cX6_take 0 = .ok (.aload_n 0, 1) := by decide +kernel
theorem dX6_take_1 : decode cX6_take 1 = .ok (.getfield 22, 3) := by decide +kernel
theorem dX6_take_4 : decode cX6_take 4 = .ok (.aload_n 0, 1) := by decide +kernel
theorem dX6_take_5 : decode cX6_take 5 = .ok (.getfield 36, 3) := by decide +kernel
theorem dX6_take_8 : decode cX6_take 8 = .ok (.iaload, 1) := by decide +kernel
theorem dX6_take_9 : decode cX6_take 9 = .ok (.iload_n 1, 1) := by decide +kernel
theorem dX6_take_10 : decode cX6_take 10 = .ok (.if_icmp .eq 9, 3) := by decide +kernel
theorem dX6_take_13 : decode cX6_take 13 = .ok (.aload_n 0, 1) := by decide +kernel
theorem dX6_take_14 : decode cX6_take 14 = .ok (.iconst 2, 1) := by decide +kernel
theorem dX6_take_15 : decode cX6_take 15 = .ok (.invokevirtual 112, 3) := by decide +kernel
theorem dX6_take_18 : decode cX6_take 18 = .ok (.ireturn, 1) := by decide +kernel
theorem dX6_take_19 : decode cX6_take 19 = .ok (.aload_n 0, 1) := by decide +kernel
theorem dX6_take_20 : decode cX6_take 20 = .ok (.invokevirtual 116, 3) := by decide +kernel
theorem dX6_take_23 : decode cX6_take 23 = .ok (.iconst 1, 1) := by decide +kernel
theorem dX6_take_24 : decode cX6_take 24 = .ok (.ireturn, 1) := by decide +kernel
noncomputable def Re_take (σ : St) (p1 : Int32) : Option (Int32 × St) :=
  chk (ix (σ.1 2 7) 901) (if (σ.1 4 (tn (σ.1 2 7))) = p1 then (bd (Re_step σ) (fun σ3 => some (1, σ3))) else (bd2 (Re_blame σ 2) (fun r5 σ6 => chk (ckz r5) (some (r5, σ6)))))
set_option maxRecDepth 100000 in
set_option maxHeartbeats 4000000 in
theorem tm_Re_take {V : Ev} {Γ : Cn} {fin : Option Value × St} {σ : St} {p1 : Int32} {o : (Int32 × St)} (X : Cx V Γ M_X6_take) {A : (Int32 × St) → Prop}  (hr : ∀ (r : Int32) (σ9 : St), A (r, σ9) → (some (.int r), σ9) = fin) (h : Re_take σ p1 = some o) (hA : A o) : Go V Γ M_X6_take (Zm V Γ 1 fin) 0 [(0, .ref (V.2.2.1 + 2)), (1, .int p1)] [] σ := by
  unfold Re_take at h
  refine g_aload_n (pc := 0) X 0 rfl dX6_take_0 ?_
  refine g_getR (r := 4) (pc := 1) X k_fl_X6_22 s_2 rfl dX6_take_1 ?_
  refine g_aload_n (pc := 4) X 0 rfl dX6_take_4 ?_
  refine g_getI (pc := 5) X k_fl_X6_36 s_2 rfl dX6_take_5 ?_
  obtain ⟨c1, h⟩ := chk_e h
  refine g_iald (pc := 8) X s_4 c1 dX6_take_8 ?_
  refine g_iload_n (pc := 9) X 1 rfl dX6_take_9 ?_
  refine g_icmp_eq (pc := 10) (tgt := 19) X dX6_take_10 rfl (fun c8 => ?_) (fun c8 => ?_)
  · replace h := if_t c8 h
    refine g_aload_n (pc := 19) X 0 rfl dX6_take_19 ?_
    obtain ⟨σ3, hc2, h⟩ := bd_e h
    refine g_callV (pc := 20) X k_ml_X6_116 (run_Re_step  hc2) s_2 rfl (room_ok (Nat.le_of_ble_eq_true rfl) (Nat.le_of_ble_eq_true rfl)) ⟨Nat.le_refl _, Nat.le_refl _⟩ _ rfl (Nat.le_of_ble_eq_true rfl) dX6_take_20 ?_
    show Go V Γ M_X6_take (Zm V Γ 1 fin) 23 [(0, .ref (V.2.2.1 + 2)), (1, .int p1)] [] σ3
    refine g_iconst (v := 1) (pc := 23) X rfl dX6_take_23 ?_
    cases h
    exact g_iret (pc := 24) X rfl nz1.1 (hr _ _ hA) dX6_take_24
  · replace h := if_f c8 h
    refine g_aload_n (pc := 13) X 0 rfl dX6_take_13 ?_
    refine g_iconst (v := 2) (pc := 14) X rfl dX6_take_14 ?_
    obtain ⟨r5, σ6, hc4, h⟩ := bd2_e h
    refine g_callV (pc := 15) X k_ml_X6_112 (run_Re_blame  hc4) s_2 rfl (room_ok (Nat.le_of_ble_eq_true rfl) (Nat.le_of_ble_eq_true rfl)) ⟨Nat.le_refl _, Nat.le_refl _⟩ _ rfl (Nat.le_of_ble_eq_true rfl) dX6_take_15 ?_
    show Go V Γ M_X6_take (Zm V Γ 1 fin) 18 [(0, .ref (V.2.2.1 + 2)), (1, .int p1)] [.int r5] σ6
    obtain ⟨c7, h⟩ := chk_e h
    cases h
    exact g_iret (pc := 18) X rfl (ckz_e c7).1 (hr _ _ hA) dX6_take_18
set_option maxRecDepth 100000 in
theorem run_Re_take {V : Ev} {σ : St} {p1 : Int32} {o : (Int32 × St)}   (h : Re_take σ p1 = some o) : Rs V 1 M_X6_take [.ref (V.2.2.1 + 2), .int p1] σ (some (.int o.1), o.2) := by
  refine Rs.of (by decide +kernel) (Nat.le_of_ble_eq_true rfl) (fun Γ X => ?_)
  exact tm_Re_take X (A := fun o1 => o1 = o)  (fun _ _ e => by rw [← e]) h rfl
theorem dX3_isOpener_0 : decode cX3_isOpener 0 = .ok (.iload_n 0, 1) := by decide +kernel
theorem dX3_isOpener_1 : decode cX3_isOpener 1 = .ok (.bipush 19, 2) := by decide +kernel
theorem dX3_isOpener_3 : decode cX3_isOpener 3 = .ok (.if_icmp .eq 9, 3) := by decide +kernel
theorem dX3_isOpener_6 : decode cX3_isOpener 6 = .ok (.iload_n 0, 1) := by decide +kernel
theorem dX3_isOpener_7 : decode cX3_isOpener 7 = .ok (.bipush 23, 2) := by decide +kernel
theorem dX3_isOpener_9 : decode cX3_isOpener 9 = .ok (.if_icmp .ne 7, 3) := by decide +kernel
theorem dX3_isOpener_12 : decode cX3_isOpener 12 = .ok (.iconst 1, 1) := by decide +kernel
theorem dX3_isOpener_13 : decode cX3_isOpener 13 = .ok (.goto 4, 3) := by decide +kernel
theorem dX3_isOpener_16 : decode cX3_isOpener 16 = .ok (.iconst 0, 1) := by decide +kernel
theorem dX3_isOpener_17 : decode cX3_isOpener 17 = .ok (.ireturn, 1) := by decide +kernel
noncomputable def DT_isOpener (p0 : Int32) : Option Int32 :=
  if p0 = 19 then (some 1) else (if p0 = 23 then (some 1) else (some 0))
set_option maxRecDepth 100000 in
set_option maxHeartbeats 4000000 in
theorem tm_DT_isOpener {V : Ev} {Γ : Cn} {fin : Option Value × St} {σ : St} {p0 : Int32} {o : Int32} (X : Cx V Γ M_X3_isOpener) {A : Int32 → Prop}  (hr : ∀ (r : Int32), A r → (some (.int r), σ) = fin) (h : DT_isOpener p0 = some o) (hA : A o) : Go V Γ M_X3_isOpener (Zm V Γ 0 fin) 0 [(0, .int p0)] [] σ := by
  unfold DT_isOpener at h
  refine g_iload_n (pc := 0) X 0 rfl dX3_isOpener_0 ?_
  refine g_bipush (v := 19) (pc := 1) X (by decide) dX3_isOpener_1 ?_
  refine g_icmp_eq (pc := 3) (tgt := 12) X dX3_isOpener_3 rfl (fun c2 => ?_) (fun c2 => ?_)
  · replace h := if_t c2 h
    refine g_iconst (v := 1) (pc := 12) X rfl dX3_isOpener_12 ?_
    refine g_goto (pc := 13) (tgt := 17) X dX3_isOpener_13 rfl ?_
    cases h
    exact g_iret (pc := 17) X rfl nz1.1 (hr _ hA) dX3_isOpener_17
  · replace h := if_f c2 h
    refine g_iload_n (pc := 6) X 0 rfl dX3_isOpener_6 ?_
    refine g_bipush (v := 23) (pc := 7) X (by decide) dX3_isOpener_7 ?_
    refine g_icmp_ne (pc := 9) (tgt := 16) X dX3_isOpener_9 rfl (fun c1 => ?_) (fun c1 => ?_)
    · replace h := if_f c1 h
      refine g_iconst (v := 0) (pc := 16) X rfl dX3_isOpener_16 ?_
      cases h
      exact g_iret (pc := 17) X rfl nz0.1 (hr _ hA) dX3_isOpener_17
    · replace h := if_t c1 h
      refine g_iconst (v := 1) (pc := 12) X rfl dX3_isOpener_12 ?_
      refine g_goto (pc := 13) (tgt := 17) X dX3_isOpener_13 rfl ?_
      cases h
      exact g_iret (pc := 17) X rfl nz1.1 (hr _ hA) dX3_isOpener_17
set_option maxRecDepth 100000 in
theorem run_DT_isOpener {V : Ev} {σ : St} {p0 : Int32} {o : Int32}   (h : DT_isOpener p0 = some o) : Rs V 0 M_X3_isOpener [.int p0] σ (some (.int o), σ) := by
  refine Rs.of (by decide +kernel) (Nat.le_of_ble_eq_true rfl) (fun Γ X => ?_)
  exact tm_DT_isOpener X (A := fun o1 => o1 = o)  (fun _ e => by rw [e]) h rfl
theorem dX3_isStep_0 : decode cX3_isStep 0 = .ok (.iload_n 0, 1) := by decide +kernel
theorem dX3_isStep_1 : decode cX3_isStep 1 = .ok (.bipush 15, 2) := by decide +kernel
theorem dX3_isStep_3 : decode cX3_isStep 3 = .ok (.if_icmp .eq 40, 3) := by decide +kernel
theorem dX3_isStep_6 : decode cX3_isStep 6 = .ok (.iload_n 0, 1) := by decide +kernel
theorem dX3_isStep_7 : decode cX3_isStep 7 = .ok (.bipush 14, 2) := by decide +kernel
theorem dX3_isStep_9 : decode cX3_isStep 9 = .ok (.if_icmp .eq 34, 3) := by decide +kernel
theorem dX3_isStep_12 : decode cX3_isStep 12 = .ok (.iload_n 0, 1) := by decide +kernel
theorem dX3_isStep_13 : decode cX3_isStep 13 = .ok (.bipush 16, 2) := by decide +kernel
theorem dX3_isStep_15 : decode cX3_isStep 15 = .ok (.if_icmp .eq 28, 3) := by decide +kernel
theorem dX3_isStep_18 : decode cX3_isStep 18 = .ok (.iload_n 0, 1) := by decide +kernel
theorem dX3_isStep_19 : decode cX3_isStep 19 = .ok (.bipush 17, 2) := by decide +kernel
theorem dX3_isStep_21 : decode cX3_isStep 21 = .ok (.if_icmp .eq 22, 3) := by decide +kernel
theorem dX3_isStep_24 : decode cX3_isStep 24 = .ok (.iload_n 0, 1) := by decide +kernel
theorem dX3_isStep_25 : decode cX3_isStep 25 = .ok (.bipush 18, 2) := by decide +kernel
theorem dX3_isStep_27 : decode cX3_isStep 27 = .ok (.if_icmp .eq 16, 3) := by decide +kernel
theorem dX3_isStep_30 : decode cX3_isStep 30 = .ok (.iload_n 0, 1) := by decide +kernel
theorem dX3_isStep_31 : decode cX3_isStep 31 = .ok (.bipush 25, 2) := by decide +kernel
theorem dX3_isStep_33 : decode cX3_isStep 33 = .ok (.if_icmp .eq 10, 3) := by decide +kernel
theorem dX3_isStep_36 : decode cX3_isStep 36 = .ok (.iload_n 0, 1) := by decide +kernel
theorem dX3_isStep_37 : decode cX3_isStep 37 = .ok (.invokestatic 42, 3) := by decide +kernel
theorem dX3_isStep_40 : decode cX3_isStep 40 = .ok (.ifCond .eq 7, 3) := by decide +kernel
theorem dX3_isStep_43 : decode cX3_isStep 43 = .ok (.iconst 1, 1) := by decide +kernel
theorem dX3_isStep_44 : decode cX3_isStep 44 = .ok (.goto 4, 3) := by decide +kernel
theorem dX3_isStep_47 : decode cX3_isStep 47 = .ok (.iconst 0, 1) := by decide +kernel
theorem dX3_isStep_48 : decode cX3_isStep 48 = .ok (.ireturn, 1) := by decide +kernel
noncomputable def DT_isStep (p0 : Int32) : Option Int32 :=
  if p0 = 15 then (some 1) else (if p0 = 14 then (some 1) else (if p0 = 16 then (some 1) else (if p0 = 17 then (some 1) else (if p0 = 18 then (some 1) else (if p0 = 25 then (some 1) else (bd (DT_isOpener p0) (fun r2 => if r2 = 0 then (some 0) else (some 1))))))))
set_option maxRecDepth 100000 in
set_option maxHeartbeats 4000000 in
theorem tm_DT_isStep {V : Ev} {Γ : Cn} {fin : Option Value × St} {σ : St} {p0 : Int32} {o : Int32} (X : Cx V Γ M_X3_isStep) {A : Int32 → Prop}  (hr : ∀ (r : Int32), A r → (some (.int r), σ) = fin) (h : DT_isStep p0 = some o) (hA : A o) : Go V Γ M_X3_isStep (Zm V Γ 1 fin) 0 [(0, .int p0)] [] σ := by
  unfold DT_isStep at h
  refine g_iload_n (pc := 0) X 0 rfl dX3_isStep_0 ?_
  refine g_bipush (v := 15) (pc := 1) X (by decide) dX3_isStep_1 ?_
  refine g_icmp_eq (pc := 3) (tgt := 43) X dX3_isStep_3 rfl (fun c9 => ?_) (fun c9 => ?_)
  · replace h := if_t c9 h
    refine g_iconst (v := 1) (pc := 43) X rfl dX3_isStep_43 ?_
    refine g_goto (pc := 44) (tgt := 48) X dX3_isStep_44 rfl ?_
    cases h
    exact g_iret (pc := 48) X rfl nz1.1 (hr _ hA) dX3_isStep_48
  · replace h := if_f c9 h
    refine g_iload_n (pc := 6) X 0 rfl dX3_isStep_6 ?_
    refine g_bipush (v := 14) (pc := 7) X (by decide) dX3_isStep_7 ?_
    refine g_icmp_eq (pc := 9) (tgt := 43) X dX3_isStep_9 rfl (fun c8 => ?_) (fun c8 => ?_)
    · replace h := if_t c8 h
      refine g_iconst (v := 1) (pc := 43) X rfl dX3_isStep_43 ?_
      refine g_goto (pc := 44) (tgt := 48) X dX3_isStep_44 rfl ?_
      cases h
      exact g_iret (pc := 48) X rfl nz1.1 (hr _ hA) dX3_isStep_48
    · replace h := if_f c8 h
      refine g_iload_n (pc := 12) X 0 rfl dX3_isStep_12 ?_
      refine g_bipush (v := 16) (pc := 13) X (by decide) dX3_isStep_13 ?_
      refine g_icmp_eq (pc := 15) (tgt := 43) X dX3_isStep_15 rfl (fun c7 => ?_) (fun c7 => ?_)
      · replace h := if_t c7 h
        refine g_iconst (v := 1) (pc := 43) X rfl dX3_isStep_43 ?_
        refine g_goto (pc := 44) (tgt := 48) X dX3_isStep_44 rfl ?_
        cases h
        exact g_iret (pc := 48) X rfl nz1.1 (hr _ hA) dX3_isStep_48
      · replace h := if_f c7 h
        refine g_iload_n (pc := 18) X 0 rfl dX3_isStep_18 ?_
        refine g_bipush (v := 17) (pc := 19) X (by decide) dX3_isStep_19 ?_
        refine g_icmp_eq (pc := 21) (tgt := 43) X dX3_isStep_21 rfl (fun c6 => ?_) (fun c6 => ?_)
        · replace h := if_t c6 h
          refine g_iconst (v := 1) (pc := 43) X rfl dX3_isStep_43 ?_
          refine g_goto (pc := 44) (tgt := 48) X dX3_isStep_44 rfl ?_
          cases h
          exact g_iret (pc := 48) X rfl nz1.1 (hr _ hA) dX3_isStep_48
        · replace h := if_f c6 h
          refine g_iload_n (pc := 24) X 0 rfl dX3_isStep_24 ?_
          refine g_bipush (v := 18) (pc := 25) X (by decide) dX3_isStep_25 ?_
          refine g_icmp_eq (pc := 27) (tgt := 43) X dX3_isStep_27 rfl (fun c5 => ?_) (fun c5 => ?_)
          · replace h := if_t c5 h
            refine g_iconst (v := 1) (pc := 43) X rfl dX3_isStep_43 ?_
            refine g_goto (pc := 44) (tgt := 48) X dX3_isStep_44 rfl ?_
            cases h
            exact g_iret (pc := 48) X rfl nz1.1 (hr _ hA) dX3_isStep_48
          · replace h := if_f c5 h
            refine g_iload_n (pc := 30) X 0 rfl dX3_isStep_30 ?_
            refine g_bipush (v := 25) (pc := 31) X (by decide) dX3_isStep_31 ?_
            refine g_icmp_eq (pc := 33) (tgt := 43) X dX3_isStep_33 rfl (fun c4 => ?_) (fun c4 => ?_)
            · replace h := if_t c4 h
              refine g_iconst (v := 1) (pc := 43) X rfl dX3_isStep_43 ?_
              refine g_goto (pc := 44) (tgt := 48) X dX3_isStep_44 rfl ?_
              cases h
              exact g_iret (pc := 48) X rfl nz1.1 (hr _ hA) dX3_isStep_48
            · replace h := if_f c4 h
              refine g_iload_n (pc := 36) X 0 rfl dX3_isStep_36 ?_
              obtain ⟨r2, hc1, h⟩ := bd_e h
              refine g_callS (pc := 37) X k_ml_X3_42 (run_DT_isOpener  hc1) rfl (room_ok (Nat.le_of_ble_eq_true rfl) (Nat.le_of_ble_eq_true rfl)) ⟨Nat.le_refl _, Nat.le_refl _⟩ _ rfl (Nat.le_of_ble_eq_true rfl) dX3_isStep_37 ?_
              show Go V Γ M_X3_isStep (Zm V Γ 1 fin) 40 [(0, .int p0)] [.int r2] σ
              refine g_if_eq (pc := 40) (tgt := 47) X dX3_isStep_40 rfl (fun c3 => ?_) (fun c3 => ?_)
              · replace h := if_t c3 h
                refine g_iconst (v := 0) (pc := 47) X rfl dX3_isStep_47 ?_
                cases h
                exact g_iret (pc := 48) X rfl nz0.1 (hr _ hA) dX3_isStep_48
              · replace h := if_f c3 h
                refine g_iconst (v := 1) (pc := 43) X rfl dX3_isStep_43 ?_
                refine g_goto (pc := 44) (tgt := 48) X dX3_isStep_44 rfl ?_
                cases h
                exact g_iret (pc := 48) X rfl nz1.1 (hr _ hA) dX3_isStep_48
set_option maxRecDepth 100000 in
theorem run_DT_isStep {V : Ev} {σ : St} {p0 : Int32} {o : Int32}   (h : DT_isStep p0 = some o) : Rs V 1 M_X3_isStep [.int p0] σ (some (.int o), σ) := by
  refine Rs.of (by decide +kernel) (Nat.le_of_ble_eq_true rfl) (fun Γ X => ?_)
  exact tm_DT_isStep X (A := fun o1 => o1 = o)  (fun _ e => by rw [e]) h rfl
theorem dX3_depthOf_0 : decode cX3_depthOf 0 = .ok (.iconst 0, 1) := by decide +kernel
theorem dX3_depthOf_1 : decode cX3_depthOf 1 = .ok (.istore_n 2, 1) := by decide +kernel
theorem dX3_depthOf_2 : decode cX3_depthOf 2 = .ok (.iload_n 1, 1) := by decide +kernel
theorem dX3_depthOf_3 : decode cX3_depthOf 3 = .ok (.istore_n 3, 1) := by decide +kernel
theorem dX3_depthOf_4 : decode cX3_depthOf 4 = .ok (.iconst 0, 1) := by decide +kernel
theorem dX3_depthOf_5 : decode cX3_depthOf 5 = .ok (.istore 4, 2) := by decide +kernel
theorem dX3_depthOf_7 : decode cX3_depthOf 7 = .ok (.iload 4, 2) := by decide +kernel
theorem dX3_depthOf_9 : decode cX3_depthOf 9 = .ok (.iconst 3, 1) := by decide +kernel
theorem dX3_depthOf_10 : decode cX3_depthOf 10 = .ok (.if_icmp .ge 24, 3) := by decide +kernel
theorem dX3_depthOf_13 : decode cX3_depthOf 13 = .ok (.iload_n 3, 1) := by decide +kernel
theorem dX3_depthOf_14 : decode cX3_depthOf 14 = .ok (.iconst (-1), 1) := by decide +kernel
theorem dX3_depthOf_15 : decode cX3_depthOf 15 = .ok (.if_icmp .eq 19, 3) := by decide +kernel
theorem dX3_depthOf_18 : decode cX3_depthOf 18 = .ok (.iinc 2 1, 3) := by decide +kernel
theorem dX3_depthOf_21 : decode cX3_depthOf 21 = .ok (.aload_n 0, 1) := by decide +kernel
theorem dX3_depthOf_22 : decode cX3_depthOf 22 = .ok (.getfield 45, 3) := by decide +kernel
theorem dX3_depthOf_25 : decode cX3_depthOf 25 = .ok (.iload_n 3, 1) := by decide +kernel
theorem dX3_depthOf_26 : decode cX3_depthOf 26 = .ok (.iaload, 1) := by decide +kernel
theorem dX3_depthOf_27 : decode cX3_depthOf 27 = .ok (.istore_n 3, 1) := by decide +kernel
theorem dX3_depthOf_28 : decode cX3_depthOf 28 = .ok (.iinc 4 1, 3) := by decide +kernel
theorem dX3_depthOf_31 : decode cX3_depthOf 31 = .ok (.goto (-24), 3) := by decide +kernel
theorem dX3_depthOf_34 : decode cX3_depthOf 34 = .ok (.iload_n 2, 1) := by decide +kernel
theorem dX3_depthOf_35 : decode cX3_depthOf 35 = .ok (.ireturn, 1) := by decide +kernel
noncomputable def DT_depthOf_L7 (l0 : Nat) (σ : St) (x2 : Int32) (x3 : Int32) (x4 : Int32) : Option ((Int32 × Int32 × Int32) ⊕ Int32) :=
  if 3 ≤ x4 then (some (.inr x2)) else (if x3 = (-1) then (some (.inr x2)) else (bnd (x2 + 1) (fun v1 => chk (ix x3 60) (bnd ((σ.1 (l0 + 6) (tn x3))) (fun v3 => bnd (x4 + 1) (fun v4 => some (.inl (v1, v3, v4))))))))
set_option maxRecDepth 100000 in
set_option maxHeartbeats 4000000 in
theorem tb_DT_depthOf_L7 {V : Ev} {Γ : Cn} {fin : Option Value × St} {l0 : Nat} {σ : St} {x2 : Int32} {x3 : Int32} {x4 : Int32} {o : ((Int32 × Int32 × Int32) ⊕ Int32)} (X : Cx V Γ M_X3_depthOf) {A : ((Int32 × Int32 × Int32) ⊕ Int32) → Prop} (k_l0 : okDa l0) (hb7 : ∀ (x2 : Int32) (x3 : Int32) (x4 : Int32), A (.inl (x2, x3, x4)) → Go V Γ M_X3_depthOf (Zm V Γ 0 fin) 7 [(0, .ref (V.2.2.1 + l0)), (2, .int x2), (3, .int x3), (4, .int x4)] [] σ) (hx7 : ∀ (x2 : Int32), A (.inr x2) → Go V Γ M_X3_depthOf (Zm V Γ 0 fin) 34 [(2, .int x2)] [] σ) (h : DT_depthOf_L7 l0 σ x2 x3 x4 = some o) (hA : A o) : Go V Γ M_X3_depthOf (Zm V Γ 0 fin) 7 [(0, .ref (V.2.2.1 + l0)), (2, .int x2), (3, .int x3), (4, .int x4)] [] σ := by
  unfold DT_depthOf_L7 at h
  refine g_iload (pc := 7) X 3 rfl dX3_depthOf_7 ?_
  refine g_iconst (v := 3) (pc := 9) X rfl dX3_depthOf_9 ?_
  refine g_icmp_ge (pc := 10) (tgt := 34) X dX3_depthOf_10 rfl (fun c6 => ?_) (fun c6 => ?_)
  · replace h := if_t c6 h
    refine g_sub [1] rfl ?_
    cases h
    exact hx7 _ hA
  · replace h := if_f c6 h
    refine g_iload_n (pc := 13) X 2 rfl dX3_depthOf_13 ?_
    refine g_iconst (v := (-1)) (pc := 14) X rfl dX3_depthOf_14 ?_
    refine g_icmp_eq (pc := 15) (tgt := 34) X dX3_depthOf_15 rfl (fun c5 => ?_) (fun c5 => ?_)
    · replace h := if_t c5 h
      refine g_sub [1] rfl ?_
      cases h
      exact hx7 _ hA
    · replace h := if_f c5 h
      obtain ⟨v1, e_v1, h⟩ := bnd_e h
      refine g_iinc (pc := 18) (v := v1) X [(2, .int v1), (0, .ref (V.2.2.1 + l0)), (3, .int x3), (4, .int x4)] 1 rfl (by rw [e_v1]; rfl) (Nat.le_of_ble_eq_true rfl) rfl dX3_depthOf_18 ?_
      refine g_aload_n (pc := 21) X 1 rfl dX3_depthOf_21 ?_
      refine g_getR (r := (l0 + 6)) (pc := 22) X k_fl_X3_45 (sDa_0 k_l0) rfl dX3_depthOf_22 ?_
      refine g_iload_n (pc := 25) X 2 rfl dX3_depthOf_25 ?_
      obtain ⟨c2, h⟩ := chk_e h
      refine g_iald (pc := 26) X (sDa_6 k_l0) c2 dX3_depthOf_26 ?_
      obtain ⟨v3, e_v3, h⟩ := bnd_e h
      refine g_nmI e_v3 ?_
      refine g_istore_n (pc := 27) X [(3, .int v3), (2, .int v1), (0, .ref (V.2.2.1 + l0)), (4, .int x4)] rfl (Nat.le_of_ble_eq_true rfl) rfl dX3_depthOf_27 ?_
      obtain ⟨v4, e_v4, h⟩ := bnd_e h
      refine g_iinc (pc := 28) (v := v4) X [(4, .int v4), (3, .int v3), (2, .int v1), (0, .ref (V.2.2.1 + l0))] 3 rfl (by rw [e_v4]; rfl) (Nat.le_of_ble_eq_true rfl) rfl dX3_depthOf_28 ?_
      refine g_goto (pc := 31) (tgt := 7) X dX3_depthOf_31 rfl ?_
      refine g_sub [3, 2, 1, 0] rfl ?_
      cases h
      exact hb7 _ _ _ hA
set_option maxRecDepth 100000 in
theorem tl_DT_depthOf_L7 {V : Ev} {Γ : Cn} {fin : Option Value × St} {l0 : Nat} {σ : St} {x2 : Int32} {x3 : Int32} {x4 : Int32} (X : Cx V Γ M_X3_depthOf) (k_l0 : okDa l0) {y2 : Int32} {n : Nat} (h : iter (fun s : (Int32 × Int32 × Int32) => DT_depthOf_L7 l0 σ s.1 s.2.1 s.2.2) n (x2, x3, x4) = some y2) (hK : Go V Γ M_X3_depthOf (Zm V Γ 0 fin) 34 [(2, .int y2)] [] σ) : Go V Γ M_X3_depthOf (Zm V Γ 0 fin) 7 [(0, .ref (V.2.2.1 + l0)), (2, .int x2), (3, .int x3), (4, .int x4)] [] σ := by
  refine iter_go (G := (fun s : (Int32 × Int32 × Int32) => Go V Γ M_X3_depthOf (Zm V Γ 0 fin) 7 [(0, .ref (V.2.2.1 + l0)), (2, .int s.1), (3, .int s.2.1), (4, .int s.2.2)] [] σ)) (fun s o ho hS => ?_) n (x2, x3, x4) h
  exact tb_DT_depthOf_L7 X k_l0 (fun _ _ _ h9 => h9) (fun _ he => by cases he; exact hK) ho hS
noncomputable def DT_depthOf (σ : St) (a0 : Nat) (p1 : Int32) : Option Int32 :=
  bd (iter (fun s : (Int32 × Int32 × Int32) => DT_depthOf_L7 a0 σ s.1 s.2.1 s.2.2) FUEL (0, p1, 0)) (fun v7 => some v7)
set_option maxRecDepth 100000 in
set_option maxHeartbeats 4000000 in
theorem tm_DT_depthOf {V : Ev} {Γ : Cn} {fin : Option Value × St} {σ : St} {a0 : Nat} {p1 : Int32} {o : Int32} (X : Cx V Γ M_X3_depthOf) {A : Int32 → Prop} (k0 : okDa a0) (hr : ∀ (r : Int32), A r → (some (.int r), σ) = fin) (h : DT_depthOf σ a0 p1 = some o) (hA : A o) : Go V Γ M_X3_depthOf (Zm V Γ 0 fin) 0 [(0, .ref (V.2.2.1 + a0)), (1, .int p1)] [] σ := by
  unfold DT_depthOf at h
  refine g_iconst (v := 0) (pc := 0) X rfl dX3_depthOf_0 ?_
  refine g_istore_n (pc := 1) X [(2, .int 0), (0, .ref (V.2.2.1 + a0)), (1, .int p1)] rfl (Nat.le_of_ble_eq_true rfl) rfl dX3_depthOf_1 ?_
  refine g_iload_n (pc := 2) X 2 rfl dX3_depthOf_2 ?_
  refine g_istore_n (pc := 3) X [(3, .int p1), (2, .int 0), (0, .ref (V.2.2.1 + a0)), (1, .int p1)] rfl (Nat.le_of_ble_eq_true rfl) rfl dX3_depthOf_3 ?_
  refine g_iconst (v := 0) (pc := 4) X rfl dX3_depthOf_4 ?_
  refine g_istore (pc := 5) X [(4, .int 0), (3, .int p1), (2, .int 0), (0, .ref (V.2.2.1 + a0)), (1, .int p1)] (Nat.le_of_ble_eq_true rfl) rfl dX3_depthOf_5 ?_
  refine g_sub [3, 2, 1, 0] rfl ?_
  obtain ⟨v7, hi8, h⟩ := bd_e h
  refine tl_DT_depthOf_L7 X k0 hi8 ?_
  refine g_iload_n (pc := 34) X 0 rfl dX3_depthOf_34 ?_
  cases h
  exact g_iret (pc := 35) X rfl rfl (hr _ hA) dX3_depthOf_35
set_option maxRecDepth 100000 in
theorem run_DT_depthOf {V : Ev} {σ : St} {a0 : Nat} {p1 : Int32} {o : Int32} (k0 : okDa a0)  (h : DT_depthOf σ a0 p1 = some o) : Rs V 0 M_X3_depthOf [.ref (V.2.2.1 + a0), .int p1] σ (some (.int o), σ) := by
  refine Rs.of (by decide +kernel) (Nat.le_of_ble_eq_true rfl) (fun Γ X => ?_)
  exact tm_DT_depthOf X (A := fun o1 => o1 = o) k0 (fun _ e => by rw [e]) h rfl
