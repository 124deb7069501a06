theorem dX11_spread_0 : decode cX11_spread 0 = .ok (.iload_n 1, 1) := by decide +kernel
theorem dX11_spread_1 : decode cX11_spread 1 = .ok (.i2l, 1) := by decide +kernel
theorem dX11_spread_2 : decode cX11_spread 2 = .ok (.ldc2_w 276, 3) := by decide +kernel
theorem dX11_spread_5 : decode cX11_spread 5 = .ok (.ldc2_w 102, 3) := by decide +kernel
theorem dX11_spread_8 : decode cX11_spread 8 = .ok (.invokestatic 98, 3) := by decide +kernel
theorem dX11_spread_11 : decode cX11_spread 11 = .ok (.ifCond .ne 9, 3) := by decide +kernel
theorem dX11_spread_14 : decode cX11_spread 14 = .ok (.aload_n 0, 1) := by decide +kernel
theorem dX11_spread_15 : decode cX11_spread 15 = .ok (.iconst 1, 1) := by decide +kernel
theorem dX11_spread_16 : decode cX11_spread 16 = .ok (.invokevirtual 124, 3) := by decide +kernel
theorem dX11_spread_19 : decode cX11_spread 19 = .ok (.ireturn, 1) := by decide +kernel
theorem dX11_spread_20 : decode cX11_spread 20 = .ok (.aload_n 0, 1) := by decide +kernel
theorem dX11_spread_21 : decode cX11_spread 21 = .ok (.getfield 36, 3) := by decide +kernel
theorem dX11_spread_24 : decode cX11_spread 24 = .ok (.invokevirtual 278, 3) := by decide +kernel
theorem dX11_spread_27 : decode cX11_spread 27 = .ok (.iload_n 1, 1) := by decide +kernel
theorem dX11_spread_28 : decode cX11_spread 28 = .ok (.imul, 1) := by decide +kernel
theorem dX11_spread_29 : decode cX11_spread 29 = .ok (.bipush 60, 2) := by decide +kernel
theorem dX11_spread_31 : decode cX11_spread 31 = .ok (.if_icmp .le 10, 3) := by decide +kernel
theorem dX11_spread_34 : decode cX11_spread 34 = .ok (.aload_n 0, 1) := by decide +kernel
theorem dX11_spread_35 : decode cX11_spread 35 = .ok (.bipush 7, 2) := by decide +kernel
theorem dX11_spread_37 : decode cX11_spread 37 = .ok (.invokevirtual 124, 3) := by decide +kernel
theorem dX11_spread_40 : decode cX11_spread 40 = .ok (.ireturn, 1) := by decide +kernel
theorem dX11_spread_41 : decode cX11_spread 41 = .ok (.aload_n 0, 1) := by decide +kernel
theorem dX11_spread_42 : decode cX11_spread 42 = .ok (.getfield 36, 3) := by decide +kernel
theorem dX11_spread_45 : decode cX11_spread 45 = .ok (.getfield 182, 3) := by decide +kernel
theorem dX11_spread_48 : decode cX11_spread 48 = .ok (.ifCond .ne 10, 3) := by decide +kernel
theorem dX11_spread_51 : decode cX11_spread 51 = .ok (.aload_n 0, 1) := by decide +kernel
theorem dX11_spread_52 : decode cX11_spread 52 = .ok (.bipush 6, 2) := by decide +kernel
theorem dX11_spread_54 : decode cX11_spread 54 = .ok (.invokevirtual 124, 3) := by decide +kernel
theorem dX11_spread_57 : decode cX11_spread 57 = .ok (.ireturn, 1) := by decide +kernel
theorem dX11_spread_58 : decode cX11_spread 58 = .ok (.aload_n 0, 1) := by decide +kernel
theorem dX11_spread_59 : decode cX11_spread 59 = .ok (.getfield 36, 3) := by decide +kernel
theorem dX11_spread_62 : decode cX11_spread 62 = .ok (.iload_n 1, 1) := by decide +kernel
theorem dX11_spread_63 : decode cX11_spread 63 = .ok (.invokevirtual 281, 3) := by decide +kernel
theorem dX11_spread_66 : decode cX11_spread 66 = .ok (.aload_n 0, 1) := by decide +kernel
theorem dX11_spread_67 : decode cX11_spread 67 = .ok (.aload_n 0, 1) := by decide +kernel
theorem dX11_spread_68 : decode cX11_spread 68 = .ok (.getfield 36, 3) := by decide +kernel
theorem dX11_spread_71 : decode cX11_spread 71 = .ok (.invokevirtual 278, 3) := by decide +kernel
theorem dX11_spread_74 : decode cX11_spread 74 = .ok (.invokevirtual 185, 3) := by decide +kernel
theorem dX11_spread_77 : decode cX11_spread 77 = .ok (.ireturn, 1) := by decide +kernel
noncomputable def RC_spread (σ : St) (p1 : Int32) : Option (Int32 × St) :=
  bd (RC_within p1.toInt64 2 60) (fun r2 => if r2 = 0 then (bd2 (RC_refuse σ 1) (fun r21 σ22 => some (r21, σ22))) else (bd (Cl_greatestModulus σ 7) (fun r4 => if (r4 * p1) ≤ 60 then (if (σ.1 7 3) = 0 then (bd2 (RC_refuse σ 6) (fun r13 σ14 => some (r13, σ14))) else (bd (Cl_stretch σ 7 p1) (fun σ6 => bd (Cl_greatestModulus σ6 7) (fun r8 => bd2 (RC_answer σ6 r8) (fun r10 σ11 => some (r10, σ11)))))) else (bd2 (RC_refuse σ 7) (fun r17 σ18 => some (r17, σ18))))))
set_option maxRecDepth 100000 in
set_option maxHeartbeats 4000000 in
theorem tm_RC_spread {V : Ev} {Γ : Cn} {fin : Option Value × St} {σ : St} {p1 : Int32} {o : (Int32 × St)} (X : Cx V Γ M_X11_spread) {A : (Int32 × St) → Prop}  (hr : ∀ (r : Int32) (σ9 : St), A (r, σ9) → (some (.int r), σ9) = fin) (h : RC_spread σ p1 = some o) (hA : A o) : Go V Γ M_X11_spread (Zm V Γ 2 fin) 0 [(0, .ref (V.2.2.1 + 0)), (1, .int p1)] [] σ := by
  unfold RC_spread at h
  refine g_iload_n (pc := 0) X 1 rfl dX11_spread_0 ?_
  refine g_i2l (pc := 1) X dX11_spread_1 ?_
  refine g_ldc2 (v := 2) (pc := 2) X k_constl_X11_276 dX11_spread_2 ?_
  refine g_ldc2 (v := 60) (pc := 5) X k_constl_X11_102 dX11_spread_5 ?_
  obtain ⟨r2, hc1, h⟩ := bd_e h
  refine g_callS (pc := 8) X k_ml_X11_98 (run_RC_within  hc1) rfl (room_ok (Nat.le_of_ble_eq_true rfl) (Nat.le_of_ble_eq_true rfl)) ⟨Nat.le_refl _, Nat.le_refl _⟩ _ rfl (Nat.le_of_ble_eq_true rfl) dX11_spread_8 ?_
  show Go V Γ M_X11_spread (Zm V Γ 2 fin) 11 [(0, .ref (V.2.2.1 + 0)), (1, .int p1)] [.int r2] σ
  refine g_if_ne (pc := 11) (tgt := 20) X dX11_spread_11 rfl (fun c23 => ?_) (fun c23 => ?_)
  · replace h := if_f c23 h
    refine g_aload_n (pc := 20) X 0 rfl dX11_spread_20 ?_
    refine g_getR (r := 7) (pc := 21) X k_fl_X11_36 s_0 rfl dX11_spread_21 ?_
    obtain ⟨r4, hc3, h⟩ := bd_e h
    refine g_callV (pc := 24) X k_ml_X11_278 (run_Cl_greatestModulus (oknCl_7) hc3) s_7 rfl (room_ok (Nat.le_of_ble_eq_true rfl) (Nat.le_of_ble_eq_true rfl)) ⟨Nat.le_refl _, Nat.le_refl _⟩ _ rfl (Nat.le_of_ble_eq_true rfl) dX11_spread_24 ?_
    show Go V Γ M_X11_spread (Zm V Γ 2 fin) 27 [(0, .ref (V.2.2.1 + 0)), (1, .int p1)] [.int r4] σ
    refine g_iload_n (pc := 27) X 1 rfl dX11_spread_27 ?_
    refine g_imul (pc := 28) X dX11_spread_28 ?_
    refine g_bipush (v := 60) (pc := 29) X (by decide) dX11_spread_29 ?_
    refine g_icmp_le (pc := 31) (tgt := 41) X dX11_spread_31 rfl (fun c19 => ?_) (fun c19 => ?_)
    · replace h := if_t c19 h
      refine g_aload_n (pc := 41) X 0 rfl dX11_spread_41 ?_
      refine g_getR (r := 7) (pc := 42) X k_fl_X11_36 s_0 rfl dX11_spread_42 ?_
      refine g_getI (pc := 45) X k_fl_X11_182 s_7 rfl dX11_spread_45 ?_
      refine g_if_ne (pc := 48) (tgt := 58) X dX11_spread_48 rfl (fun c15 => ?_) (fun c15 => ?_)
      · replace h := if_f c15 h
        refine g_aload_n (pc := 58) X 0 rfl dX11_spread_58 ?_
        refine g_getR (r := 7) (pc := 59) X k_fl_X11_36 s_0 rfl dX11_spread_59 ?_
        refine g_iload_n (pc := 62) X 1 rfl dX11_spread_62 ?_
        obtain ⟨σ6, hc5, h⟩ := bd_e h
        refine g_callV (pc := 63) X k_ml_X11_281 (run_Cl_stretch (oknCl_7) hc5) s_7 rfl (room_ok (Nat.le_of_ble_eq_true rfl) (Nat.le_of_ble_eq_true rfl)) ⟨Nat.le_refl _, Nat.le_refl _⟩ _ rfl (Nat.le_of_ble_eq_true rfl) dX11_spread_63 ?_
        show Go V Γ M_X11_spread (Zm V Γ 2 fin) 66 [(0, .ref (V.2.2.1 + 0)), (1, .int p1)] [] σ6
        refine g_aload_n (pc := 66) X 0 rfl dX11_spread_66 ?_
        refine g_aload_n (pc := 67) X 0 rfl dX11_spread_67 ?_
        refine g_getR (r := 7) (pc := 68) X k_fl_X11_36 s_0 rfl dX11_spread_68 ?_
        obtain ⟨r8, hc7, h⟩ := bd_e h
        refine g_callV (pc := 71) X k_ml_X11_278 (run_Cl_greatestModulus (oknCl_7) hc7) s_7 rfl (room_ok (Nat.le_of_ble_eq_true rfl) (Nat.le_of_ble_eq_true rfl)) ⟨Nat.le_refl _, Nat.le_refl _⟩ _ rfl (Nat.le_of_ble_eq_true rfl) dX11_spread_71 ?_
        show Go V Γ M_X11_spread (Zm V Γ 2 fin) 74 [(0, .ref (V.2.2.1 + 0)), (1, .int p1)] [.int r8, .ref (V.2.2.1 + 0)] σ6
        obtain ⟨r10, σ11, hc9, h⟩ := bd2_e h
        refine g_callV (pc := 74) X k_ml_X11_185 (run_RC_answer  hc9) s_0 rfl (room_ok (Nat.le_of_ble_eq_true rfl) (Nat.le_of_ble_eq_true rfl)) ⟨Nat.le_refl _, Nat.le_refl _⟩ _ rfl (Nat.le_of_ble_eq_true rfl) dX11_spread_74 ?_
        show Go V Γ M_X11_spread (Zm V Γ 2 fin) 77 [(0, .ref (V.2.2.1 + 0)), (1, .int p1)] [.int r10] σ11
        cases h
        exact g_iret (pc := 77) X rfl rfl (hr _ _ hA) dX11_spread_77
      · replace h := if_t c15 h
        refine g_aload_n (pc := 51) X 0 rfl dX11_spread_51 ?_
        refine g_bipush (v := 6) (pc := 52) X (by decide) dX11_spread_52 ?_
        obtain ⟨r13, σ14, hc12, h⟩ := bd2_e h
        refine g_callV (pc := 54) X k_ml_X11_124 (run_RC_refuse  hc12) s_0 rfl (room_ok (Nat.le_of_ble_eq_true rfl) (Nat.le_of_ble_eq_true rfl)) ⟨Nat.le_refl _, Nat.le_refl _⟩ _ rfl (Nat.le_of_ble_eq_true rfl) dX11_spread_54 ?_
        show Go V Γ M_X11_spread (Zm V Γ 2 fin) 57 [(0, .ref (V.2.2.1 + 0)), (1, .int p1)] [.int r13] σ14
        cases h
        exact g_iret (pc := 57) X rfl rfl (hr _ _ hA) dX11_spread_57
    · replace h := if_f c19 h
      refine g_aload_n (pc := 34) X 0 rfl dX11_spread_34 ?_
      refine g_bipush (v := 7) (pc := 35) X (by decide) dX11_spread_35 ?_
      obtain ⟨r17, σ18, hc16, h⟩ := bd2_e h
      refine g_callV (pc := 37) X k_ml_X11_124 (run_RC_refuse  hc16) s_0 rfl (room_ok (Nat.le_of_ble_eq_true rfl) (Nat.le_of_ble_eq_true rfl)) ⟨Nat.le_refl _, Nat.le_refl _⟩ _ rfl (Nat.le_of_ble_eq_true rfl) dX11_spread_37 ?_
      show Go V Γ M_X11_spread (Zm V Γ 2 fin) 40 [(0, .ref (V.2.2.1 + 0)), (1, .int p1)] [.int r17] σ18
      cases h
      exact g_iret (pc := 40) X rfl rfl (hr _ _ hA) dX11_spread_40
  · replace h := if_t c23 h
    refine g_aload_n (pc := 14) X 0 rfl dX11_spread_14 ?_
    refine g_iconst (v := 1) (pc := 15) X rfl dX11_spread_15 ?_
    obtain ⟨r21, σ22, hc20, h⟩ := bd2_e h
    refine g_callV (pc := 16) X k_ml_X11_124 (run_RC_refuse  hc20) s_0 rfl (room_ok (Nat.le_of_ble_eq_true rfl) (Nat.le_of_ble_eq_true rfl)) ⟨Nat.le_refl _, Nat.le_refl _⟩ _ rfl (Nat.le_of_ble_eq_true rfl) dX11_spread_16 ?_
    show Go V Γ M_X11_spread (Zm V Γ 2 fin) 19 [(0, .ref (V.2.2.1 + 0)), (1, .int p1)] [.int r21] σ22
    cases h
    exact g_iret (pc := 19) X rfl rfl (hr _ _ hA) dX11_spread_19
set_option maxRecDepth 100000 in
theorem run_RC_spread {V : Ev} {σ : St} {p1 : Int32} {o : (Int32 × St)}   (h : RC_spread σ p1 = some o) : Rs V 2 M_X11_spread [.ref (V.2.2.1 + 0), .int p1] σ (some (.int o.1), o.2) := by
  refine Rs.of (by decide +kernel) (Nat.le_of_ble_eq_true rfl) (fun Γ X => ?_)
  exact tm_RC_spread X (A := fun o1 => o1 = o)  (fun _ _ e => by rw [← e]) h rfl
theorem dX11_split_0 : decode cX11_split 0 = .ok (.aload_n 0, 1) := by decide +kernel
theorem dX11_split_1 : decode cX11_split 1 = .ok (.getfield 36, 3) := by decide +kernel
theorem dX11_split_4 : decode cX11_split 4 = .ok (.iload_n 1, 1) := by decide +kernel
theorem dX11_split_5 : decode cX11_split 5 = .ok (.invokevirtual 235, 3) := by decide +kernel
theorem dX11_split_8 : decode cX11_split 8 = .ok (.ifCond .eq 17, 3) := by decide +kernel
theorem dX11_split_11 : decode cX11_split 11 = .ok (.iload_n 2, 1) := by decide +kernel
theorem dX11_split_12 : decode cX11_split 12 = .ok (.i2l, 1) := by decide +kernel
theorem dX11_split_13 : decode cX11_split 13 = .ok (.ldc2_w 276, 3) := by decide +kernel
theorem dX11_split_16 : decode cX11_split 16 = .ok (.ldc2_w 284, 3) := by decide +kernel
theorem dX11_split_19 : decode cX11_split 19 = .ok (.invokestatic 98, 3) := by decide +kernel
theorem dX11_split_22 : decode cX11_split 22 = .ok (.ifCond .ne 9, 3) := by decide +kernel
theorem dX11_split_25 : decode cX11_split 25 = .ok (.aload_n 0, 1) := by decide +kernel
theorem dX11_split_26 : decode cX11_split 26 = .ok (.iconst 1, 1) := by decide +kernel
theorem dX11_split_27 : decode cX11_split 27 = .ok (.invokevirtual 124, 3) := by decide +kernel
theorem dX11_split_30 : decode cX11_split 30 = .ok (.ireturn, 1) := by decide +kernel
theorem dX11_split_31 : decode cX11_split 31 = .ok (.aload_n 0, 1) := by decide +kernel
theorem dX11_split_32 : decode cX11_split 32 = .ok (.getfield 36, 3) := by decide +kernel
theorem dX11_split_35 : decode cX11_split 35 = .ok (.iload_n 1, 1) := by decide +kernel
theorem dX11_split_36 : decode cX11_split 36 = .ok (.iload_n 2, 1) := by decide +kernel
theorem dX11_split_37 : decode cX11_split 37 = .ok (.invokevirtual 286, 3) := by decide +kernel
theorem dX11_split_40 : decode cX11_split 40 = .ok (.istore_n 3, 1) := by decide +kernel
theorem dX11_split_41 : decode cX11_split 41 = .ok (.iload_n 3, 1) := by decide +kernel
theorem dX11_split_42 : decode cX11_split 42 = .ok (.ifCond .eq 9, 3) := by decide +kernel
theorem dX11_split_45 : decode cX11_split 45 = .ok (.aload_n 0, 1) := by decide +kernel
theorem dX11_split_46 : decode cX11_split 46 = .ok (.iload_n 3, 1) := by decide +kernel
theorem dX11_split_47 : decode cX11_split 47 = .ok (.invokevirtual 124, 3) := by decide +kernel
theorem dX11_split_50 : decode cX11_split 50 = .ok (.ireturn, 1) := by decide +kernel
theorem dX11_split_51 : decode cX11_split 51 = .ok (.aload_n 0, 1) := by decide +kernel
theorem dX11_split_52 : decode cX11_split 52 = .ok (.getfield 36, 3) := by decide +kernel
theorem dX11_split_55 : decode cX11_split 55 = .ok (.iload_n 1, 1) := by decide +kernel
theorem dX11_split_56 : decode cX11_split 56 = .ok (.iload_n 2, 1) := by decide +kernel
theorem dX11_split_57 : decode cX11_split 57 = .ok (.invokevirtual 289, 3) := by decide +kernel
theorem dX11_split_60 : decode cX11_split 60 = .ok (.aload_n 0, 1) := by decide +kernel
theorem dX11_split_61 : decode cX11_split 61 = .ok (.aload_n 0, 1) := by decide +kernel
theorem dX11_split_62 : decode cX11_split 62 = .ok (.getfield 36, 3) := by decide +kernel
theorem dX11_split_65 : decode cX11_split 65 = .ok (.getfield 182, 3) := by decide +kernel
theorem dX11_split_68 : decode cX11_split 68 = .ok (.invokevirtual 185, 3) := by decide +kernel
theorem dX11_split_71 : decode cX11_split 71 = .ok (.ireturn, 1) := by decide +kernel
noncomputable def RC_split (σ : St) (p1 : Int32) (p2 : Int32) : Option (Int32 × St) :=
  bd (Cl_isThere σ 7 p1) (fun r2 => if r2 = 0 then (bd2 (RC_refuse σ 1) (fun r4 σ5 => some (r4, σ5))) else (bd (RC_within p2.toInt64 2 7) (fun r7 => if r7 = 0 then (bd2 (RC_refuse σ 1) (fun r20 σ21 => some (r20, σ21))) else (bd (Cl_partTrouble σ 7 p1 p2) (fun r9 => if r9 = 0 then (bd (Cl_part σ 7 p1 p2) (fun σ11 => bd2 (RC_answer σ11 (σ11.1 7 3)) (fun r13 σ14 => some (r13, σ14)))) else (bd2 (RC_refuse σ r9) (fun r16 σ17 => some (r16, σ17))))))))
set_option maxRecDepth 100000 in
set_option maxHeartbeats 4000000 in
theorem tm_RC_split {V : Ev} {Γ : Cn} {fin : Option Value × St} {σ : St} {p1 : Int32} {p2 : Int32} {o : (Int32 × St)} (X : Cx V Γ M_X11_split) {A : (Int32 × St) → Prop}  (hr : ∀ (r : Int32) (σ9 : St), A (r, σ9) → (some (.int r), σ9) = fin) (h : RC_split σ p1 p2 = some o) (hA : A o) : Go V Γ M_X11_split (Zm V Γ 3 fin) 0 [(0, .ref (V.2.2.1 + 0)), (1, .int p1), (2, .int p2)] [] σ := by
  unfold RC_split at h
  refine g_aload_n (pc := 0) X 0 rfl dX11_split_0 ?_
  refine g_getR (r := 7) (pc := 1) X k_fl_X11_36 s_0 rfl dX11_split_1 ?_
  refine g_iload_n (pc := 4) X 1 rfl dX11_split_4 ?_
  obtain ⟨r2, hc1, h⟩ := bd_e h
  refine g_callV (pc := 5) X k_ml_X11_235 (run_Cl_isThere (oknCl_7) hc1) s_7 rfl (room_ok (Nat.le_of_ble_eq_true rfl) (Nat.le_of_ble_eq_true rfl)) ⟨Nat.le_refl _, Nat.le_refl _⟩ _ rfl (Nat.le_of_ble_eq_true rfl) dX11_split_5 ?_
  show Go V Γ M_X11_split (Zm V Γ 3 fin) 8 [(0, .ref (V.2.2.1 + 0)), (1, .int p1), (2, .int p2)] [.int r2] σ
  refine g_if_eq (pc := 8) (tgt := 25) X dX11_split_8 rfl (fun c23 => ?_) (fun c23 => ?_)
  · replace h := if_t c23 h
    refine g_aload_n (pc := 25) X 0 rfl dX11_split_25 ?_
    refine g_iconst (v := 1) (pc := 26) X rfl dX11_split_26 ?_
    obtain ⟨r4, σ5, hc3, h⟩ := bd2_e h
    refine g_callV (pc := 27) X k_ml_X11_124 (run_RC_refuse  hc3) s_0 rfl (room_ok (Nat.le_of_ble_eq_true rfl) (Nat.le_of_ble_eq_true rfl)) ⟨Nat.le_refl _, Nat.le_refl _⟩ _ rfl (Nat.le_of_ble_eq_true rfl) dX11_split_27 ?_
    show Go V Γ M_X11_split (Zm V Γ 3 fin) 30 [(0, .ref (V.2.2.1 + 0)), (1, .int p1), (2, .int p2)] [.int r4] σ5
    cases h
    exact g_iret (pc := 30) X rfl rfl (hr _ _ hA) dX11_split_30
  · replace h := if_f c23 h
    refine g_iload_n (pc := 11) X 2 rfl dX11_split_11 ?_
    refine g_i2l (pc := 12) X dX11_split_12 ?_
    refine g_ldc2 (v := 2) (pc := 13) X k_constl_X11_276 dX11_split_13 ?_
    refine g_ldc2 (v := 7) (pc := 16) X k_constl_X11_284 dX11_split_16 ?_
    obtain ⟨r7, hc6, h⟩ := bd_e h
    refine g_callS (pc := 19) X k_ml_X11_98 (run_RC_within  hc6) rfl (room_ok (Nat.le_of_ble_eq_true rfl) (Nat.le_of_ble_eq_true rfl)) ⟨Nat.le_refl _, Nat.le_refl _⟩ _ rfl (Nat.le_of_ble_eq_true rfl) dX11_split_19 ?_
    show Go V Γ M_X11_split (Zm V Γ 3 fin) 22 [(0, .ref (V.2.2.1 + 0)), (1, .int p1), (2, .int p2)] [.int r7] σ
    refine g_if_ne (pc := 22) (tgt := 31) X dX11_split_22 rfl (fun c22 => ?_) (fun c22 => ?_)
    · replace h := if_f c22 h
      refine g_aload_n (pc := 31) X 0 rfl dX11_split_31 ?_
      refine g_getR (r := 7) (pc := 32) X k_fl_X11_36 s_0 rfl dX11_split_32 ?_
      refine g_iload_n (pc := 35) X 1 rfl dX11_split_35 ?_
      refine g_iload_n (pc := 36) X 2 rfl dX11_split_36 ?_
      obtain ⟨r9, hc8, h⟩ := bd_e h
      refine g_callV (pc := 37) X k_ml_X11_286 (run_Cl_partTrouble (oknCl_7) hc8) s_7 rfl (room_ok (Nat.le_of_ble_eq_true rfl) (Nat.le_of_ble_eq_true rfl)) ⟨Nat.le_refl _, Nat.le_refl _⟩ _ rfl (Nat.le_of_ble_eq_true rfl) dX11_split_37 ?_
      show Go V Γ M_X11_split (Zm V Γ 3 fin) 40 [(0, .ref (V.2.2.1 + 0)), (1, .int p1), (2, .int p2)] [.int r9] σ
      refine g_istore_n (pc := 40) X [(3, .int r9), (0, .ref (V.2.2.1 + 0)), (1, .int p1), (2, .int p2)] rfl (Nat.le_of_ble_eq_true rfl) rfl dX11_split_40 ?_
      refine g_iload_n (pc := 41) X 0 rfl dX11_split_41 ?_
      refine g_if_eq (pc := 42) (tgt := 51) X dX11_split_42 rfl (fun c18 => ?_) (fun c18 => ?_)
      · replace h := if_t c18 h
        refine g_aload_n (pc := 51) X 1 rfl dX11_split_51 ?_
        refine g_getR (r := 7) (pc := 52) X k_fl_X11_36 s_0 rfl dX11_split_52 ?_
        refine g_iload_n (pc := 55) X 2 rfl dX11_split_55 ?_
        refine g_iload_n (pc := 56) X 3 rfl dX11_split_56 ?_
        obtain ⟨σ11, hc10, h⟩ := bd_e h
        refine g_callV (pc := 57) X k_ml_X11_289 (run_Cl_part (oknCl_7) hc10) s_7 rfl (room_ok (Nat.le_of_ble_eq_true rfl) (Nat.le_of_ble_eq_true rfl)) ⟨Nat.le_refl _, Nat.le_refl _⟩ _ rfl (Nat.le_of_ble_eq_true rfl) dX11_split_57 ?_
        show Go V Γ M_X11_split (Zm V Γ 3 fin) 60 [(3, .int r9), (0, .ref (V.2.2.1 + 0)), (1, .int p1), (2, .int p2)] [] σ11
        refine g_aload_n (pc := 60) X 1 rfl dX11_split_60 ?_
        refine g_aload_n (pc := 61) X 1 rfl dX11_split_61 ?_
        refine g_getR (r := 7) (pc := 62) X k_fl_X11_36 s_0 rfl dX11_split_62 ?_
        refine g_getI (pc := 65) X k_fl_X11_182 s_7 rfl dX11_split_65 ?_
        obtain ⟨r13, σ14, hc12, h⟩ := bd2_e h
        refine g_callV (pc := 68) X k_ml_X11_185 (run_RC_answer  hc12) s_0 rfl (room_ok (Nat.le_of_ble_eq_true rfl) (Nat.le_of_ble_eq_true rfl)) ⟨Nat.le_refl _, Nat.le_refl _⟩ _ rfl (Nat.le_of_ble_eq_true rfl) dX11_split_68 ?_
        show Go V Γ M_X11_split (Zm V Γ 3 fin) 71 [(3, .int r9), (0, .ref (V.2.2.1 + 0)), (1, .int p1), (2, .int p2)] [.int r13] σ14
        cases h
        exact g_iret (pc := 71) X rfl rfl (hr _ _ hA) dX11_split_71
      · replace h := if_f c18 h
        refine g_aload_n (pc := 45) X 1 rfl dX11_split_45 ?_
        refine g_iload_n (pc := 46) X 0 rfl dX11_split_46 ?_
        obtain ⟨r16, σ17, hc15, h⟩ := bd2_e h
        refine g_callV (pc := 47) X k_ml_X11_124 (run_RC_refuse  hc15) s_0 rfl (room_ok (Nat.le_of_ble_eq_true rfl) (Nat.le_of_ble_eq_true rfl)) ⟨Nat.le_refl _, Nat.le_refl _⟩ _ rfl (Nat.le_of_ble_eq_true rfl) dX11_split_47 ?_
        show Go V Γ M_X11_split (Zm V Γ 3 fin) 50 [(3, .int r9), (0, .ref (V.2.2.1 + 0)), (1, .int p1), (2, .int p2)] [.int r16] σ17
        cases h
        exact g_iret (pc := 50) X rfl rfl (hr _ _ hA) dX11_split_50
    · replace h := if_t c22 h
      refine g_aload_n (pc := 25) X 0 rfl dX11_split_25 ?_
      refine g_iconst (v := 1) (pc := 26) X rfl dX11_split_26 ?_
      obtain ⟨r20, σ21, hc19, h⟩ := bd2_e h
      refine g_callV (pc := 27) X k_ml_X11_124 (run_RC_refuse  hc19) s_0 rfl (room_ok (Nat.le_of_ble_eq_true rfl) (Nat.le_of_ble_eq_true rfl)) ⟨Nat.le_refl _, Nat.le_refl _⟩ _ rfl (Nat.le_of_ble_eq_true rfl) dX11_split_27 ?_
      show Go V Γ M_X11_split (Zm V Γ 3 fin) 30 [(0, .ref (V.2.2.1 + 0)), (1, .int p1), (2, .int p2)] [.int r20] σ21
      cases h
      exact g_iret (pc := 30) X rfl rfl (hr _ _ hA) dX11_split_30
set_option maxRecDepth 100000 in
theorem run_RC_split {V : Ev} {σ : St} {p1 : Int32} {p2 : Int32} {o : (Int32 × St)}   (h : RC_split σ p1 p2 = some o) : Rs V 3 M_X11_split [.ref (V.2.2.1 + 0), .int p1, .int p2] σ (some (.int o.1), o.2) := by
  refine Rs.of (by decide +kernel) (Nat.le_of_ble_eq_true rfl) (fun Γ X => ?_)
  exact tm_RC_split X (A := fun o1 => o1 = o)  (fun _ _ e => by rw [← e]) h rfl
theorem dX11_join_0 : decode cX11_join 0 = .ok (.aload_n 0, 1) := by decide +kernel
theorem dX11_join_1 : decode cX11_join 1 = .ok (.getfield 36, 3) := by decide +kernel
theorem dX11_join_4 : decode cX11_join 4 = .ok (.iload_n 1, 1) := by decide +kernel
theorem dX11_join_5 : decode cX11_join 5 = .ok (.invokevirtual 235, 3) := by decide +kernel
theorem dX11_join_8 : decode cX11_join 8 = .ok (.ifCond .eq 17, 3) := by decide +kernel
theorem dX11_join_11 : decode cX11_join 11 = .ok (.iload_n 2, 1) := by decide +kernel
theorem dX11_join_12 : decode cX11_join 12 = .ok (.i2l, 1) := by decide +kernel
theorem dX11_join_13 : decode cX11_join 13 = .ok (.ldc2_w 276, 3) := by decide +kernel
theorem dX11_join_16 : decode cX11_join 16 = .ok (.ldc2_w 284, 3) := by decide +kernel
theorem dX11_join_19 : decode cX11_join 19 = .ok (.invokestatic 98, 3) := by decide +kernel
theorem dX11_join_22 : decode cX11_join 22 = .ok (.ifCond .ne 9, 3) := by decide +kernel
theorem dX11_join_25 : decode cX11_join 25 = .ok (.aload_n 0, 1) := by decide +kernel
theorem dX11_join_26 : decode cX11_join 26 = .ok (.iconst 1, 1) := by decide +kernel
theorem dX11_join_27 : decode cX11_join 27 = .ok (.invokevirtual 124, 3) := by decide +kernel
theorem dX11_join_30 : decode cX11_join 30 = .ok (.ireturn, 1) := by decide +kernel
theorem dX11_join_31 : decode cX11_join 31 = .ok (.aload_n 0, 1) := by decide +kernel
theorem dX11_join_32 : decode cX11_join 32 = .ok (.getfield 36, 3) := by decide +kernel
theorem dX11_join_35 : decode cX11_join 35 = .ok (.getfield 242, 3) := by decide +kernel
theorem dX11_join_38 : decode cX11_join 38 = .ok (.iload_n 1, 1) := by decide +kernel
theorem dX11_join_39 : decode cX11_join 39 = .ok (.iaload, 1) := by decide +kernel
theorem dX11_join_40 : decode cX11_join 40 = .ok (.iload_n 2, 1) := by decide +kernel
theorem dX11_join_41 : decode cX11_join 41 = .ok (.invokestatic 270, 3) := by decide +kernel
theorem dX11_join_44 : decode cX11_join 44 = .ok (.ifCond .eq 10, 3) := by decide +kernel
theorem dX11_join_47 : decode cX11_join 47 = .ok (.aload_n 0, 1) := by decide +kernel
theorem dX11_join_48 : decode cX11_join 48 = .ok (.bipush 7, 2) := by decide +kernel
theorem dX11_join_50 : decode cX11_join 50 = .ok (.invokevirtual 124, 3) := by decide +kernel
theorem dX11_join_53 : decode cX11_join 53 = .ok (.ireturn, 1) := by decide +kernel
theorem dX11_join_54 : decode cX11_join 54 = .ok (.aload_n 0, 1) := by decide +kernel
theorem dX11_join_55 : decode cX11_join 55 = .ok (.getfield 36, 3) := by decide +kernel
theorem dX11_join_58 : decode cX11_join 58 = .ok (.iload_n 1, 1) := by decide +kernel
theorem dX11_join_59 : decode cX11_join 59 = .ok (.iload_n 2, 1) := by decide +kernel
theorem dX11_join_60 : decode cX11_join 60 = .ok (.invokevirtual 292, 3) := by decide +kernel
theorem dX11_join_63 : decode cX11_join 63 = .ok (.istore_n 3, 1) := by decide +kernel
theorem dX11_join_64 : decode cX11_join 64 = .ok (.iload_n 3, 1) := by decide +kernel
theorem dX11_join_65 : decode cX11_join 65 = .ok (.ifCond .ne 10, 3) := by decide +kernel
theorem dX11_join_68 : decode cX11_join 68 = .ok (.aload_n 0, 1) := by decide +kernel
theorem dX11_join_69 : decode cX11_join 69 = .ok (.bipush 6, 2) := by decide +kernel
theorem dX11_join_71 : decode cX11_join 71 = .ok (.invokevirtual 124, 3) := by decide +kernel
theorem dX11_join_74 : decode cX11_join 74 = .ok (.ireturn, 1) := by decide +kernel
theorem dX11_join_75 : decode cX11_join 75 = .ok (.aload_n 0, 1) := by decide +kernel
theorem dX11_join_76 : decode cX11_join 76 = .ok (.getfield 36, 3) := by decide +kernel
theorem dX11_join_79 : decode cX11_join 79 = .ok (.iload_n 1, 1) := by decide +kernel
theorem dX11_join_80 : decode cX11_join 80 = .ok (.iload_n 2, 1) := by decide +kernel
theorem dX11_join_81 : decode cX11_join 81 = .ok (.iload_n 3, 1) := by decide +kernel
theorem dX11_join_82 : decode cX11_join 82 = .ok (.invokevirtual 295, 3) := by decide +kernel
theorem dX11_join_85 : decode cX11_join 85 = .ok (.aload_n 0, 1) := by decide +kernel
theorem dX11_join_86 : decode cX11_join 86 = .ok (.aload_n 0, 1) := by decide +kernel
theorem dX11_join_87 : decode cX11_join 87 = .ok (.getfield 36, 3) := by decide +kernel
theorem dX11_join_90 : decode cX11_join 90 = .ok (.getfield 182, 3) := by decide +kernel
theorem dX11_join_93 : decode cX11_join 93 = .ok (.invokevirtual 185, 3) := by decide +kernel
theorem dX11_join_96 : decode cX11_join 96 = .ok (.ireturn, 1) := by decide +kernel
noncomputable def RC_join (σ : St) (p1 : Int32) (p2 : Int32) : Option (Int32 × St) :=
  bd (Cl_isThere σ 7 p1) (fun r2 => if r2 = 0 then (bd2 (RC_refuse σ 1) (fun r4 σ5 => some (r4, σ5))) else (bd (RC_within p2.toInt64 2 7) (fun r7 => if r7 = 0 then (bd2 (RC_refuse σ 1) (fun r27 σ28 => some (r27, σ28))) else (chk (ix p1 12) (bd (RC_leftBy (σ.1 9 (tn p1)) p2) (fun r10 => if r10 = 0 then (bd (Cl_partsWith σ 7 p1 p2) (fun r12 => if r12 = 0 then (bd2 (RC_refuse σ 6) (fun r19 σ20 => some (r19, σ20))) else (bd (Cl_merge σ 7 p1 p2 r12) (fun σ14 => bd2 (RC_answer σ14 (σ14.1 7 3)) (fun r16 σ17 => some (r16, σ17)))))) else (bd2 (RC_refuse σ 7) (fun r23 σ24 => some (r23, σ24)))))))))
set_option maxRecDepth 100000 in
set_option maxHeartbeats 4000000 in
theorem tm_RC_join {V : Ev} {Γ : Cn} {fin : Option Value × St} {σ : St} {p1 : Int32} {p2 : Int32} {o : (Int32 × St)} (X : Cx V Γ M_X11_join) {A : (Int32 × St) → Prop}  (hr : ∀ (r : Int32) (σ9 : St), A (r, σ9) → (some (.int r), σ9) = fin) (h : RC_join σ p1 p2 = some o) (hA : A o) : Go V Γ M_X11_join (Zm V Γ 4 fin) 0 [(0, .ref (V.2.2.1 + 0)), (1, .int p1), (2, .int p2)] [] σ := by
  unfold RC_join at h
  refine g_aload_n (pc := 0) X 0 rfl dX11_join_0 ?_
  refine g_getR (r := 7) (pc := 1) X k_fl_X11_36 s_0 rfl dX11_join_1 ?_
  refine g_iload_n (pc := 4) X 1 rfl dX11_join_4 ?_
  obtain ⟨r2, hc1, h⟩ := bd_e h
  refine g_callV (pc := 5) X k_ml_X11_235 (run_Cl_isThere (oknCl_7) hc1) s_7 rfl (room_ok (Nat.le_of_ble_eq_true rfl) (Nat.le_of_ble_eq_true rfl)) ⟨Nat.le_refl _, Nat.le_refl _⟩ _ rfl (Nat.le_of_ble_eq_true rfl) dX11_join_5 ?_
  show Go V Γ M_X11_join (Zm V Γ 4 fin) 8 [(0, .ref (V.2.2.1 + 0)), (1, .int p1), (2, .int p2)] [.int r2] σ
  refine g_if_eq (pc := 8) (tgt := 25) X dX11_join_8 rfl (fun c30 => ?_) (fun c30 => ?_)
  · replace h := if_t c30 h
    refine g_aload_n (pc := 25) X 0 rfl dX11_join_25 ?_
    refine g_iconst (v := 1) (pc := 26) X rfl dX11_join_26 ?_
    obtain ⟨r4, σ5, hc3, h⟩ := bd2_e h
    refine g_callV (pc := 27) X k_ml_X11_124 (run_RC_refuse  hc3) s_0 rfl (room_ok (Nat.le_of_ble_eq_true rfl) (Nat.le_of_ble_eq_true rfl)) ⟨Nat.le_refl _, Nat.le_refl _⟩ _ rfl (Nat.le_of_ble_eq_true rfl) dX11_join_27 ?_
    show Go V Γ M_X11_join (Zm V Γ 4 fin) 30 [(0, .ref (V.2.2.1 + 0)), (1, .int p1), (2, .int p2)] [.int r4] σ5
    cases h
    exact g_iret (pc := 30) X rfl rfl (hr _ _ hA) dX11_join_30
  · replace h := if_f c30 h
    refine g_iload_n (pc := 11) X 2 rfl dX11_join_11 ?_
    refine g_i2l (pc := 12) X dX11_join_12 ?_
    refine g_ldc2 (v := 2) (pc := 13) X k_constl_X11_276 dX11_join_13 ?_
    refine g_ldc2 (v := 7) (pc := 16) X k_constl_X11_284 dX11_join_16 ?_
    obtain ⟨r7, hc6, h⟩ := bd_e h
    refine g_callS (pc := 19) X k_ml_X11_98 (run_RC_within  hc6) rfl (room_ok (Nat.le_of_ble_eq_true rfl) (Nat.le_of_ble_eq_true rfl)) ⟨Nat.le_refl _, Nat.le_refl _⟩ _ rfl (Nat.le_of_ble_eq_true rfl) dX11_join_19 ?_
    show Go V Γ M_X11_join (Zm V Γ 4 fin) 22 [(0, .ref (V.2.2.1 + 0)), (1, .int p1), (2, .int p2)] [.int r7] σ
    refine g_if_ne (pc := 22) (tgt := 31) X dX11_join_22 rfl (fun c29 => ?_) (fun c29 => ?_)
    · replace h := if_f c29 h
      refine g_aload_n (pc := 31) X 0 rfl dX11_join_31 ?_
      refine g_getR (r := 7) (pc := 32) X k_fl_X11_36 s_0 rfl dX11_join_32 ?_
      refine g_getR (r := 9) (pc := 35) X k_fl_X11_242 s_7 rfl dX11_join_35 ?_
      refine g_iload_n (pc := 38) X 1 rfl dX11_join_38 ?_
      obtain ⟨c8, h⟩ := chk_e h
      refine g_iald (pc := 39) X s_9 c8 dX11_join_39 ?_
      refine g_iload_n (pc := 40) X 2 rfl dX11_join_40 ?_
      obtain ⟨r10, hc9, h⟩ := bd_e h
      refine g_callS (pc := 41) X k_ml_X11_270 (run_RC_leftBy  hc9) rfl (room_ok (Nat.le_of_ble_eq_true rfl) (Nat.le_of_ble_eq_true rfl)) ⟨Nat.le_refl _, Nat.le_refl _⟩ _ rfl (Nat.le_of_ble_eq_true rfl) dX11_join_41 ?_
      show Go V Γ M_X11_join (Zm V Γ 4 fin) 44 [(0, .ref (V.2.2.1 + 0)), (1, .int p1), (2, .int p2)] [.int r10] σ
      refine g_if_eq (pc := 44) (tgt := 54) X dX11_join_44 rfl (fun c25 => ?_) (fun c25 => ?_)
      · replace h := if_t c25 h
        refine g_aload_n (pc := 54) X 0 rfl dX11_join_54 ?_
        refine g_getR (r := 7) (pc := 55) X k_fl_X11_36 s_0 rfl dX11_join_55 ?_
        refine g_iload_n (pc := 58) X 1 rfl dX11_join_58 ?_
        refine g_iload_n (pc := 59) X 2 rfl dX11_join_59 ?_
        obtain ⟨r12, hc11, h⟩ := bd_e h
        refine g_callV (pc := 60) X k_ml_X11_292 (run_Cl_partsWith (oknCl_7) hc11) s_7 rfl (room_ok (Nat.le_of_ble_eq_true rfl) (Nat.le_of_ble_eq_true rfl)) ⟨Nat.le_refl _, Nat.le_refl _⟩ _ rfl (Nat.le_of_ble_eq_true rfl) dX11_join_60 ?_
        show Go V Γ M_X11_join (Zm V Γ 4 fin) 63 [(0, .ref (V.2.2.1 + 0)), (1, .int p1), (2, .int p2)] [.int r12] σ
        refine g_istore_n (pc := 63) X [(3, .int r12), (0, .ref (V.2.2.1 + 0)), (1, .int p1), (2, .int p2)] rfl (Nat.le_of_ble_eq_true rfl) rfl dX11_join_63 ?_
        refine g_iload_n (pc := 64) X 0 rfl dX11_join_64 ?_
        refine g_if_ne (pc := 65) (tgt := 75) X dX11_join_65 rfl (fun c21 => ?_) (fun c21 => ?_)
        · replace h := if_f c21 h
          refine g_aload_n (pc := 75) X 1 rfl dX11_join_75 ?_
          refine g_getR (r := 7) (pc := 76) X k_fl_X11_36 s_0 rfl dX11_join_76 ?_
          refine g_iload_n (pc := 79) X 2 rfl dX11_join_79 ?_
          refine g_iload_n (pc := 80) X 3 rfl dX11_join_80 ?_
          refine g_iload_n (pc := 81) X 0 rfl dX11_join_81 ?_
          obtain ⟨σ14, hc13, h⟩ := bd_e h
          refine g_callV (pc := 82) X k_ml_X11_295 (run_Cl_merge (oknCl_7) hc13) s_7 rfl (room_ok (Nat.le_of_ble_eq_true rfl) (Nat.le_of_ble_eq_true rfl)) ⟨Nat.le_refl _, Nat.le_refl _⟩ _ rfl (Nat.le_of_ble_eq_true rfl) dX11_join_82 ?_
          show Go V Γ M_X11_join (Zm V Γ 4 fin) 85 [(3, .int r12), (0, .ref (V.2.2.1 + 0)), (1, .int p1), (2, .int p2)] [] σ14
          refine g_aload_n (pc := 85) X 1 rfl dX11_join_85 ?_
          refine g_aload_n (pc := 86) X 1 rfl dX11_join_86 ?_
          refine g_getR (r := 7) (pc := 87) X k_fl_X11_36 s_0 rfl dX11_join_87 ?_
          refine g_getI (pc := 90) X k_fl_X11_182 s_7 rfl dX11_join_90 ?_
          obtain ⟨r16, σ17, hc15, h⟩ := bd2_e h
          refine g_callV (pc := 93) X k_ml_X11_185 (run_RC_answer  hc15) s_0 rfl (room_ok (Nat.le_of_ble_eq_true rfl) (Nat.le_of_ble_eq_true rfl)) ⟨Nat.le_refl _, Nat.le_refl _⟩ _ rfl (Nat.le_of_ble_eq_true rfl) dX11_join_93 ?_
          show Go V Γ M_X11_join (Zm V Γ 4 fin) 96 [(3, .int r12), (0, .ref (V.2.2.1 + 0)), (1, .int p1), (2, .int p2)] [.int r16] σ17
          cases h
          exact g_iret (pc := 96) X rfl rfl (hr _ _ hA) dX11_join_96
        · replace h := if_t c21 h
          refine g_aload_n (pc := 68) X 1 rfl dX11_join_68 ?_
          refine g_bipush (v := 6) (pc := 69) X (by decide) dX11_join_69 ?_
          obtain ⟨r19, σ20, hc18, h⟩ := bd2_e h
          refine g_callV (pc := 71) X k_ml_X11_124 (run_RC_refuse  hc18) s_0 rfl (room_ok (Nat.le_of_ble_eq_true rfl) (Nat.le_of_ble_eq_true rfl)) ⟨Nat.le_refl _, Nat.le_refl _⟩ _ rfl (Nat.le_of_ble_eq_true rfl) dX11_join_71 ?_
          show Go V Γ M_X11_join (Zm V Γ 4 fin) 74 [(3, .int r12), (0, .ref (V.2.2.1 + 0)), (1, .int p1), (2, .int p2)] [.int r19] σ20
          cases h
          exact g_iret (pc := 74) X rfl rfl (hr _ _ hA) dX11_join_74
      · replace h := if_f c25 h
        refine g_aload_n (pc := 47) X 0 rfl dX11_join_47 ?_
        refine g_bipush (v := 7) (pc := 48) X (by decide) dX11_join_48 ?_
        obtain ⟨r23, σ24, hc22, h⟩ := bd2_e h
        refine g_callV (pc := 50) X k_ml_X11_124 (run_RC_refuse  hc22) s_0 rfl (room_ok (Nat.le_of_ble_eq_true rfl) (Nat.le_of_ble_eq_true rfl)) ⟨Nat.le_refl _, Nat.le_refl _⟩ _ rfl (Nat.le_of_ble_eq_true rfl) dX11_join_50 ?_
        show Go V Γ M_X11_join (Zm V Γ 4 fin) 53 [(0, .ref (V.2.2.1 + 0)), (1, .int p1), (2, .int p2)] [.int r23] σ24
        cases h
        exact g_iret (pc := 53) X rfl rfl (hr _ _ hA) dX11_join_53
    · replace h := if_t c29 h
      refine g_aload_n (pc := 25) X 0 rfl dX11_join_25 ?_
      refine g_iconst (v := 1) (pc := 26) X rfl dX11_join_26 ?_
      obtain ⟨r27, σ28, hc26, h⟩ := bd2_e h
      refine g_callV (pc := 27) X k_ml_X11_124 (run_RC_refuse  hc26) s_0 rfl (room_ok (Nat.le_of_ble_eq_true rfl) (Nat.le_of_ble_eq_true rfl)) ⟨Nat.le_refl _, Nat.le_refl _⟩ _ rfl (Nat.le_of_ble_eq_true rfl) dX11_join_27 ?_
      show Go V Γ M_X11_join (Zm V Γ 4 fin) 30 [(0, .ref (V.2.2.1 + 0)), (1, .int p1), (2, .int p2)] [.int r27] σ28
      cases h
      exact g_iret (pc := 30) X rfl rfl (hr _ _ hA) dX11_join_30
set_option maxRecDepth 100000 in
theorem run_RC_join {V : Ev} {σ : St} {p1 : Int32} {p2 : Int32} {o : (Int32 × St)}   (h : RC_join σ p1 p2 = some o) : Rs V 4 M_X11_join [.ref (V.2.2.1 + 0), .int p1, .int p2] σ (some (.int o.1), o.2) := by
  refine Rs.of (by decide +kernel) (Nat.le_of_ble_eq_true rfl) (fun Γ X => ?_)
  exact tm_RC_join X (A := fun o1 => o1 = o)  (fun _ _ e => by rw [← e]) h rfl
theorem dX11_rule_0 : decode cX11_rule 0 = .ok (.iload_n 1, 1) := by decide +kernel
theorem dX11_rule_1 : decode cX11_rule 1 = .ok (.i2l, 1) := by decide +kernel
theorem dX11_rule_2 : decode cX11_rule 2 = .ok (.lconst 0, 1) := by decide +kernel
theorem dX11_rule_3 : decode cX11_rule 3 = .ok (.ldc2_w 299, 3) := by decide +kernel
theorem dX11_rule_6 : decode cX11_rule 6 = .ok (.invokestatic 98, 3) := by decide +kernel
theorem dX11_rule_9 : decode cX11_rule 9 = .ok (.ifCond .ne 9, 3) := by decide +kernel
theorem dX11_rule_12 : decode cX11_rule 12 = .ok (.aload_n 0, 1) := by decide +kernel
theorem dX11_rule_13 : decode cX11_rule 13 = .ok (.iconst 1, 1) := by decide +kernel
theorem dX11_rule_14 : decode cX11_rule 14 = .ok (.invokevirtual 104, 3) := by decide +kernel
theorem dX11_rule_17 : decode cX11_rule 17 = .ok (.ireturn, 1) := by decide +kernel
theorem dX11_rule_18 : decode cX11_rule 18 = .ok (.aload_n 0, 1) := by decide +kernel
theorem dX11_rule_19 : decode cX11_rule 19 = .ok (.getfield 36, 3) := by decide +kernel
theorem dX11_rule_22 : decode cX11_rule 22 = .ok (.iload_n 1, 1) := by decide +kernel
theorem dX11_rule_23 : decode cX11_rule 23 = .ok (.putfield 210, 3) := by decide +kernel
theorem dX11_rule_26 : decode cX11_rule 26 = .ok (.aload_n 0, 1) := by decide +kernel
theorem dX11_rule_27 : decode cX11_rule 27 = .ok (.invokevirtual 112, 3) := by decide +kernel
theorem dX11_rule_30 : decode cX11_rule 30 = .ok (.ireturn, 1) := by decide +kernel
noncomputable def RC_rule (σ : St) (p1 : Int32) : Option (Int32 × St) :=
  bd (RC_within p1.toInt64 0 16) (fun r2 => if r2 = 0 then (bd2 (RC_deny σ 1) (fun r9 σ10 => chk (ckz r9) (some (r9, σ10)))) else (bnd (wI σ 7 5 p1) (fun σ3 => bd2 (RC_agree σ3) (fun r5 σ6 => chk (ckz r5) (some (r5, σ6))))))
set_option maxRecDepth 100000 in
set_option maxHeartbeats 4000000 in
theorem tm_RC_rule {V : Ev} {Γ : Cn} {fin : Option Value × St} {σ : St} {p1 : Int32} {o : (Int32 × St)} (X : Cx V Γ M_X11_rule) {A : (Int32 × St) → Prop}  (hr : ∀ (r : Int32) (σ9 : St), A (r, σ9) → (some (.int r), σ9) = fin) (h : RC_rule σ p1 = some o) (hA : A o) : Go V Γ M_X11_rule (Zm V Γ 1 fin) 0 [(0, .ref (V.2.2.1 + 0)), (1, .int p1)] [] σ := by
  unfold RC_rule at h
  refine g_iload_n (pc := 0) X 1 rfl dX11_rule_0 ?_
  refine g_i2l (pc := 1) X dX11_rule_1 ?_
  refine g_lconst (v := 0) (pc := 2) X rfl dX11_rule_2 ?_
  refine g_ldc2 (v := 16) (pc := 3) X k_constl_X11_299 dX11_rule_3 ?_
  obtain ⟨r2, hc1, h⟩ := bd_e h
  refine g_callS (pc := 6) X k_ml_X11_98 (run_RC_within  hc1) rfl (room_ok (Nat.le_of_ble_eq_true rfl) (Nat.le_of_ble_eq_true rfl)) ⟨Nat.le_refl _, Nat.le_refl _⟩ _ rfl (Nat.le_of_ble_eq_true rfl) dX11_rule_6 ?_
  show Go V Γ M_X11_rule (Zm V Γ 1 fin) 9 [(0, .ref (V.2.2.1 + 0)), (1, .int p1)] [.int r2] σ
  refine g_if_ne (pc := 9) (tgt := 18) X dX11_rule_9 rfl (fun c12 => ?_) (fun c12 => ?_)
  · replace h := if_f c12 h
    refine g_aload_n (pc := 18) X 0 rfl dX11_rule_18 ?_
    refine g_getR (r := 7) (pc := 19) X k_fl_X11_36 s_0 rfl dX11_rule_19 ?_
    refine g_iload_n (pc := 22) X 1 rfl dX11_rule_22 ?_
    refine g_putI (pc := 23) X k_fl_X11_210 s_7 rfl rfl rfl dX11_rule_23 ?_
    obtain ⟨σ3, e_σ3, h⟩ := bnd_e h
    refine g_nmS e_σ3 ?_
    refine g_aload_n (pc := 26) X 0 rfl dX11_rule_26 ?_
    obtain ⟨r5, σ6, hc4, h⟩ := bd2_e h
    refine g_callV (pc := 27) X k_ml_X11_112 (run_RC_agree  hc4) s_0 rfl (room_ok (Nat.le_of_ble_eq_true rfl) (Nat.le_of_ble_eq_true rfl)) ⟨Nat.le_refl _, Nat.le_refl _⟩ _ rfl (Nat.le_of_ble_eq_true rfl) dX11_rule_27 ?_
    show Go V Γ M_X11_rule (Zm V Γ 1 fin) 30 [(0, .ref (V.2.2.1 + 0)), (1, .int p1)] [.int r5] σ6
    obtain ⟨c7, h⟩ := chk_e h
    cases h
    exact g_iret (pc := 30) X rfl (ckz_e c7).1 (hr _ _ hA) dX11_rule_30
  · replace h := if_t c12 h
    refine g_aload_n (pc := 12) X 0 rfl dX11_rule_12 ?_
    refine g_iconst (v := 1) (pc := 13) X rfl dX11_rule_13 ?_
    obtain ⟨r9, σ10, hc8, h⟩ := bd2_e h
    refine g_callV (pc := 14) X k_ml_X11_104 (run_RC_deny  hc8) s_0 rfl (room_ok (Nat.le_of_ble_eq_true rfl) (Nat.le_of_ble_eq_true rfl)) ⟨Nat.le_refl _, Nat.le_refl _⟩ _ rfl (Nat.le_of_ble_eq_true rfl) dX11_rule_14 ?_
    show Go V Γ M_X11_rule (Zm V Γ 1 fin) 17 [(0, .ref (V.2.2.1 + 0)), (1, .int p1)] [.int r9] σ10
    obtain ⟨c11, h⟩ := chk_e h
    cases h
    exact g_iret (pc := 17) X rfl (ckz_e c11).1 (hr _ _ hA) dX11_rule_17
set_option maxRecDepth 100000 in
theorem run_RC_rule {V : Ev} {σ : St} {p1 : Int32} {o : (Int32 × St)}   (h : RC_rule σ p1 = some o) : Rs V 1 M_X11_rule [.ref (V.2.2.1 + 0), .int p1] σ (some (.int o.1), o.2) := by
  refine Rs.of (by decide +kernel) (Nat.le_of_ble_eq_true rfl) (fun Γ X => ?_)
  exact tm_RC_rule X (A := fun o1 => o1 = o)  (fun _ _ e => by rw [← e]) h rfl
theorem dX11_gapAt_0 : decode cX11_gapAt 0 = .ok (.aload_n 0, 1) := by decide +kernel
theorem dX11_gapAt_1 : decode cX11_gapAt 1 = .ok (.invokevirtual 226, 3) := by decide +kernel
theorem dX11_gapAt_4 : decode cX11_gapAt 4 = .ok (.ifCond .eq 18, 3) := by decide +kernel
theorem dX11_gapAt_7 : decode cX11_gapAt 7 = .ok (.aload_n 0, 1) := by decide +kernel
theorem dX11_gapAt_8 : decode cX11_gapAt 8 = .ok (.aload_n 0, 1) := by decide +kernel
theorem dX11_gapAt_9 : decode cX11_gapAt 9 = .ok (.getfield 67, 3) := by decide +kernel
theorem dX11_gapAt_12 : decode cX11_gapAt 12 = .ok (.iload_n 1, 1) := by decide +kernel
theorem dX11_gapAt_13 : decode cX11_gapAt 13 = .ok (.invokevirtual 301, 3) := by decide +kernel
theorem dX11_gapAt_16 : decode cX11_gapAt 16 = .ok (.invokevirtual 256, 3) := by decide +kernel
theorem dX11_gapAt_19 : decode cX11_gapAt 19 = .ok (.goto 9, 3) := by decide +kernel
theorem dX11_gapAt_22 : decode cX11_gapAt 22 = .ok (.aload_n 0, 1) := by decide +kernel
theorem dX11_gapAt_23 : decode cX11_gapAt 23 = .ok (.bipush 7, 2) := by decide +kernel
theorem dX11_gapAt_25 : decode cX11_gapAt 25 = .ok (.invokevirtual 124, 3) := by decide +kernel
theorem dX11_gapAt_28 : decode cX11_gapAt 28 = .ok (.ireturn, 1) := by decide +kernel
noncomputable def RC_gapAt (σ : St) (p1 : Int32) : Option (Int32 × St) :=
  bd2 (RC_sieved σ) (fun r2 σ3 => if r2 = 0 then (bd2 (RC_refuse σ3 7) (fun r5 σ6 => some (r5, σ6))) else (bd (Si_findGap σ3 p1) (fun r8 => bd2 (RC_answerOrNone σ3 r8) (fun r10 σ11 => some (r10, σ11)))))
set_option maxRecDepth 100000 in
set_option maxHeartbeats 4000000 in
theorem tm_RC_gapAt {V : Ev} {Γ : Cn} {fin : Option Value × St} {σ : St} {p1 : Int32} {o : (Int32 × St)} (X : Cx V Γ M_X11_gapAt) {A : (Int32 × St) → Prop}  (hr : ∀ (r : Int32) (σ9 : St), A (r, σ9) → (some (.int r), σ9) = fin) (h : RC_gapAt σ p1 = some o) (hA : A o) : Go V Γ M_X11_gapAt (Zm V Γ 5 fin) 0 [(0, .ref (V.2.2.1 + 0)), (1, .int p1)] [] σ := by
  unfold RC_gapAt at h
  refine g_aload_n (pc := 0) X 0 rfl dX11_gapAt_0 ?_
  obtain ⟨r2, σ3, hc1, h⟩ := bd2_e h
  refine g_callV (pc := 1) X k_ml_X11_226 (run_RC_sieved  hc1) s_0 rfl (room_ok (Nat.le_of_ble_eq_true rfl) (Nat.le_of_ble_eq_true rfl)) ⟨Nat.le_refl _, Nat.le_refl _⟩ _ rfl (Nat.le_of_ble_eq_true rfl) dX11_gapAt_1 ?_
  show Go V Γ M_X11_gapAt (Zm V Γ 5 fin) 4 [(0, .ref (V.2.2.1 + 0)), (1, .int p1)] [.int r2] σ3
  refine g_if_eq (pc := 4) (tgt := 22) X dX11_gapAt_4 rfl (fun c12 => ?_) (fun c12 => ?_)
  · replace h := if_t c12 h
    refine g_aload_n (pc := 22) X 0 rfl dX11_gapAt_22 ?_
    refine g_bipush (v := 7) (pc := 23) X (by decide) dX11_gapAt_23 ?_
    obtain ⟨r5, σ6, hc4, h⟩ := bd2_e h
    refine g_callV (pc := 25) X k_ml_X11_124 (run_RC_refuse  hc4) s_0 rfl (room_ok (Nat.le_of_ble_eq_true rfl) (Nat.le_of_ble_eq_true rfl)) ⟨Nat.le_refl _, Nat.le_refl _⟩ _ rfl (Nat.le_of_ble_eq_true rfl) dX11_gapAt_25 ?_
    show Go V Γ M_X11_gapAt (Zm V Γ 5 fin) 28 [(0, .ref (V.2.2.1 + 0)), (1, .int p1)] [.int r5] σ6
    cases h
    exact g_iret (pc := 28) X rfl rfl (hr _ _ hA) dX11_gapAt_28
  · replace h := if_f c12 h
    refine g_aload_n (pc := 7) X 0 rfl dX11_gapAt_7 ?_
    refine g_aload_n (pc := 8) X 0 rfl dX11_gapAt_8 ?_
    refine g_getR (r := 31) (pc := 9) X k_fl_X11_67 s_0 rfl dX11_gapAt_9 ?_
    refine g_iload_n (pc := 12) X 1 rfl dX11_gapAt_12 ?_
    obtain ⟨r8, hc7, h⟩ := bd_e h
    refine g_callV (pc := 13) X k_ml_X11_301 (run_Si_findGap  hc7) s_31 rfl (room_ok (Nat.le_of_ble_eq_true rfl) (Nat.le_of_ble_eq_true rfl)) ⟨Nat.le_refl _, Nat.le_refl _⟩ _ rfl (Nat.le_of_ble_eq_true rfl) dX11_gapAt_13 ?_
    show Go V Γ M_X11_gapAt (Zm V Γ 5 fin) 16 [(0, .ref (V.2.2.1 + 0)), (1, .int p1)] [.int r8, .ref (V.2.2.1 + 0)] σ3
    obtain ⟨r10, σ11, hc9, h⟩ := bd2_e h
    refine g_callV (pc := 16) X k_ml_X11_256 (run_RC_answerOrNone  hc9) s_0 rfl (room_ok (Nat.le_of_ble_eq_true rfl) (Nat.le_of_ble_eq_true rfl)) ⟨Nat.le_refl _, Nat.le_refl _⟩ _ rfl (Nat.le_of_ble_eq_true rfl) dX11_gapAt_16 ?_
    show Go V Γ M_X11_gapAt (Zm V Γ 5 fin) 19 [(0, .ref (V.2.2.1 + 0)), (1, .int p1)] [.int r10] σ11
    refine g_goto (pc := 19) (tgt := 28) X dX11_gapAt_19 rfl ?_
    cases h
    exact g_iret (pc := 28) X rfl rfl (hr _ _ hA) dX11_gapAt_28
set_option maxRecDepth 100000 in
theorem run_RC_gapAt {V : Ev} {σ : St} {p1 : Int32} {o : (Int32 × St)}   (h : RC_gapAt σ p1 = some o) : Rs V 5 M_X11_gapAt [.ref (V.2.2.1 + 0), .int p1] σ (some (.int o.1), o.2) := by
  refine Rs.of (by decide +kernel) (Nat.le_of_ble_eq_true rfl) (fun Γ X => ?_)
  exact tm_RC_gapAt X (A := fun o1 => o1 = o)  (fun _ _ e => by rw [← e]) h rfl
theorem dX11_partBy_0 : decode cX11_partBy 0 = .ok (.lload_n 2, 1) := by decide +kernel
theorem dX11_partBy_1 : decode cX11_partBy 1 = .ok (.lconst 1, 1) := by decide +kernel
theorem dX11_partBy_2 : decode cX11_partBy 2 = .ok (.lcmp, 1) := by decide +kernel
theorem dX11_partBy_3 : decode cX11_partBy 3 = .ok (.ifCond .ge 7, 3) := by decide +kernel
theorem dX11_partBy_6 : decode cX11_partBy 6 = .ok (.lconst 0, 1) := by decide +kernel
theorem dX11_partBy_7 : decode cX11_partBy 7 = .ok (.goto 6, 3) := by decide +kernel
theorem dX11_partBy_10 : decode cX11_partBy 10 = .ok (.lload_n 0, 1) := by decide +kernel
theorem dX11_partBy_11 : decode cX11_partBy 11 = .ok (.lload_n 2, 1) := by decide +kernel
theorem dX11_partBy_12 : decode cX11_partBy 12 = .ok (.ldiv, 1) := by decide +kernel
theorem dX11_partBy_13 : decode cX11_partBy 13 = .ok (.lreturn, 1) := by decide +kernel
noncomputable def RC_partBy (p0 : Int64) (p1 : Int64) : Option Int64 :=
  if 1 ≤ p1 then (chk (nzL p1) (some (p0 / p1))) else (some 0)
set_option maxRecDepth 100000 in
set_option maxHeartbeats 4000000 in
theorem tm_RC_partBy {V : Ev} {Γ : Cn} {fin : Option Value × St} {σ : St} {p0 : Int64} {p1 : Int64} {o : Int64} (X : Cx V Γ M_X11_partBy) {A : Int64 → Prop}  (hr : ∀ (r : Int64), A r → (some (.long r), σ) = fin) (h : RC_partBy p0 p1 = some o) (hA : A o) : Go V Γ M_X11_partBy (Zm V Γ 0 fin) 0 [(0, .long p0), (2, .long p1)] [] σ := by
  unfold RC_partBy at h
  refine g_lload_n (pc := 0) X 1 rfl dX11_partBy_0 ?_
  refine g_lconst (v := 1) (pc := 1) X rfl dX11_partBy_1 ?_
  refine g_lcmp_ge (pc := 2) (tgt := 10) X dX11_partBy_2 dX11_partBy_3 rfl (fun c2 => ?_) (fun c2 => ?_)
  · replace h := if_t c2 h
    refine g_lload_n (pc := 10) X 0 rfl dX11_partBy_10 ?_
    refine g_lload_n (pc := 11) X 1 rfl dX11_partBy_11 ?_
    obtain ⟨c1, h⟩ := chk_e h
    refine g_ldiv (pc := 12) X (nzL_e c1) dX11_partBy_12 ?_
    cases h
    exact g_lret (pc := 13) X rfl (hr _ hA) dX11_partBy_13
  · replace h := if_f c2 h
    refine g_lconst (v := 0) (pc := 6) X rfl dX11_partBy_6 ?_
    refine g_goto (pc := 7) (tgt := 13) X dX11_partBy_7 rfl ?_
    cases h
    exact g_lret (pc := 13) X rfl (hr _ hA) dX11_partBy_13
set_option maxRecDepth 100000 in
theorem run_RC_partBy {V : Ev} {σ : St} {p0 : Int64} {p1 : Int64} {o : Int64}   (h : RC_partBy p0 p1 = some o) : Rs V 0 M_X11_partBy [.long p0, .long p1] σ (some (.long o), σ) := by
  refine Rs.of (by decide +kernel) (Nat.le_of_ble_eq_true rfl) (fun Γ X => ?_)
  exact tm_RC_partBy X (A := fun o1 => o1 = o)  (fun _ e => by rw [e]) h rfl
theorem dX11_tell_0 : decode cX11_tell 0 = .ok (.lload_n 1, 1) := by decide +kernel
theorem dX11_tell_1 : decode cX11_tell 1 = .ok (.lload_n 3, 1) := by decide +kernel
theorem dX11_tell_2 : decode cX11_tell 2 = .ok (.invokestatic 400, 3) := by decide +kernel
theorem dX11_tell_5 : decode cX11_tell 5 = .ok (.lstore 5, 2) := by decide +kernel
theorem dX11_tell_7 : decode cX11_tell 7 = .ok (.aload_n 0, 1) := by decide +kernel
theorem dX11_tell_8 : decode cX11_tell 8 = .ok (.lload_n 1, 1) := by decide +kernel
theorem dX11_tell_9 : decode cX11_tell 9 = .ok (.lload 5, 2) := by decide +kernel
theorem dX11_tell_11 : decode cX11_tell 11 = .ok (.invokestatic 404, 3) := by decide +kernel
theorem dX11_tell_14 : decode cX11_tell 14 = .ok (.putfield 13, 3) := by decide +kernel
theorem dX11_tell_17 : decode cX11_tell 17 = .ok (.aload_n 0, 1) := by decide +kernel
theorem dX11_tell_18 : decode cX11_tell 18 = .ok (.lload_n 3, 1) := by decide +kernel
theorem dX11_tell_19 : decode cX11_tell 19 = .ok (.lload 5, 2) := by decide +kernel
theorem dX11_tell_21 : decode cX11_tell 21 = .ok (.invokestatic 404, 3) := by decide +kernel
theorem dX11_tell_24 : decode cX11_tell 24 = .ok (.putfield 17, 3) := by decide +kernel
theorem dX11_tell_27 : decode cX11_tell 27 = .ok (.aload_n 0, 1) := by decide +kernel
theorem dX11_tell_28 : decode cX11_tell 28 = .ok (.invokevirtual 112, 3) := by decide +kernel
theorem dX11_tell_31 : decode cX11_tell 31 = .ok (.ireturn, 1) := by decide +kernel
noncomputable def RC_tell (σ : St) (p1 : Int64) (p2 : Int64) : Option (Int32 × St) :=
  bd (RC_commonDivisor p1 p2) (fun r2 => bd (RC_partBy p1 r2) (fun r4 => bnd (wL σ 0 1 r4) (fun σ5 => bd (RC_partBy p2 r2) (fun r7 => bnd (wL σ5 0 2 r7) (fun σ8 => bd2 (RC_agree σ8) (fun r10 σ11 => chk (ckz r10) (some (r10, σ11))))))))
set_option maxRecDepth 100000 in
set_option maxHeartbeats 4000000 in
theorem tm_RC_tell {V : Ev} {Γ : Cn} {fin : Option Value × St} {σ : St} {p1 : Int64} {p2 : Int64} {o : (Int32 × St)} (X : Cx V Γ M_X11_tell) {A : (Int32 × St) → Prop}  (hr : ∀ (r : Int32) (σ9 : St), A (r, σ9) → (some (.int r), σ9) = fin) (h : RC_tell σ p1 p2 = some o) (hA : A o) : Go V Γ M_X11_tell (Zm V Γ 1 fin) 0 [(0, .ref (V.2.2.1 + 0)), (1, .long p1), (3, .long p2)] [] σ := by
  unfold RC_tell at h
  refine g_lload_n (pc := 0) X 1 rfl dX11_tell_0 ?_
  refine g_lload_n (pc := 1) X 2 rfl dX11_tell_1 ?_
  obtain ⟨r2, hc1, h⟩ := bd_e h
  refine g_callS (pc := 2) X k_ml_X11_400 (run_RC_commonDivisor  hc1) rfl (room_ok (Nat.le_of_ble_eq_true rfl) (Nat.le_of_ble_eq_true rfl)) ⟨Nat.le_refl _, Nat.le_refl _⟩ _ rfl (Nat.le_of_ble_eq_true rfl) dX11_tell_2 ?_
  show Go V Γ M_X11_tell (Zm V Γ 1 fin) 5 [(0, .ref (V.2.2.1 + 0)), (1, .long p1), (3, .long p2)] [.long r2] σ
  refine g_lstore (pc := 5) X [(5, .long r2), (0, .ref (V.2.2.1 + 0)), (1, .long p1), (3, .long p2)] (Nat.le_of_ble_eq_true rfl) rfl dX11_tell_5 ?_
  refine g_aload_n (pc := 7) X 1 rfl dX11_tell_7 ?_
  refine g_lload_n (pc := 8) X 2 rfl dX11_tell_8 ?_
  refine g_lload (pc := 9) X 0 rfl dX11_tell_9 ?_
  obtain ⟨r4, hc3, h⟩ := bd_e h
  refine g_callS (pc := 11) X k_ml_X11_404 (run_RC_partBy  hc3) rfl (room_ok (Nat.le_of_ble_eq_true rfl) (Nat.le_of_ble_eq_true rfl)) ⟨Nat.le_refl _, Nat.le_refl _⟩ _ rfl (Nat.le_of_ble_eq_true rfl) dX11_tell_11 ?_
  show Go V Γ M_X11_tell (Zm V Γ 1 fin) 14 [(5, .long r2), (0, .ref (V.2.2.1 + 0)), (1, .long p1), (3, .long p2)] [.long r4, .ref (V.2.2.1 + 0)] σ
  refine g_putL (pc := 14) X k_fl_X11_13 s_0 rfl dX11_tell_14 ?_
  obtain ⟨σ5, e_σ5, h⟩ := bnd_e h
  refine g_nmS e_σ5 ?_
  refine g_aload_n (pc := 17) X 1 rfl dX11_tell_17 ?_
  refine g_lload_n (pc := 18) X 3 rfl dX11_tell_18 ?_
  refine g_lload (pc := 19) X 0 rfl dX11_tell_19 ?_
  obtain ⟨r7, hc6, h⟩ := bd_e h
  refine g_callS (pc := 21) X k_ml_X11_404 (run_RC_partBy  hc6) rfl (room_ok (Nat.le_of_ble_eq_true rfl) (Nat.le_of_ble_eq_true rfl)) ⟨Nat.le_refl _, Nat.le_refl _⟩ _ rfl (Nat.le_of_ble_eq_true rfl) dX11_tell_21 ?_
  show Go V Γ M_X11_tell (Zm V Γ 1 fin) 24 [(5, .long r2), (0, .ref (V.2.2.1 + 0)), (1, .long p1), (3, .long p2)] [.long r7, .ref (V.2.2.1 + 0)] σ5
  refine g_putL (pc := 24) X k_fl_X11_17 s_0 rfl dX11_tell_24 ?_
  obtain ⟨σ8, e_σ8, h⟩ := bnd_e h
  refine g_nmS e_σ8 ?_
  refine g_aload_n (pc := 27) X 1 rfl dX11_tell_27 ?_
  obtain ⟨r10, σ11, hc9, h⟩ := bd2_e h
  refine g_callV (pc := 28) X k_ml_X11_112 (run_RC_agree  hc9) s_0 rfl (room_ok (Nat.le_of_ble_eq_true rfl) (Nat.le_of_ble_eq_true rfl)) ⟨Nat.le_refl _, Nat.le_refl _⟩ _ rfl (Nat.le_of_ble_eq_true rfl) dX11_tell_28 ?_
  show Go V Γ M_X11_tell (Zm V Γ 1 fin) 31 [(5, .long r2), (0, .ref (V.2.2.1 + 0)), (1, .long p1), (3, .long p2)] [.int r10] σ11
  obtain ⟨c12, h⟩ := chk_e h
  cases h
  exact g_iret (pc := 31) X rfl (ckz_e c12).1 (hr _ _ hA) dX11_tell_31
set_option maxRecDepth 100000 in
theorem run_RC_tell {V : Ev} {σ : St} {p1 : Int64} {p2 : Int64} {o : (Int32 × St)}   (h : RC_tell σ p1 p2 = some o) : Rs V 1 M_X11_tell [.ref (V.2.2.1 + 0), .long p1, .long p2] σ (some (.int o.1), o.2) := by
  refine Rs.of (by decide +kernel) (Nat.le_of_ble_eq_true rfl) (fun Γ X => ?_)
  exact tm_RC_tell X (A := fun o1 => o1 = o)  (fun _ _ e => by rw [← e]) h rfl
theorem dX11_gaps_0 : decode cX11_gaps 0 = .ok (.aload_n 0, 1) := by decide +kernel
theorem dX11_gaps_1 : decode cX11_gaps 1 = .ok (.invokevirtual 226, 3) := by decide +kernel
theorem dX11_gaps_4 : decode cX11_gaps 4 = .ok (.ifCond .eq 26, 3) := by decide +kernel
theorem dX11_gaps_7 : decode cX11_gaps 7 = .ok (.aload_n 0, 1) := by decide +kernel
theorem dX11_gaps_8 : decode cX11_gaps 8 = .ok (.aload_n 0, 1) := by decide +kernel
theorem dX11_gaps_9 : decode cX11_gaps 9 = .ok (.getfield 67, 3) := by decide +kernel
theorem dX11_gaps_12 : decode cX11_gaps 12 = .ok (.invokevirtual 232, 3) := by decide +kernel
theorem dX11_gaps_15 : decode cX11_gaps 15 = .ok (.i2l, 1) := by decide +kernel
theorem dX11_gaps_16 : decode cX11_gaps 16 = .ok (.aload_n 0, 1) := by decide +kernel
theorem dX11_gaps_17 : decode cX11_gaps 17 = .ok (.getfield 67, 3) := by decide +kernel
theorem dX11_gaps_20 : decode cX11_gaps 20 = .ok (.getfield 229, 3) := by decide +kernel
theorem dX11_gaps_23 : decode cX11_gaps 23 = .ok (.i2l, 1) := by decide +kernel
theorem dX11_gaps_24 : decode cX11_gaps 24 = .ok (.invokevirtual 304, 3) := by decide +kernel
theorem dX11_gaps_27 : decode cX11_gaps 27 = .ok (.goto 9, 3) := by decide +kernel
theorem dX11_gaps_30 : decode cX11_gaps 30 = .ok (.aload_n 0, 1) := by decide +kernel
theorem dX11_gaps_31 : decode cX11_gaps 31 = .ok (.bipush 7, 2) := by decide +kernel
theorem dX11_gaps_33 : decode cX11_gaps 33 = .ok (.invokevirtual 104, 3) := by decide +kernel
theorem dX11_gaps_36 : decode cX11_gaps 36 = .ok (.ireturn, 1) := by decide +kernel
noncomputable def RC_gaps (σ : St) : Option (Int32 × St) :=
  bd2 (RC_sieved σ) (fun r2 σ3 => if r2 = 0 then (bd2 (RC_deny σ3 7) (fun r5 σ6 => chk (ckz r5) (some (r5, σ6)))) else (bd (Si_countGaps σ3) (fun r9 => bd2 (RC_tell σ3 r9.toInt64 ((σ3.1 31 3).toInt64)) (fun r11 σ12 => chk (ckz r11) (some (r11, σ12))))))
set_option maxRecDepth 100000 in
set_option maxHeartbeats 4000000 in
theorem tm_RC_gaps {V : Ev} {Γ : Cn} {fin : Option Value × St} {σ : St} {o : (Int32 × St)} (X : Cx V Γ M_X11_gaps) {A : (Int32 × St) → Prop}  (hr : ∀ (r : Int32) (σ9 : St), A (r, σ9) → (some (.int r), σ9) = fin) (h : RC_gaps σ = some o) (hA : A o) : Go V Γ M_X11_gaps (Zm V Γ 5 fin) 0 [(0, .ref (V.2.2.1 + 0))] [] σ := by
  unfold RC_gaps at h
  refine g_aload_n (pc := 0) X 0 rfl dX11_gaps_0 ?_
  obtain ⟨r2, σ3, hc1, h⟩ := bd2_e h
  refine g_callV (pc := 1) X k_ml_X11_226 (run_RC_sieved  hc1) s_0 rfl (room_ok (Nat.le_of_ble_eq_true rfl) (Nat.le_of_ble_eq_true rfl)) ⟨Nat.le_refl _, Nat.le_refl _⟩ _ rfl (Nat.le_of_ble_eq_true rfl) dX11_gaps_1 ?_
  show Go V Γ M_X11_gaps (Zm V Γ 5 fin) 4 [(0, .ref (V.2.2.1 + 0))] [.int r2] σ3
  refine g_if_eq (pc := 4) (tgt := 30) X dX11_gaps_4 rfl (fun c14 => ?_) (fun c14 => ?_)
  · replace h := if_t c14 h
    refine g_aload_n (pc := 30) X 0 rfl dX11_gaps_30 ?_
    refine g_bipush (v := 7) (pc := 31) X (by decide) dX11_gaps_31 ?_
    obtain ⟨r5, σ6, hc4, h⟩ := bd2_e h
    refine g_callV (pc := 33) X k_ml_X11_104 (run_RC_deny  hc4) s_0 rfl (room_ok (Nat.le_of_ble_eq_true rfl) (Nat.le_of_ble_eq_true rfl)) ⟨Nat.le_refl _, Nat.le_refl _⟩ _ rfl (Nat.le_of_ble_eq_true rfl) dX11_gaps_33 ?_
    show Go V Γ M_X11_gaps (Zm V Γ 5 fin) 36 [(0, .ref (V.2.2.1 + 0))] [.int r5] σ6
    obtain ⟨c7, h⟩ := chk_e h
    cases h
    exact g_iret (pc := 36) X rfl (ckz_e c7).1 (hr _ _ hA) dX11_gaps_36
  · replace h := if_f c14 h
    refine g_aload_n (pc := 7) X 0 rfl dX11_gaps_7 ?_
    refine g_aload_n (pc := 8) X 0 rfl dX11_gaps_8 ?_
    refine g_getR (r := 31) (pc := 9) X k_fl_X11_67 s_0 rfl dX11_gaps_9 ?_
    obtain ⟨r9, hc8, h⟩ := bd_e h
    refine g_callV (pc := 12) X k_ml_X11_232 (run_Si_countGaps  hc8) s_31 rfl (room_ok (Nat.le_of_ble_eq_true rfl) (Nat.le_of_ble_eq_true rfl)) ⟨Nat.le_refl _, Nat.le_refl _⟩ _ rfl (Nat.le_of_ble_eq_true rfl) dX11_gaps_12 ?_
    show Go V Γ M_X11_gaps (Zm V Γ 5 fin) 15 [(0, .ref (V.2.2.1 + 0))] [.int r9, .ref (V.2.2.1 + 0)] σ3
    refine g_i2l (pc := 15) X dX11_gaps_15 ?_
    refine g_aload_n (pc := 16) X 0 rfl dX11_gaps_16 ?_
    refine g_getR (r := 31) (pc := 17) X k_fl_X11_67 s_0 rfl dX11_gaps_17 ?_
    refine g_getI (pc := 20) X k_fl_X11_229 s_31 rfl dX11_gaps_20 ?_
    refine g_i2l (pc := 23) X dX11_gaps_23 ?_
    obtain ⟨r11, σ12, hc10, h⟩ := bd2_e h
    refine g_callV (pc := 24) X k_ml_X11_304 (run_RC_tell  hc10) s_0 rfl (room_ok (Nat.le_of_ble_eq_true rfl) (Nat.le_of_ble_eq_true rfl)) ⟨Nat.le_refl _, Nat.le_refl _⟩ _ rfl (Nat.le_of_ble_eq_true rfl) dX11_gaps_24 ?_
    show Go V Γ M_X11_gaps (Zm V Γ 5 fin) 27 [(0, .ref (V.2.2.1 + 0))] [.int r11] σ12
    refine g_goto (pc := 27) (tgt := 36) X dX11_gaps_27 rfl ?_
    obtain ⟨c13, h⟩ := chk_e h
    cases h
    exact g_iret (pc := 36) X rfl (ckz_e c13).1 (hr _ _ hA) dX11_gaps_36
set_option maxRecDepth 100000 in
theorem run_RC_gaps {V : Ev} {σ : St} {o : (Int32 × St)}   (h : RC_gaps σ = some o) : Rs V 5 M_X11_gaps [.ref (V.2.2.1 + 0)] σ (some (.int o.1), o.2) := by
  refine Rs.of (by decide +kernel) (Nat.le_of_ble_eq_true rfl) (fun Γ X => ?_)
  exact tm_RC_gaps X (A := fun o1 => o1 = o)  (fun _ _ e => by rw [← e]) h rfl
theorem dX11_weight_0 : decode cX11_weight 0 = .ok (.aload_n 0, 1) := by decide +kernel
theorem dX11_weight_1 : decode cX11_weight 1 = .ok (.getfield 36, 3) := by decide +kernel
theorem dX11_weight_4 : decode cX11_weight 4 = .ok (.aload_n 0, 1) := by decide +kernel
theorem dX11_weight_5 : decode cX11_weight 5 = .ok (.getfield 36, 3) := by decide +kernel
theorem dX11_weight_8 : decode cX11_weight 8 = .ok (.getfield 213, 3) := by decide +kernel
theorem dX11_weight_11 : decode cX11_weight 11 = .ok (.invokevirtual 308, 3) := by decide +kernel
theorem dX11_weight_14 : decode cX11_weight 14 = .ok (.istore_n 1, 1) := by decide +kernel
theorem dX11_weight_15 : decode cX11_weight 15 = .ok (.iload_n 1, 1) := by decide +kernel
theorem dX11_weight_16 : decode cX11_weight 16 = .ok (.ifCond .ne 12, 3) := by decide +kernel
theorem dX11_weight_19 : decode cX11_weight 19 = .ok (.aload_n 0, 1) := by decide +kernel
theorem dX11_weight_20 : decode cX11_weight 20 = .ok (.bipush 7, 2) := by decide +kernel
theorem dX11_weight_22 : decode cX11_weight 22 = .ok (.invokevirtual 104, 3) := by decide +kernel
theorem dX11_weight_25 : decode cX11_weight 25 = .ok (.goto 18, 3) := by decide +kernel
theorem dX11_weight_28 : decode cX11_weight 28 = .ok (.aload_n 0, 1) := by decide +kernel
theorem dX11_weight_29 : decode cX11_weight 29 = .ok (.aload_n 0, 1) := by decide +kernel
theorem dX11_weight_30 : decode cX11_weight 30 = .ok (.getfield 36, 3) := by decide +kernel
theorem dX11_weight_33 : decode cX11_weight 33 = .ok (.iload_n 1, 1) := by decide +kernel
theorem dX11_weight_34 : decode cX11_weight 34 = .ok (.invokevirtual 311, 3) := by decide +kernel
theorem dX11_weight_37 : decode cX11_weight 37 = .ok (.i2l, 1) := by decide +kernel
theorem dX11_weight_38 : decode cX11_weight 38 = .ok (.iload_n 1, 1) := by decide +kernel
theorem dX11_weight_39 : decode cX11_weight 39 = .ok (.i2l, 1) := by decide +kernel
theorem dX11_weight_40 : decode cX11_weight 40 = .ok (.invokevirtual 304, 3) := by decide +kernel
theorem dX11_weight_43 : decode cX11_weight 43 = .ok (.ireturn, 1) := by decide +kernel
noncomputable def RC_weight (σ : St) : Option (Int32 × St) :=
  bd (Cl_spanOf σ 7 (σ.1 7 4)) (fun r2 => if r2 = 0 then (bd2 (RC_deny σ 7) (fun r10 σ11 => chk (ckz r10) (some (r10, σ11)))) else (bd (Cl_caughtTimes σ 7 r2) (fun r4 => bd2 (RC_tell σ r4.toInt64 r2.toInt64) (fun r6 σ7 => chk (ckz r6) (some (r6, σ7))))))
set_option maxRecDepth 100000 in
set_option maxHeartbeats 4000000 in
theorem tm_RC_weight {V : Ev} {Γ : Cn} {fin : Option Value × St} {σ : St} {o : (Int32 × St)} (X : Cx V Γ M_X11_weight) {A : (Int32 × St) → Prop}  (hr : ∀ (r : Int32) (σ9 : St), A (r, σ9) → (some (.int r), σ9) = fin) (h : RC_weight σ = some o) (hA : A o) : Go V Γ M_X11_weight (Zm V Γ 3 fin) 0 [(0, .ref (V.2.2.1 + 0))] [] σ := by
  unfold RC_weight at h
  refine g_aload_n (pc := 0) X 0 rfl dX11_weight_0 ?_
  refine g_getR (r := 7) (pc := 1) X k_fl_X11_36 s_0 rfl dX11_weight_1 ?_
  refine g_aload_n (pc := 4) X 0 rfl dX11_weight_4 ?_
  refine g_getR (r := 7) (pc := 5) X k_fl_X11_36 s_0 rfl dX11_weight_5 ?_
  refine g_getI (pc := 8) X k_fl_X11_213 s_7 rfl dX11_weight_8 ?_
  obtain ⟨r2, hc1, h⟩ := bd_e h
  refine g_callV (pc := 11) X k_ml_X11_308 (run_Cl_spanOf (oknCl_7) hc1) s_7 rfl (room_ok (Nat.le_of_ble_eq_true rfl) (Nat.le_of_ble_eq_true rfl)) ⟨Nat.le_refl _, Nat.le_refl _⟩ _ rfl (Nat.le_of_ble_eq_true rfl) dX11_weight_11 ?_
  show Go V Γ M_X11_weight (Zm V Γ 3 fin) 14 [(0, .ref (V.2.2.1 + 0))] [.int r2] σ
  refine g_istore_n (pc := 14) X [(1, .int r2), (0, .ref (V.2.2.1 + 0))] rfl (Nat.le_of_ble_eq_true rfl) rfl dX11_weight_14 ?_
  refine g_iload_n (pc := 15) X 0 rfl dX11_weight_15 ?_
  refine g_if_ne (pc := 16) (tgt := 28) X dX11_weight_16 rfl (fun c13 => ?_) (fun c13 => ?_)
  · replace h := if_f c13 h
    refine g_aload_n (pc := 28) X 1 rfl dX11_weight_28 ?_
    refine g_aload_n (pc := 29) X 1 rfl dX11_weight_29 ?_
    refine g_getR (r := 7) (pc := 30) X k_fl_X11_36 s_0 rfl dX11_weight_30 ?_
    refine g_iload_n (pc := 33) X 0 rfl dX11_weight_33 ?_
    obtain ⟨r4, hc3, h⟩ := bd_e h
    refine g_callV (pc := 34) X k_ml_X11_311 (run_Cl_caughtTimes (oknCl_7) hc3) s_7 rfl (room_ok (Nat.le_of_ble_eq_true rfl) (Nat.le_of_ble_eq_true rfl)) ⟨Nat.le_refl _, Nat.le_refl _⟩ _ rfl (Nat.le_of_ble_eq_true rfl) dX11_weight_34 ?_
    show Go V Γ M_X11_weight (Zm V Γ 3 fin) 37 [(1, .int r2), (0, .ref (V.2.2.1 + 0))] [.int r4, .ref (V.2.2.1 + 0)] σ
    refine g_i2l (pc := 37) X dX11_weight_37 ?_
    refine g_iload_n (pc := 38) X 0 rfl dX11_weight_38 ?_
    refine g_i2l (pc := 39) X dX11_weight_39 ?_
    obtain ⟨r6, σ7, hc5, h⟩ := bd2_e h
    refine g_callV (pc := 40) X k_ml_X11_304 (run_RC_tell  hc5) s_0 rfl (room_ok (Nat.le_of_ble_eq_true rfl) (Nat.le_of_ble_eq_true rfl)) ⟨Nat.le_refl _, Nat.le_refl _⟩ _ rfl (Nat.le_of_ble_eq_true rfl) dX11_weight_40 ?_
    show Go V Γ M_X11_weight (Zm V Γ 3 fin) 43 [(1, .int r2), (0, .ref (V.2.2.1 + 0))] [.int r6] σ7
    obtain ⟨c8, h⟩ := chk_e h
    cases h
    exact g_iret (pc := 43) X rfl (ckz_e c8).1 (hr _ _ hA) dX11_weight_43
  · replace h := if_t c13 h
    refine g_aload_n (pc := 19) X 1 rfl dX11_weight_19 ?_
    refine g_bipush (v := 7) (pc := 20) X (by decide) dX11_weight_20 ?_
    obtain ⟨r10, σ11, hc9, h⟩ := bd2_e h
    refine g_callV (pc := 22) X k_ml_X11_104 (run_RC_deny  hc9) s_0 rfl (room_ok (Nat.le_of_ble_eq_true rfl) (Nat.le_of_ble_eq_true rfl)) ⟨Nat.le_refl _, Nat.le_refl _⟩ _ rfl (Nat.le_of_ble_eq_true rfl) dX11_weight_22 ?_
    show Go V Γ M_X11_weight (Zm V Γ 3 fin) 25 [(1, .int r2), (0, .ref (V.2.2.1 + 0))] [.int r10] σ11
    refine g_goto (pc := 25) (tgt := 43) X dX11_weight_25 rfl ?_
    obtain ⟨c12, h⟩ := chk_e h
    cases h
    exact g_iret (pc := 43) X rfl (ckz_e c12).1 (hr _ _ hA) dX11_weight_43
set_option maxRecDepth 100000 in
theorem run_RC_weight {V : Ev} {σ : St} {o : (Int32 × St)}   (h : RC_weight σ = some o) : Rs V 3 M_X11_weight [.ref (V.2.2.1 + 0)] σ (some (.int o.1), o.2) := by
  refine Rs.of (by decide +kernel) (Nat.le_of_ble_eq_true rfl) (fun Γ X => ?_)
  exact tm_RC_weight X (A := fun o1 => o1 = o)  (fun _ _ e => by rw [← e]) h rfl
theorem dX11_alone_0 : decode cX11_alone 0 = .ok (.aload_n 0, 1) := by decide +kernel
theorem dX11_alone_1 : decode cX11_alone 1 = .ok (.getfield 36, 3) := by decide +kernel
theorem dX11_alone_4 : decode cX11_alone 4 = .ok (.iload_n 1, 1) := by decide +kernel
theorem dX11_alone_5 : decode cX11_alone 5 = .ok (.invokevirtual 235, 3) := by decide +kernel
theorem dX11_alone_8 : decode cX11_alone 8 = .ok (.ifCond .ne 9, 3) := by decide +kernel
theorem dX11_alone_11 : decode cX11_alone 11 = .ok (.aload_n 0, 1) := by decide +kernel
theorem dX11_alone_12 : decode cX11_alone 12 = .ok (.iconst 1, 1) := by decide +kernel
theorem dX11_alone_13 : decode cX11_alone 13 = .ok (.invokevirtual 104, 3) := by decide +kernel
theorem dX11_alone_16 : decode cX11_alone 16 = .ok (.ireturn, 1) := by decide +kernel
theorem dX11_alone_17 : decode cX11_alone 17 = .ok (.aload_n 0, 1) := by decide +kernel
theorem dX11_alone_18 : decode cX11_alone 18 = .ok (.invokevirtual 226, 3) := by decide +kernel
theorem dX11_alone_21 : decode cX11_alone 21 = .ok (.ifCond .ne 10, 3) := by decide +kernel
theorem dX11_alone_24 : decode cX11_alone 24 = .ok (.aload_n 0, 1) := by decide +kernel
theorem dX11_alone_25 : decode cX11_alone 25 = .ok (.bipush 7, 2) := by decide +kernel
theorem dX11_alone_27 : decode cX11_alone 27 = .ok (.invokevirtual 104, 3) := by decide +kernel
theorem dX11_alone_30 : decode cX11_alone 30 = .ok (.ireturn, 1) := by decide +kernel
theorem dX11_alone_31 : decode cX11_alone 31 = .ok (.aload_n 0, 1) := by decide +kernel
theorem dX11_alone_32 : decode cX11_alone 32 = .ok (.getfield 36, 3) := by decide +kernel
theorem dX11_alone_35 : decode cX11_alone 35 = .ok (.iload_n 1, 1) := by decide +kernel
theorem dX11_alone_36 : decode cX11_alone 36 = .ok (.invokevirtual 245, 3) := by decide +kernel
theorem dX11_alone_39 : decode cX11_alone 39 = .ok (.ifCond .eq 31, 3) := by decide +kernel
theorem dX11_alone_42 : decode cX11_alone 42 = .ok (.aload_n 0, 1) := by decide +kernel
theorem dX11_alone_43 : decode cX11_alone 43 = .ok (.aload_n 0, 1) := by decide +kernel
theorem dX11_alone_44 : decode cX11_alone 44 = .ok (.getfield 67, 3) := by decide +kernel
theorem dX11_alone_47 : decode cX11_alone 47 = .ok (.aload_n 0, 1) := by decide +kernel
theorem dX11_alone_48 : decode cX11_alone 48 = .ok (.getfield 36, 3) := by decide +kernel
theorem dX11_alone_51 : decode cX11_alone 51 = .ok (.iload_n 1, 1) := by decide +kernel
theorem dX11_alone_52 : decode cX11_alone 52 = .ok (.invokevirtual 314, 3) := by decide +kernel
theorem dX11_alone_55 : decode cX11_alone 55 = .ok (.i2l, 1) := by decide +kernel
theorem dX11_alone_56 : decode cX11_alone 56 = .ok (.aload_n 0, 1) := by decide +kernel
theorem dX11_alone_57 : decode cX11_alone 57 = .ok (.getfield 67, 3) := by decide +kernel
theorem dX11_alone_60 : decode cX11_alone 60 = .ok (.getfield 229, 3) := by decide +kernel
theorem dX11_alone_63 : decode cX11_alone 63 = .ok (.i2l, 1) := by decide +kernel
theorem dX11_alone_64 : decode cX11_alone 64 = .ok (.invokevirtual 304, 3) := by decide +kernel
theorem dX11_alone_67 : decode cX11_alone 67 = .ok (.goto 9, 3) := by decide +kernel
theorem dX11_alone_70 : decode cX11_alone 70 = .ok (.aload_n 0, 1) := by decide +kernel
theorem dX11_alone_71 : decode cX11_alone 71 = .ok (.bipush 6, 2) := by decide +kernel
theorem dX11_alone_73 : decode cX11_alone 73 = .ok (.invokevirtual 104, 3) := by decide +kernel
theorem dX11_alone_76 : decode cX11_alone 76 = .ok (.ireturn, 1) := by decide +kernel
noncomputable def RC_alone (σ : St) (p1 : Int32) : Option (Int32 × St) :=
  bd (Cl_isThere σ 7 p1) (fun r2 => if r2 = 0 then (bd2 (RC_deny σ 1) (fun r25 σ26 => chk (ckz r25) (some (r25, σ26)))) else (bd2 (RC_sieved σ) (fun r4 σ5 => if r4 = 0 then (bd2 (RC_deny σ5 7) (fun r20 σ21 => chk (ckz r20) (some (r20, σ21)))) else (bd (Cl_isOn σ5 7 p1) (fun r7 => if r7 = 0 then (bd2 (RC_deny σ5 6) (fun r9 σ10 => chk (ckz r9) (some (r9, σ10)))) else (bd (Si_countOnlyBy σ5 7 p1) (fun r13 => bd2 (RC_tell σ5 r13.toInt64 ((σ5.1 31 3).toInt64)) (fun r15 σ16 => chk (ckz r15) (some (r15, σ16))))))))))
set_option maxRecDepth 100000 in
set_option maxHeartbeats 4000000 in
theorem tm_RC_alone {V : Ev} {Γ : Cn} {fin : Option Value × St} {σ : St} {p1 : Int32} {o : (Int32 × St)} (X : Cx V Γ M_X11_alone) {A : (Int32 × St) → Prop}  (hr : ∀ (r : Int32) (σ9 : St), A (r, σ9) → (some (.int r), σ9) = fin) (h : RC_alone σ p1 = some o) (hA : A o) : Go V Γ M_X11_alone (Zm V Γ 5 fin) 0 [(0, .ref (V.2.2.1 + 0)), (1, .int p1)] [] σ := by
  unfold RC_alone at h
  refine g_aload_n (pc := 0) X 0 rfl dX11_alone_0 ?_
  refine g_getR (r := 7) (pc := 1) X k_fl_X11_36 s_0 rfl dX11_alone_1 ?_
  refine g_iload_n (pc := 4) X 1 rfl dX11_alone_4 ?_
  obtain ⟨r2, hc1, h⟩ := bd_e h
  refine g_callV (pc := 5) X k_ml_X11_235 (run_Cl_isThere (oknCl_7) hc1) s_7 rfl (room_ok (Nat.le_of_ble_eq_true rfl) (Nat.le_of_ble_eq_true rfl)) ⟨Nat.le_refl _, Nat.le_refl _⟩ _ rfl (Nat.le_of_ble_eq_true rfl) dX11_alone_5 ?_
  show Go V Γ M_X11_alone (Zm V Γ 5 fin) 8 [(0, .ref (V.2.2.1 + 0)), (1, .int p1)] [.int r2] σ
  refine g_if_ne (pc := 8) (tgt := 17) X dX11_alone_8 rfl (fun c28 => ?_) (fun c28 => ?_)
  · replace h := if_f c28 h
    refine g_aload_n (pc := 17) X 0 rfl dX11_alone_17 ?_
    obtain ⟨r4, σ5, hc3, h⟩ := bd2_e h
    refine g_callV (pc := 18) X k_ml_X11_226 (run_RC_sieved  hc3) s_0 rfl (room_ok (Nat.le_of_ble_eq_true rfl) (Nat.le_of_ble_eq_true rfl)) ⟨Nat.le_refl _, Nat.le_refl _⟩ _ rfl (Nat.le_of_ble_eq_true rfl) dX11_alone_18 ?_
    show Go V Γ M_X11_alone (Zm V Γ 5 fin) 21 [(0, .ref (V.2.2.1 + 0)), (1, .int p1)] [.int r4] σ5
    refine g_if_ne (pc := 21) (tgt := 31) X dX11_alone_21 rfl (fun c23 => ?_) (fun c23 => ?_)
    · replace h := if_f c23 h
      refine g_aload_n (pc := 31) X 0 rfl dX11_alone_31 ?_
      refine g_getR (r := 7) (pc := 32) X k_fl_X11_36 s_0 rfl dX11_alone_32 ?_
      refine g_iload_n (pc := 35) X 1 rfl dX11_alone_35 ?_
      obtain ⟨r7, hc6, h⟩ := bd_e h
      refine g_callV (pc := 36) X k_ml_X11_245 (run_Cl_isOn (oknCl_7) hc6) s_7 rfl (room_ok (Nat.le_of_ble_eq_true rfl) (Nat.le_of_ble_eq_true rfl)) ⟨Nat.le_refl _, Nat.le_refl _⟩ _ rfl (Nat.le_of_ble_eq_true rfl) dX11_alone_36 ?_
      show Go V Γ M_X11_alone (Zm V Γ 5 fin) 39 [(0, .ref (V.2.2.1 + 0)), (1, .int p1)] [.int r7] σ5
      refine g_if_eq (pc := 39) (tgt := 70) X dX11_alone_39 rfl (fun c18 => ?_) (fun c18 => ?_)
      · replace h := if_t c18 h
        refine g_aload_n (pc := 70) X 0 rfl dX11_alone_70 ?_
        refine g_bipush (v := 6) (pc := 71) X (by decide) dX11_alone_71 ?_
        obtain ⟨r9, σ10, hc8, h⟩ := bd2_e h
        refine g_callV (pc := 73) X k_ml_X11_104 (run_RC_deny  hc8) s_0 rfl (room_ok (Nat.le_of_ble_eq_true rfl) (Nat.le_of_ble_eq_true rfl)) ⟨Nat.le_refl _, Nat.le_refl _⟩ _ rfl (Nat.le_of_ble_eq_true rfl) dX11_alone_73 ?_
        show Go V Γ M_X11_alone (Zm V Γ 5 fin) 76 [(0, .ref (V.2.2.1 + 0)), (1, .int p1)] [.int r9] σ10
        obtain ⟨c11, h⟩ := chk_e h
        cases h
        exact g_iret (pc := 76) X rfl (ckz_e c11).1 (hr _ _ hA) dX11_alone_76
      · replace h := if_f c18 h
        refine g_aload_n (pc := 42) X 0 rfl dX11_alone_42 ?_
        refine g_aload_n (pc := 43) X 0 rfl dX11_alone_43 ?_
        refine g_getR (r := 31) (pc := 44) X k_fl_X11_67 s_0 rfl dX11_alone_44 ?_
        refine g_aload_n (pc := 47) X 0 rfl dX11_alone_47 ?_
        refine g_getR (r := 7) (pc := 48) X k_fl_X11_36 s_0 rfl dX11_alone_48 ?_
        refine g_iload_n (pc := 51) X 1 rfl dX11_alone_51 ?_
        obtain ⟨r13, hc12, h⟩ := bd_e h
        refine g_callV (pc := 52) X k_ml_X11_314 (run_Si_countOnlyBy (oknCl_7) hc12) s_31 rfl (room_ok (Nat.le_of_ble_eq_true rfl) (Nat.le_of_ble_eq_true rfl)) ⟨Nat.le_refl _, Nat.le_refl _⟩ _ rfl (Nat.le_of_ble_eq_true rfl) dX11_alone_52 ?_
        show Go V Γ M_X11_alone (Zm V Γ 5 fin) 55 [(0, .ref (V.2.2.1 + 0)), (1, .int p1)] [.int r13, .ref (V.2.2.1 + 0)] σ5
        refine g_i2l (pc := 55) X dX11_alone_55 ?_
        refine g_aload_n (pc := 56) X 0 rfl dX11_alone_56 ?_
        refine g_getR (r := 31) (pc := 57) X k_fl_X11_67 s_0 rfl dX11_alone_57 ?_
        refine g_getI (pc := 60) X k_fl_X11_229 s_31 rfl dX11_alone_60 ?_
        refine g_i2l (pc := 63) X dX11_alone_63 ?_
        obtain ⟨r15, σ16, hc14, h⟩ := bd2_e h
        refine g_callV (pc := 64) X k_ml_X11_304 (run_RC_tell  hc14) s_0 rfl (room_ok (Nat.le_of_ble_eq_true rfl) (Nat.le_of_ble_eq_true rfl)) ⟨Nat.le_refl _, Nat.le_refl _⟩ _ rfl (Nat.le_of_ble_eq_true rfl) dX11_alone_64 ?_
        show Go V Γ M_X11_alone (Zm V Γ 5 fin) 67 [(0, .ref (V.2.2.1 + 0)), (1, .int p1)] [.int r15] σ16
        refine g_goto (pc := 67) (tgt := 76) X dX11_alone_67 rfl ?_
        obtain ⟨c17, h⟩ := chk_e h
        cases h
        exact g_iret (pc := 76) X rfl (ckz_e c17).1 (hr _ _ hA) dX11_alone_76
    · replace h := if_t c23 h
      refine g_aload_n (pc := 24) X 0 rfl dX11_alone_24 ?_
      refine g_bipush (v := 7) (pc := 25) X (by decide) dX11_alone_25 ?_
      obtain ⟨r20, σ21, hc19, h⟩ := bd2_e h
      refine g_callV (pc := 27) X k_ml_X11_104 (run_RC_deny  hc19) s_0 rfl (room_ok (Nat.le_of_ble_eq_true rfl) (Nat.le_of_ble_eq_true rfl)) ⟨Nat.le_refl _, Nat.le_refl _⟩ _ rfl (Nat.le_of_ble_eq_true rfl) dX11_alone_27 ?_
      show Go V Γ M_X11_alone (Zm V Γ 5 fin) 30 [(0, .ref (V.2.2.1 + 0)), (1, .int p1)] [.int r20] σ21
      obtain ⟨c22, h⟩ := chk_e h
      cases h
      exact g_iret (pc := 30) X rfl (ckz_e c22).1 (hr _ _ hA) dX11_alone_30
  · replace h := if_t c28 h
    refine g_aload_n (pc := 11) X 0 rfl dX11_alone_11 ?_
    refine g_iconst (v := 1) (pc := 12) X rfl dX11_alone_12 ?_
    obtain ⟨r25, σ26, hc24, h⟩ := bd2_e h
    refine g_callV (pc := 13) X k_ml_X11_104 (run_RC_deny  hc24) s_0 rfl (room_ok (Nat.le_of_ble_eq_true rfl) (Nat.le_of_ble_eq_true rfl)) ⟨Nat.le_refl _, Nat.le_refl _⟩ _ rfl (Nat.le_of_ble_eq_true rfl) dX11_alone_13 ?_
    show Go V Γ M_X11_alone (Zm V Γ 5 fin) 16 [(0, .ref (V.2.2.1 + 0)), (1, .int p1)] [.int r25] σ26
    obtain ⟨c27, h⟩ := chk_e h
    cases h
    exact g_iret (pc := 16) X rfl (ckz_e c27).1 (hr _ _ hA) dX11_alone_16
set_option maxRecDepth 100000 in
theorem run_RC_alone {V : Ev} {σ : St} {p1 : Int32} {o : (Int32 × St)}   (h : RC_alone σ p1 = some o) : Rs V 5 M_X11_alone [.ref (V.2.2.1 + 0), .int p1] σ (some (.int o.1), o.2) := by
  refine Rs.of (by decide +kernel) (Nat.le_of_ble_eq_true rfl) (fun Γ X => ?_)
  exact tm_RC_alone X (A := fun o1 => o1 = o)  (fun _ _ e => by rw [← e]) h rfl
theorem dX11_needless_0 : decode cX11_needless 0 = .ok (.aload_n 0, 1) := by decide +kernel
theorem dX11_needless_1 : decode cX11_needless 1 = .ok (.invokevirtual 226, 3) := by decide +kernel
theorem dX11_needless_4 : decode cX11_needless 4 = .ok (.ifCond .eq 21, 3) := by decide +kernel
theorem dX11_needless_7 : decode cX11_needless 7 = .ok (.aload_n 0, 1) := by decide +kernel
theorem dX11_needless_8 : decode cX11_needless 8 = .ok (.aload_n 0, 1) := by decide +kernel
theorem dX11_needless_9 : decode cX11_needless 9 = .ok (.getfield 67, 3) := by decide +kernel
theorem dX11_needless_12 : decode cX11_needless 12 = .ok (.aload_n 0, 1) := by decide +kernel
theorem dX11_needless_13 : decode cX11_needless 13 = .ok (.getfield 36, 3) := by decide +kernel
theorem dX11_needless_16 : decode cX11_needless 16 = .ok (.invokevirtual 318, 3) := by decide +kernel
theorem dX11_needless_19 : decode cX11_needless 19 = .ok (.invokevirtual 185, 3) := by decide +kernel
theorem dX11_needless_22 : decode cX11_needless 22 = .ok (.goto 9, 3) := by decide +kernel
theorem dX11_needless_25 : decode cX11_needless 25 = .ok (.aload_n 0, 1) := by decide +kernel
theorem dX11_needless_26 : decode cX11_needless 26 = .ok (.bipush 7, 2) := by decide +kernel
theorem dX11_needless_28 : decode cX11_needless 28 = .ok (.invokevirtual 124, 3) := by decide +kernel
theorem dX11_needless_31 : decode cX11_needless 31 = .ok (.ireturn, 1) := by decide +kernel
noncomputable def RC_needless (σ : St) : Option (Int32 × St) :=
  bd2 (RC_sieved σ) (fun r2 σ3 => if r2 = 0 then (bd2 (RC_refuse σ3 7) (fun r5 σ6 => some (r5, σ6))) else (bd (Si_needlessOf σ3 7) (fun r8 => bd2 (RC_answer σ3 r8) (fun r10 σ11 => some (r10, σ11)))))
set_option maxRecDepth 100000 in
set_option maxHeartbeats 4000000 in
theorem tm_RC_needless {V : Ev} {Γ : Cn} {fin : Option Value × St} {σ : St} {o : (Int32 × St)} (X : Cx V Γ M_X11_needless) {A : (Int32 × St) → Prop}  (hr : ∀ (r : Int32) (σ9 : St), A (r, σ9) → (some (.int r), σ9) = fin) (h : RC_needless σ = some o) (hA : A o) : Go V Γ M_X11_needless (Zm V Γ 5 fin) 0 [(0, .ref (V.2.2.1 + 0))] [] σ := by
  unfold RC_needless at h
  refine g_aload_n (pc := 0) X 0 rfl dX11_needless_0 ?_
  obtain ⟨r2, σ3, hc1, h⟩ := bd2_e h
  refine g_callV (pc := 1) X k_ml_X11_226 (run_RC_sieved  hc1) s_0 rfl (room_ok (Nat.le_of_ble_eq_true rfl) (Nat.le_of_ble_eq_true rfl)) ⟨Nat.le_refl _, Nat.le_refl _⟩ _ rfl (Nat.le_of_ble_eq_true rfl) dX11_needless_1 ?_
  show Go V Γ M_X11_needless (Zm V Γ 5 fin) 4 [(0, .ref (V.2.2.1 + 0))] [.int r2] σ3
  refine g_if_eq (pc := 4) (tgt := 25) X dX11_needless_4 rfl (fun c12 => ?_) (fun c12 => ?_)
  · replace h := if_t c12 h
    refine g_aload_n (pc := 25) X 0 rfl dX11_needless_25 ?_
    refine g_bipush (v := 7) (pc := 26) X (by decide) dX11_needless_26 ?_
    obtain ⟨r5, σ6, hc4, h⟩ := bd2_e h
    refine g_callV (pc := 28) X k_ml_X11_124 (run_RC_refuse  hc4) s_0 rfl (room_ok (Nat.le_of_ble_eq_true rfl) (Nat.le_of_ble_eq_true rfl)) ⟨Nat.le_refl _, Nat.le_refl _⟩ _ rfl (Nat.le_of_ble_eq_true rfl) dX11_needless_28 ?_
    show Go V Γ M_X11_needless (Zm V Γ 5 fin) 31 [(0, .ref (V.2.2.1 + 0))] [.int r5] σ6
    cases h
    exact g_iret (pc := 31) X rfl rfl (hr _ _ hA) dX11_needless_31
  · replace h := if_f c12 h
    refine g_aload_n (pc := 7) X 0 rfl dX11_needless_7 ?_
    refine g_aload_n (pc := 8) X 0 rfl dX11_needless_8 ?_
    refine g_getR (r := 31) (pc := 9) X k_fl_X11_67 s_0 rfl dX11_needless_9 ?_
    refine g_aload_n (pc := 12) X 0 rfl dX11_needless_12 ?_
    refine g_getR (r := 7) (pc := 13) X k_fl_X11_36 s_0 rfl dX11_needless_13 ?_
    obtain ⟨r8, hc7, h⟩ := bd_e h
    refine g_callV (pc := 16) X k_ml_X11_318 (run_Si_needlessOf (oknCl_7) hc7) s_31 rfl (room_ok (Nat.le_of_ble_eq_true rfl) (Nat.le_of_ble_eq_true rfl)) ⟨Nat.le_refl _, Nat.le_refl _⟩ _ rfl (Nat.le_of_ble_eq_true rfl) dX11_needless_16 ?_
    show Go V Γ M_X11_needless (Zm V Γ 5 fin) 19 [(0, .ref (V.2.2.1 + 0))] [.int r8, .ref (V.2.2.1 + 0)] σ3
    obtain ⟨r10, σ11, hc9, h⟩ := bd2_e h
    refine g_callV (pc := 19) X k_ml_X11_185 (run_RC_answer  hc9) s_0 rfl (room_ok (Nat.le_of_ble_eq_true rfl) (Nat.le_of_ble_eq_true rfl)) ⟨Nat.le_refl _, Nat.le_refl _⟩ _ rfl (Nat.le_of_ble_eq_true rfl) dX11_needless_19 ?_
    show Go V Γ M_X11_needless (Zm V Γ 5 fin) 22 [(0, .ref (V.2.2.1 + 0))] [.int r10] σ11
    refine g_goto (pc := 22) (tgt := 31) X dX11_needless_22 rfl ?_
    cases h
    exact g_iret (pc := 31) X rfl rfl (hr _ _ hA) dX11_needless_31
set_option maxRecDepth 100000 in
theorem run_RC_needless {V : Ev} {σ : St} {o : (Int32 × St)}   (h : RC_needless σ = some o) : Rs V 5 M_X11_needless [.ref (V.2.2.1 + 0)] σ (some (.int o.1), o.2) := by
  refine Rs.of (by decide +kernel) (Nat.le_of_ble_eq_true rfl) (fun Γ X => ?_)
  exact tm_RC_needless X (A := fun o1 => o1 = o)  (fun _ _ e => by rw [← e]) h rfl
theorem dX11_fewest_0 : decode cX11_fewest 0 = .ok (.aload_n 0, 1) := by decide +kernel
theorem dX11_fewest_1 : decode cX11_fewest 1 = .ok (.invokevirtual 226, 3) := by decide +kernel
theorem dX11_fewest_4 : decode cX11_fewest 4 = .ok (.ifCond .eq 24, 3) := by decide +kernel
theorem dX11_fewest_7 : decode cX11_fewest 7 = .ok (.aload_n 0, 1) := by decide +kernel
theorem dX11_fewest_8 : decode cX11_fewest 8 = .ok (.aload_n 0, 1) := by decide +kernel
theorem dX11_fewest_9 : decode cX11_fewest 9 = .ok (.getfield 67, 3) := by decide +kernel
theorem dX11_fewest_12 : decode cX11_fewest 12 = .ok (.aload_n 0, 1) := by decide +kernel
theorem dX11_fewest_13 : decode cX11_fewest 13 = .ok (.getfield 36, 3) := by decide +kernel
theorem dX11_fewest_16 : decode cX11_fewest 16 = .ok (.invokevirtual 322, 3) := by decide +kernel
theorem dX11_fewest_19 : decode cX11_fewest 19 = .ok (.invokestatic 325, 3) := by decide +kernel
theorem dX11_fewest_22 : decode cX11_fewest 22 = .ok (.invokevirtual 185, 3) := by decide +kernel
theorem dX11_fewest_25 : decode cX11_fewest 25 = .ok (.goto 9, 3) := by decide +kernel
theorem dX11_fewest_28 : decode cX11_fewest 28 = .ok (.aload_n 0, 1) := by decide +kernel
theorem dX11_fewest_29 : decode cX11_fewest 29 = .ok (.bipush 7, 2) := by decide +kernel
theorem dX11_fewest_31 : decode cX11_fewest 31 = .ok (.invokevirtual 124, 3) := by decide +kernel
theorem dX11_fewest_34 : decode cX11_fewest 34 = .ok (.ireturn, 1) := by decide +kernel
noncomputable def RC_fewest (σ : St) : Option (Int32 × St) :=
  bd2 (RC_sieved σ) (fun r2 σ3 => if r2 = 0 then (bd2 (RC_refuse σ3 7) (fun r5 σ6 => some (r5, σ6))) else (bd2 (Si_leastSet σ3 7) (fun r8 σ9 => bd (JI_bitCount_0f7a4 r8) (fun r11 => bd2 (RC_answer σ9 r11) (fun r13 σ14 => some (r13, σ14))))))
set_option maxRecDepth 100000 in
set_option maxHeartbeats 4000000 in
theorem tm_RC_fewest {V : Ev} {Γ : Cn} {fin : Option Value × St} {σ : St} {o : (Int32 × St)} (X : Cx V Γ M_X11_fewest) {A : (Int32 × St) → Prop}  (hr : ∀ (r : Int32) (σ9 : St), A (r, σ9) → (some (.int r), σ9) = fin) (h : RC_fewest σ = some o) (hA : A o) : Go V Γ M_X11_fewest (Zm V Γ 5 fin) 0 [(0, .ref (V.2.2.1 + 0))] [] σ := by
  unfold RC_fewest at h
  refine g_aload_n (pc := 0) X 0 rfl dX11_fewest_0 ?_
  obtain ⟨r2, σ3, hc1, h⟩ := bd2_e h
  refine g_callV (pc := 1) X k_ml_X11_226 (run_RC_sieved  hc1) s_0 rfl (room_ok (Nat.le_of_ble_eq_true rfl) (Nat.le_of_ble_eq_true rfl)) ⟨Nat.le_refl _, Nat.le_refl _⟩ _ rfl (Nat.le_of_ble_eq_true rfl) dX11_fewest_1 ?_
  show Go V Γ M_X11_fewest (Zm V Γ 5 fin) 4 [(0, .ref (V.2.2.1 + 0))] [.int r2] σ3
  refine g_if_eq (pc := 4) (tgt := 28) X dX11_fewest_4 rfl (fun c15 => ?_) (fun c15 => ?_)
  · replace h := if_t c15 h
    refine g_aload_n (pc := 28) X 0 rfl dX11_fewest_28 ?_
    refine g_bipush (v := 7) (pc := 29) X (by decide) dX11_fewest_29 ?_
    obtain ⟨r5, σ6, hc4, h⟩ := bd2_e h
    refine g_callV (pc := 31) X k_ml_X11_124 (run_RC_refuse  hc4) s_0 rfl (room_ok (Nat.le_of_ble_eq_true rfl) (Nat.le_of_ble_eq_true rfl)) ⟨Nat.le_refl _, Nat.le_refl _⟩ _ rfl (Nat.le_of_ble_eq_true rfl) dX11_fewest_31 ?_
    show Go V Γ M_X11_fewest (Zm V Γ 5 fin) 34 [(0, .ref (V.2.2.1 + 0))] [.int r5] σ6
    cases h
    exact g_iret (pc := 34) X rfl rfl (hr _ _ hA) dX11_fewest_34
  · replace h := if_f c15 h
    refine g_aload_n (pc := 7) X 0 rfl dX11_fewest_7 ?_
    refine g_aload_n (pc := 8) X 0 rfl dX11_fewest_8 ?_
    refine g_getR (r := 31) (pc := 9) X k_fl_X11_67 s_0 rfl dX11_fewest_9 ?_
    refine g_aload_n (pc := 12) X 0 rfl dX11_fewest_12 ?_
    refine g_getR (r := 7) (pc := 13) X k_fl_X11_36 s_0 rfl dX11_fewest_13 ?_
    obtain ⟨r8, σ9, hc7, h⟩ := bd2_e h
    refine g_callV (pc := 16) X k_ml_X11_322 (run_Si_leastSet (oknCl_7) hc7) s_31 rfl (room_ok (Nat.le_of_ble_eq_true rfl) (Nat.le_of_ble_eq_true rfl)) ⟨Nat.le_refl _, Nat.le_refl _⟩ _ rfl (Nat.le_of_ble_eq_true rfl) dX11_fewest_16 ?_
    show Go V Γ M_X11_fewest (Zm V Γ 5 fin) 19 [(0, .ref (V.2.2.1 + 0))] [.int r8, .ref (V.2.2.1 + 0)] σ9
    obtain ⟨r11, hc10, h⟩ := bd_e h
    refine g_callS (pc := 19) X k_ml_X11_325 (run_JI_bitCount_0f7a4  hc10) rfl (room_ok (Nat.le_of_ble_eq_true rfl) (Nat.le_of_ble_eq_true rfl)) ⟨Nat.le_refl _, Nat.le_refl _⟩ _ rfl (Nat.le_of_ble_eq_true rfl) dX11_fewest_19 ?_
    show Go V Γ M_X11_fewest (Zm V Γ 5 fin) 22 [(0, .ref (V.2.2.1 + 0))] [.int r11, .ref (V.2.2.1 + 0)] σ9
    obtain ⟨r13, σ14, hc12, h⟩ := bd2_e h
    refine g_callV (pc := 22) X k_ml_X11_185 (run_RC_answer  hc12) s_0 rfl (room_ok (Nat.le_of_ble_eq_true rfl) (Nat.le_of_ble_eq_true rfl)) ⟨Nat.le_refl _, Nat.le_refl _⟩ _ rfl (Nat.le_of_ble_eq_true rfl) dX11_fewest_22 ?_
    show Go V Γ M_X11_fewest (Zm V Γ 5 fin) 25 [(0, .ref (V.2.2.1 + 0))] [.int r13] σ14
    refine g_goto (pc := 25) (tgt := 34) X dX11_fewest_25 rfl ?_
    cases h
    exact g_iret (pc := 34) X rfl rfl (hr _ _ hA) dX11_fewest_34
set_option maxRecDepth 100000 in
theorem run_RC_fewest {V : Ev} {σ : St} {o : (Int32 × St)}   (h : RC_fewest σ = some o) : Rs V 5 M_X11_fewest [.ref (V.2.2.1 + 0)] σ (some (.int o.1), o.2) := by
  refine Rs.of (by decide +kernel) (Nat.le_of_ble_eq_true rfl) (fun Γ X => ?_)
  exact tm_RC_fewest X (A := fun o1 => o1 = o)  (fun _ _ e => by rw [← e]) h rfl
theorem dX11_fewestSet_0 : decode cX11_fewestSet 0 = .ok (.aload_n 0, 1) := by decide +kernel
theorem dX11_fewestSet_1 : decode cX11_fewestSet 1 = .ok (.invokevirtual 226, 3) := by decide +kernel
theorem dX11_fewestSet_4 : decode cX11_fewestSet 4 = .ok (.ifCond .eq 21, 3) := by decide +kernel
theorem dX11_fewestSet_7 : decode cX11_fewestSet 7 = .ok (.aload_n 0, 1) := by decide +kernel
theorem dX11_fewestSet_8 : decode cX11_fewestSet 8 = .ok (.aload_n 0, 1) := by decide +kernel
theorem dX11_fewestSet_9 : decode cX11_fewestSet 9 = .ok (.getfield 67, 3) := by decide +kernel
theorem dX11_fewestSet_12 : decode cX11_fewestSet 12 = .ok (.aload_n 0, 1) := by decide +kernel
theorem dX11_fewestSet_13 : decode cX11_fewestSet 13 = .ok (.getfield 36, 3) := by decide +kernel
theorem dX11_fewestSet_16 : decode cX11_fewestSet 16 = .ok (.invokevirtual 322, 3) := by decide +kernel
theorem dX11_fewestSet_19 : decode cX11_fewestSet 19 = .ok (.invokevirtual 185, 3) := by decide +kernel
theorem dX11_fewestSet_22 : decode cX11_fewestSet 22 = .ok (.goto 9, 3) := by decide +kernel
theorem dX11_fewestSet_25 : decode cX11_fewestSet 25 = .ok (.aload_n 0, 1) := by decide +kernel
theorem dX11_fewestSet_26 : decode cX11_fewestSet 26 = .ok (.bipush 7, 2) := by decide +kernel
theorem dX11_fewestSet_28 : decode cX11_fewestSet 28 = .ok (.invokevirtual 124, 3) := by decide +kernel
theorem dX11_fewestSet_31 : decode cX11_fewestSet 31 = .ok (.ireturn, 1) := by decide +kernel
noncomputable def RC_fewestSet (σ : St) : Option (Int32 × St) :=
  bd2 (RC_sieved σ) (fun r2 σ3 => if r2 = 0 then (bd2 (RC_refuse σ3 7) (fun r5 σ6 => some (r5, σ6))) else (bd2 (Si_leastSet σ3 7) (fun r8 σ9 => bd2 (RC_answer σ9 r8) (fun r11 σ12 => some (r11, σ12)))))
set_option maxRecDepth 100000 in
set_option maxHeartbeats 4000000 in
theorem tm_RC_fewestSet {V : Ev} {Γ : Cn} {fin : Option Value × St} {σ : St} {o : (Int32 × St)} (X : Cx V Γ M_X11_fewestSet) {A : (Int32 × St) → Prop}  (hr : ∀ (r : Int32) (σ9 : St), A (r, σ9) → (some (.int r), σ9) = fin) (h : RC_fewestSet σ = some o) (hA : A o) : Go V Γ M_X11_fewestSet (Zm V Γ 5 fin) 0 [(0, .ref (V.2.2.1 + 0))] [] σ := by
  unfold RC_fewestSet at h
  refine g_aload_n (pc := 0) X 0 rfl dX11_fewestSet_0 ?_
  obtain ⟨r2, σ3, hc1, h⟩ := bd2_e h
  refine g_callV (pc := 1) X k_ml_X11_226 (run_RC_sieved  hc1) s_0 rfl (room_ok (Nat.le_of_ble_eq_true rfl) (Nat.le_of_ble_eq_true rfl)) ⟨Nat.le_refl _, Nat.le_refl _⟩ _ rfl (Nat.le_of_ble_eq_true rfl) dX11_fewestSet_1 ?_
  show Go V Γ M_X11_fewestSet (Zm V Γ 5 fin) 4 [(0, .ref (V.2.2.1 + 0))] [.int r2] σ3
  refine g_if_eq (pc := 4) (tgt := 25) X dX11_fewestSet_4 rfl (fun c13 => ?_) (fun c13 => ?_)
  · replace h := if_t c13 h
    refine g_aload_n (pc := 25) X 0 rfl dX11_fewestSet_25 ?_
    refine g_bipush (v := 7) (pc := 26) X (by decide) dX11_fewestSet_26 ?_
    obtain ⟨r5, σ6, hc4, h⟩ := bd2_e h
    refine g_callV (pc := 28) X k_ml_X11_124 (run_RC_refuse  hc4) s_0 rfl (room_ok (Nat.le_of_ble_eq_true rfl) (Nat.le_of_ble_eq_true rfl)) ⟨Nat.le_refl _, Nat.le_refl _⟩ _ rfl (Nat.le_of_ble_eq_true rfl) dX11_fewestSet_28 ?_
    show Go V Γ M_X11_fewestSet (Zm V Γ 5 fin) 31 [(0, .ref (V.2.2.1 + 0))] [.int r5] σ6
    cases h
    exact g_iret (pc := 31) X rfl rfl (hr _ _ hA) dX11_fewestSet_31
  · replace h := if_f c13 h
    refine g_aload_n (pc := 7) X 0 rfl dX11_fewestSet_7 ?_
    refine g_aload_n (pc := 8) X 0 rfl dX11_fewestSet_8 ?_
    refine g_getR (r := 31) (pc := 9) X k_fl_X11_67 s_0 rfl dX11_fewestSet_9 ?_
    refine g_aload_n (pc := 12) X 0 rfl dX11_fewestSet_12 ?_
    refine g_getR (r := 7) (pc := 13) X k_fl_X11_36 s_0 rfl dX11_fewestSet_13 ?_
    obtain ⟨r8, σ9, hc7, h⟩ := bd2_e h
    refine g_callV (pc := 16) X k_ml_X11_322 (run_Si_leastSet (oknCl_7) hc7) s_31 rfl (room_ok (Nat.le_of_ble_eq_true rfl) (Nat.le_of_ble_eq_true rfl)) ⟨Nat.le_refl _, Nat.le_refl _⟩ _ rfl (Nat.le_of_ble_eq_true rfl) dX11_fewestSet_16 ?_
    show Go V Γ M_X11_fewestSet (Zm V Γ 5 fin) 19 [(0, .ref (V.2.2.1 + 0))] [.int r8, .ref (V.2.2.1 + 0)] σ9
    obtain ⟨r11, σ12, hc10, h⟩ := bd2_e h
    refine g_callV (pc := 19) X k_ml_X11_185 (run_RC_answer  hc10) s_0 rfl (room_ok (Nat.le_of_ble_eq_true rfl) (Nat.le_of_ble_eq_true rfl)) ⟨Nat.le_refl _, Nat.le_refl _⟩ _ rfl (Nat.le_of_ble_eq_true rfl) dX11_fewestSet_19 ?_
    show Go V Γ M_X11_fewestSet (Zm V Γ 5 fin) 22 [(0, .ref (V.2.2.1 + 0))] [.int r11] σ12
    refine g_goto (pc := 22) (tgt := 31) X dX11_fewestSet_22 rfl ?_
    cases h
    exact g_iret (pc := 31) X rfl rfl (hr _ _ hA) dX11_fewestSet_31
set_option maxRecDepth 100000 in
theorem run_RC_fewestSet {V : Ev} {σ : St} {o : (Int32 × St)}   (h : RC_fewestSet σ = some o) : Rs V 5 M_X11_fewestSet [.ref (V.2.2.1 + 0)] σ (some (.int o.1), o.2) := by
  refine Rs.of (by decide +kernel) (Nat.le_of_ble_eq_true rfl) (fun Γ X => ?_)
  exact tm_RC_fewestSet X (A := fun o1 => o1 = o)  (fun _ _ e => by rw [← e]) h rfl
theorem dX11_meet_0 : decode cX11_meet 0 = .ok (.aload_n 0, 1) := by decide +kernel
theorem dX11_meet_1 : decode cX11_meet 1 = .ok (.getfield 36, 3) := by decide +kernel
theorem dX11_meet_4 : decode cX11_meet 4 = .ok (.iload_n 1, 1) := by decide +kernel
theorem dX11_meet_5 : decode cX11_meet 5 = .ok (.invokevirtual 235, 3) := by decide +kernel
theorem dX11_meet_8 : decode cX11_meet 8 = .ok (.ifCond .eq 19, 3) := by decide +kernel
theorem dX11_meet_11 : decode cX11_meet 11 = .ok (.aload_n 0, 1) := by decide +kernel
theorem dX11_meet_12 : decode cX11_meet 12 = .ok (.getfield 36, 3) := by decide +kernel
theorem dX11_meet_15 : decode cX11_meet 15 = .ok (.iload_n 2, 1) := by decide +kernel
theorem dX11_meet_16 : decode cX11_meet 16 = .ok (.invokevirtual 235, 3) := by decide +kernel
theorem dX11_meet_19 : decode cX11_meet 19 = .ok (.ifCond .eq 8, 3) := by decide +kernel
theorem dX11_meet_22 : decode cX11_meet 22 = .ok (.iload_n 1, 1) := by decide +kernel
theorem dX11_meet_23 : decode cX11_meet 23 = .ok (.iload_n 2, 1) := by decide +kernel
theorem dX11_meet_24 : decode cX11_meet 24 = .ok (.if_icmp .ne 9, 3) := by decide +kernel
theorem dX11_meet_27 : decode cX11_meet 27 = .ok (.aload_n 0, 1) := by decide +kernel
theorem dX11_meet_28 : decode cX11_meet 28 = .ok (.iconst 1, 1) := by decide +kernel
theorem dX11_meet_29 : decode cX11_meet 29 = .ok (.invokevirtual 124, 3) := by decide +kernel
theorem dX11_meet_32 : decode cX11_meet 32 = .ok (.ireturn, 1) := by decide +kernel
theorem dX11_meet_33 : decode cX11_meet 33 = .ok (.aload_n 0, 1) := by decide +kernel
theorem dX11_meet_34 : decode cX11_meet 34 = .ok (.aload_n 0, 1) := by decide +kernel
theorem dX11_meet_35 : decode cX11_meet 35 = .ok (.getfield 36, 3) := by decide +kernel
theorem dX11_meet_38 : decode cX11_meet 38 = .ok (.iload_n 1, 1) := by decide +kernel
theorem dX11_meet_39 : decode cX11_meet 39 = .ok (.iload_n 2, 1) := by decide +kernel
theorem dX11_meet_40 : decode cX11_meet 40 = .ok (.invokevirtual 330, 3) := by decide +kernel
theorem dX11_meet_43 : decode cX11_meet 43 = .ok (.invokevirtual 256, 3) := by decide +kernel
theorem dX11_meet_46 : decode cX11_meet 46 = .ok (.ireturn, 1) := by decide +kernel
noncomputable def RC_meet (σ : St) (p1 : Int32) (p2 : Int32) : Option (Int32 × St) :=
  bd (Cl_isThere σ 7 p1) (fun r2 => if r2 = 0 then (bd2 (RC_refuse σ 1) (fun r4 σ5 => some (r4, σ5))) else (bd (Cl_isThere σ 7 p2) (fun r7 => if r7 = 0 then (bd2 (RC_refuse σ 1) (fun r9 σ10 => some (r9, σ10))) else (if p1 = p2 then (bd2 (RC_refuse σ 1) (fun r17 σ18 => some (r17, σ18))) else (bd (Cl_leastOfBoth σ 7 p1 p2) (fun r12 => bd2 (RC_answerOrNone σ r12) (fun r14 σ15 => some (r14, σ15))))))))
set_option maxRecDepth 100000 in
set_option maxHeartbeats 4000000 in
theorem tm_RC_meet {V : Ev} {Γ : Cn} {fin : Option Value × St} {σ : St} {p1 : Int32} {p2 : Int32} {o : (Int32 × St)} (X : Cx V Γ M_X11_meet) {A : (Int32 × St) → Prop}  (hr : ∀ (r : Int32) (σ9 : St), A (r, σ9) → (some (.int r), σ9) = fin) (h : RC_meet σ p1 p2 = some o) (hA : A o) : Go V Γ M_X11_meet (Zm V Γ 3 fin) 0 [(0, .ref (V.2.2.1 + 0)), (1, .int p1), (2, .int p2)] [] σ := by
  unfold RC_meet at h
  refine g_aload_n (pc := 0) X 0 rfl dX11_meet_0 ?_
  refine g_getR (r := 7) (pc := 1) X k_fl_X11_36 s_0 rfl dX11_meet_1 ?_
  refine g_iload_n (pc := 4) X 1 rfl dX11_meet_4 ?_
  obtain ⟨r2, hc1, h⟩ := bd_e h
  refine g_callV (pc := 5) X k_ml_X11_235 (run_Cl_isThere (oknCl_7) hc1) s_7 rfl (room_ok (Nat.le_of_ble_eq_true rfl) (Nat.le_of_ble_eq_true rfl)) ⟨Nat.le_refl _, Nat.le_refl _⟩ _ rfl (Nat.le_of_ble_eq_true rfl) dX11_meet_5 ?_
  show Go V Γ M_X11_meet (Zm V Γ 3 fin) 8 [(0, .ref (V.2.2.1 + 0)), (1, .int p1), (2, .int p2)] [.int r2] σ
  refine g_if_eq (pc := 8) (tgt := 27) X dX11_meet_8 rfl (fun c21 => ?_) (fun c21 => ?_)
  · replace h := if_t c21 h
    refine g_aload_n (pc := 27) X 0 rfl dX11_meet_27 ?_
    refine g_iconst (v := 1) (pc := 28) X rfl dX11_meet_28 ?_
    obtain ⟨r4, σ5, hc3, h⟩ := bd2_e h
    refine g_callV (pc := 29) X k_ml_X11_124 (run_RC_refuse  hc3) s_0 rfl (room_ok (Nat.le_of_ble_eq_true rfl) (Nat.le_of_ble_eq_true rfl)) ⟨Nat.le_refl _, Nat.le_refl _⟩ _ rfl (Nat.le_of_ble_eq_true rfl) dX11_meet_29 ?_
    show Go V Γ M_X11_meet (Zm V Γ 3 fin) 32 [(0, .ref (V.2.2.1 + 0)), (1, .int p1), (2, .int p2)] [.int r4] σ5
    cases h
    exact g_iret (pc := 32) X rfl rfl (hr _ _ hA) dX11_meet_32
  · replace h := if_f c21 h
    refine g_aload_n (pc := 11) X 0 rfl dX11_meet_11 ?_
    refine g_getR (r := 7) (pc := 12) X k_fl_X11_36 s_0 rfl dX11_meet_12 ?_
    refine g_iload_n (pc := 15) X 2 rfl dX11_meet_15 ?_
    obtain ⟨r7, hc6, h⟩ := bd_e h
    refine g_callV (pc := 16) X k_ml_X11_235 (run_Cl_isThere (oknCl_7) hc6) s_7 rfl (room_ok (Nat.le_of_ble_eq_true rfl) (Nat.le_of_ble_eq_true rfl)) ⟨Nat.le_refl _, Nat.le_refl _⟩ _ rfl (Nat.le_of_ble_eq_true rfl) dX11_meet_16 ?_
    show Go V Γ M_X11_meet (Zm V Γ 3 fin) 19 [(0, .ref (V.2.2.1 + 0)), (1, .int p1), (2, .int p2)] [.int r7] σ
    refine g_if_eq (pc := 19) (tgt := 27) X dX11_meet_19 rfl (fun c20 => ?_) (fun c20 => ?_)
    · replace h := if_t c20 h
      refine g_aload_n (pc := 27) X 0 rfl dX11_meet_27 ?_
      refine g_iconst (v := 1) (pc := 28) X rfl dX11_meet_28 ?_
      obtain ⟨r9, σ10, hc8, h⟩ := bd2_e h
      refine g_callV (pc := 29) X k_ml_X11_124 (run_RC_refuse  hc8) s_0 rfl (room_ok (Nat.le_of_ble_eq_true rfl) (Nat.le_of_ble_eq_true rfl)) ⟨Nat.le_refl _, Nat.le_refl _⟩ _ rfl (Nat.le_of_ble_eq_true rfl) dX11_meet_29 ?_
      show Go V Γ M_X11_meet (Zm V Γ 3 fin) 32 [(0, .ref (V.2.2.1 + 0)), (1, .int p1), (2, .int p2)] [.int r9] σ10
      cases h
      exact g_iret (pc := 32) X rfl rfl (hr _ _ hA) dX11_meet_32
    · replace h := if_f c20 h
      refine g_iload_n (pc := 22) X 1 rfl dX11_meet_22 ?_
      refine g_iload_n (pc := 23) X 2 rfl dX11_meet_23 ?_
      refine g_icmp_ne (pc := 24) (tgt := 33) X dX11_meet_24 rfl (fun c19 => ?_) (fun c19 => ?_)
      · replace h := if_f c19 h
        refine g_aload_n (pc := 33) X 0 rfl dX11_meet_33 ?_
        refine g_aload_n (pc := 34) X 0 rfl dX11_meet_34 ?_
        refine g_getR (r := 7) (pc := 35) X k_fl_X11_36 s_0 rfl dX11_meet_35 ?_
        refine g_iload_n (pc := 38) X 1 rfl dX11_meet_38 ?_
        refine g_iload_n (pc := 39) X 2 rfl dX11_meet_39 ?_
        obtain ⟨r12, hc11, h⟩ := bd_e h
        refine g_callV (pc := 40) X k_ml_X11_330 (run_Cl_leastOfBoth (oknCl_7) hc11) s_7 rfl (room_ok (Nat.le_of_ble_eq_true rfl) (Nat.le_of_ble_eq_true rfl)) ⟨Nat.le_refl _, Nat.le_refl _⟩ _ rfl (Nat.le_of_ble_eq_true rfl) dX11_meet_40 ?_
        show Go V Γ M_X11_meet (Zm V Γ 3 fin) 43 [(0, .ref (V.2.2.1 + 0)), (1, .int p1), (2, .int p2)] [.int r12, .ref (V.2.2.1 + 0)] σ
        obtain ⟨r14, σ15, hc13, h⟩ := bd2_e h
        refine g_callV (pc := 43) X k_ml_X11_256 (run_RC_answerOrNone  hc13) s_0 rfl (room_ok (Nat.le_of_ble_eq_true rfl) (Nat.le_of_ble_eq_true rfl)) ⟨Nat.le_refl _, Nat.le_refl _⟩ _ rfl (Nat.le_of_ble_eq_true rfl) dX11_meet_43 ?_
        show Go V Γ M_X11_meet (Zm V Γ 3 fin) 46 [(0, .ref (V.2.2.1 + 0)), (1, .int p1), (2, .int p2)] [.int r14] σ15
        cases h
        exact g_iret (pc := 46) X rfl rfl (hr _ _ hA) dX11_meet_46
      · replace h := if_t c19 h
        refine g_aload_n (pc := 27) X 0 rfl dX11_meet_27 ?_
        refine g_iconst (v := 1) (pc := 28) X rfl dX11_meet_28 ?_
        obtain ⟨r17, σ18, hc16, h⟩ := bd2_e h
        refine g_callV (pc := 29) X k_ml_X11_124 (run_RC_refuse  hc16) s_0 rfl (room_ok (Nat.le_of_ble_eq_true rfl) (Nat.le_of_ble_eq_true rfl)) ⟨Nat.le_refl _, Nat.le_refl _⟩ _ rfl (Nat.le_of_ble_eq_true rfl) dX11_meet_29 ?_
        show Go V Γ M_X11_meet (Zm V Γ 3 fin) 32 [(0, .ref (V.2.2.1 + 0)), (1, .int p1), (2, .int p2)] [.int r17] σ18
        cases h
        exact g_iret (pc := 32) X rfl rfl (hr _ _ hA) dX11_meet_32
set_option maxRecDepth 100000 in
theorem run_RC_meet {V : Ev} {σ : St} {p1 : Int32} {p2 : Int32} {o : (Int32 × St)}   (h : RC_meet σ p1 p2 = some o) : Rs V 3 M_X11_meet [.ref (V.2.2.1 + 0), .int p1, .int p2] σ (some (.int o.1), o.2) := by
  refine Rs.of (by decide +kernel) (Nat.le_of_ble_eq_true rfl) (fun Γ X => ?_)
  exact tm_RC_meet X (A := fun o1 => o1 = o)  (fun _ _ e => by rw [← e]) h rfl
theorem dX11_thick_0 : decode cX11_thick 0 = .ok (.aload_n 0, 1) := by decide +kernel
theorem dX11_thick_1 : decode cX11_thick 1 = .ok (.invokevirtual 226, 3) := by decide +kernel
theorem dX11_thick_4 : decode cX11_thick 4 = .ok (.ifCond .eq 31, 3) := by decide +kernel
theorem dX11_thick_7 : decode cX11_thick 7 = .ok (.aload_n 0, 1) := by decide +kernel
theorem dX11_thick_8 : decode cX11_thick 8 = .ok (.aload_n 0, 1) := by decide +kernel
theorem dX11_thick_9 : decode cX11_thick 9 = .ok (.getfield 36, 3) := by decide +kernel
theorem dX11_thick_12 : decode cX11_thick 12 = .ok (.aload_n 0, 1) := by decide +kernel
theorem dX11_thick_13 : decode cX11_thick 13 = .ok (.getfield 67, 3) := by decide +kernel
theorem dX11_thick_16 : decode cX11_thick 16 = .ok (.aload_n 0, 1) := by decide +kernel
theorem dX11_thick_17 : decode cX11_thick 17 = .ok (.getfield 36, 3) := by decide +kernel
theorem dX11_thick_20 : decode cX11_thick 20 = .ok (.invokevirtual 333, 3) := by decide +kernel
theorem dX11_thick_23 : decode cX11_thick 23 = .ok (.invokevirtual 250, 3) := by decide +kernel
theorem dX11_thick_26 : decode cX11_thick 26 = .ok (.invokestatic 325, 3) := by decide +kernel
theorem dX11_thick_29 : decode cX11_thick 29 = .ok (.invokevirtual 185, 3) := by decide +kernel
theorem dX11_thick_32 : decode cX11_thick 32 = .ok (.goto 9, 3) := by decide +kernel
theorem dX11_thick_35 : decode cX11_thick 35 = .ok (.aload_n 0, 1) := by decide +kernel
theorem dX11_thick_36 : decode cX11_thick 36 = .ok (.bipush 7, 2) := by decide +kernel
theorem dX11_thick_38 : decode cX11_thick 38 = .ok (.invokevirtual 124, 3) := by decide +kernel
theorem dX11_thick_41 : decode cX11_thick 41 = .ok (.ireturn, 1) := by decide +kernel
noncomputable def RC_thick (σ : St) : Option (Int32 × St) :=
  bd2 (RC_sieved σ) (fun r2 σ3 => if r2 = 0 then (bd2 (RC_refuse σ3 7) (fun r5 σ6 => some (r5, σ6))) else (bd (Si_thickestNumber σ3 7) (fun r8 => bd (Cl_catchers σ3 7 r8) (fun r10 => bd (JI_bitCount_0f7a4 r10) (fun r12 => bd2 (RC_answer σ3 r12) (fun r14 σ15 => some (r14, σ15)))))))
set_option maxRecDepth 100000 in
set_option maxHeartbeats 4000000 in
theorem tm_RC_thick {V : Ev} {Γ : Cn} {fin : Option Value × St} {σ : St} {o : (Int32 × St)} (X : Cx V Γ M_X11_thick) {A : (Int32 × St) → Prop}  (hr : ∀ (r : Int32) (σ9 : St), A (r, σ9) → (some (.int r), σ9) = fin) (h : RC_thick σ = some o) (hA : A o) : Go V Γ M_X11_thick (Zm V Γ 5 fin) 0 [(0, .ref (V.2.2.1 + 0))] [] σ := by
  unfold RC_thick at h
  refine g_aload_n (pc := 0) X 0 rfl dX11_thick_0 ?_
  obtain ⟨r2, σ3, hc1, h⟩ := bd2_e h
  refine g_callV (pc := 1) X k_ml_X11_226 (run_RC_sieved  hc1) s_0 rfl (room_ok (Nat.le_of_ble_eq_true rfl) (Nat.le_of_ble_eq_true rfl)) ⟨Nat.le_refl _, Nat.le_refl _⟩ _ rfl (Nat.le_of_ble_eq_true rfl) dX11_thick_1 ?_
  show Go V Γ M_X11_thick (Zm V Γ 5 fin) 4 [(0, .ref (V.2.2.1 + 0))] [.int r2] σ3
  refine g_if_eq (pc := 4) (tgt := 35) X dX11_thick_4 rfl (fun c16 => ?_) (fun c16 => ?_)
  · replace h := if_t c16 h
    refine g_aload_n (pc := 35) X 0 rfl dX11_thick_35 ?_
    refine g_bipush (v := 7) (pc := 36) X (by decide) dX11_thick_36 ?_
    obtain ⟨r5, σ6, hc4, h⟩ := bd2_e h
    refine g_callV (pc := 38) X k_ml_X11_124 (run_RC_refuse  hc4) s_0 rfl (room_ok (Nat.le_of_ble_eq_true rfl) (Nat.le_of_ble_eq_true rfl)) ⟨Nat.le_refl _, Nat.le_refl _⟩ _ rfl (Nat.le_of_ble_eq_true rfl) dX11_thick_38 ?_
    show Go V Γ M_X11_thick (Zm V Γ 5 fin) 41 [(0, .ref (V.2.2.1 + 0))] [.int r5] σ6
    cases h
    exact g_iret (pc := 41) X rfl rfl (hr _ _ hA) dX11_thick_41
  · replace h := if_f c16 h
    refine g_aload_n (pc := 7) X 0 rfl dX11_thick_7 ?_
    refine g_aload_n (pc := 8) X 0 rfl dX11_thick_8 ?_
    refine g_getR (r := 7) (pc := 9) X k_fl_X11_36 s_0 rfl dX11_thick_9 ?_
    refine g_aload_n (pc := 12) X 0 rfl dX11_thick_12 ?_
    refine g_getR (r := 31) (pc := 13) X k_fl_X11_67 s_0 rfl dX11_thick_13 ?_
    refine g_aload_n (pc := 16) X 0 rfl dX11_thick_16 ?_
    refine g_getR (r := 7) (pc := 17) X k_fl_X11_36 s_0 rfl dX11_thick_17 ?_
    obtain ⟨r8, hc7, h⟩ := bd_e h
    refine g_callV (pc := 20) X k_ml_X11_333 (run_Si_thickestNumber (oknCl_7) hc7) s_31 rfl (room_ok (Nat.le_of_ble_eq_true rfl) (Nat.le_of_ble_eq_true rfl)) ⟨Nat.le_refl _, Nat.le_refl _⟩ _ rfl (Nat.le_of_ble_eq_true rfl) dX11_thick_20 ?_
    show Go V Γ M_X11_thick (Zm V Γ 5 fin) 23 [(0, .ref (V.2.2.1 + 0))] [.int r8, .ref (V.2.2.1 + 7), .ref (V.2.2.1 + 0)] σ3
    obtain ⟨r10, hc9, h⟩ := bd_e h
    refine g_callV (pc := 23) X k_ml_X11_250 (run_Cl_catchers (oknCl_7) hc9) s_7 rfl (room_ok (Nat.le_of_ble_eq_true rfl) (Nat.le_of_ble_eq_true rfl)) ⟨Nat.le_refl _, Nat.le_refl _⟩ _ rfl (Nat.le_of_ble_eq_true rfl) dX11_thick_23 ?_
    show Go V Γ M_X11_thick (Zm V Γ 5 fin) 26 [(0, .ref (V.2.2.1 + 0))] [.int r10, .ref (V.2.2.1 + 0)] σ3
    obtain ⟨r12, hc11, h⟩ := bd_e h
    refine g_callS (pc := 26) X k_ml_X11_325 (run_JI_bitCount_0f7a4  hc11) rfl (room_ok (Nat.le_of_ble_eq_true rfl) (Nat.le_of_ble_eq_true rfl)) ⟨Nat.le_refl _, Nat.le_refl _⟩ _ rfl (Nat.le_of_ble_eq_true rfl) dX11_thick_26 ?_
    show Go V Γ M_X11_thick (Zm V Γ 5 fin) 29 [(0, .ref (V.2.2.1 + 0))] [.int r12, .ref (V.2.2.1 + 0)] σ3
    obtain ⟨r14, σ15, hc13, h⟩ := bd2_e h
    refine g_callV (pc := 29) X k_ml_X11_185 (run_RC_answer  hc13) s_0 rfl (room_ok (Nat.le_of_ble_eq_true rfl) (Nat.le_of_ble_eq_true rfl)) ⟨Nat.le_refl _, Nat.le_refl _⟩ _ rfl (Nat.le_of_ble_eq_true rfl) dX11_thick_29 ?_
    show Go V Γ M_X11_thick (Zm V Γ 5 fin) 32 [(0, .ref (V.2.2.1 + 0))] [.int r14] σ15
    refine g_goto (pc := 32) (tgt := 41) X dX11_thick_32 rfl ?_
    cases h
    exact g_iret (pc := 41) X rfl rfl (hr _ _ hA) dX11_thick_41
set_option maxRecDepth 100000 in
theorem run_RC_thick {V : Ev} {σ : St} {o : (Int32 × St)}   (h : RC_thick σ = some o) : Rs V 5 M_X11_thick [.ref (V.2.2.1 + 0)] σ (some (.int o.1), o.2) := by
  refine Rs.of (by decide +kernel) (Nat.le_of_ble_eq_true rfl) (fun Γ X => ?_)
  exact tm_RC_thick X (A := fun o1 => o1 = o)  (fun _ _ e => by rw [← e]) h rfl
theorem dX11_ask_0 : decode cX11_ask 0 = .ok (.aload_n 0, 1) := by decide +kernel
theorem dX11_ask_1 : decode cX11_ask 1 = .ok (.invokevirtual 226, 3) := by decide +kernel
theorem dX11_ask_4 : decode cX11_ask 4 = .ok (.ifCond .ne 10, 3) := by decide +kernel
theorem dX11_ask_7 : decode cX11_ask 7 = .ok (.aload_n 0, 1) := by decide +kernel
theorem dX11_ask_8 : decode cX11_ask 8 = .ok (.bipush 7, 2) := by decide +kernel
theorem dX11_ask_10 : decode cX11_ask 10 = .ok (.invokevirtual 124, 3) := by decide +kernel
theorem dX11_ask_13 : decode cX11_ask 13 = .ok (.ireturn, 1) := by decide +kernel
theorem dX11_ask_14 : decode cX11_ask 14 = .ok (.aload_n 0, 1) := by decide +kernel
theorem dX11_ask_15 : decode cX11_ask 15 = .ok (.getfield 36, 3) := by decide +kernel
theorem dX11_ask_18 : decode cX11_ask 18 = .ok (.getfield 213, 3) := by decide +kernel
theorem dX11_ask_21 : decode cX11_ask 21 = .ok (.ifCond .ne 12, 3) := by decide +kernel
theorem dX11_ask_24 : decode cX11_ask 24 = .ok (.aload_n 0, 1) := by decide +kernel
theorem dX11_ask_25 : decode cX11_ask 25 = .ok (.bipush 6, 2) := by decide +kernel
theorem dX11_ask_27 : decode cX11_ask 27 = .ok (.invokevirtual 124, 3) := by decide +kernel
theorem dX11_ask_30 : decode cX11_ask 30 = .ok (.goto 18, 3) := by decide +kernel
theorem dX11_ask_33 : decode cX11_ask 33 = .ok (.aload_n 0, 1) := by decide +kernel
theorem dX11_ask_34 : decode cX11_ask 34 = .ok (.aload_n 0, 1) := by decide +kernel
theorem dX11_ask_35 : decode cX11_ask 35 = .ok (.getfield 67, 3) := by decide +kernel
theorem dX11_ask_38 : decode cX11_ask 38 = .ok (.aload_n 0, 1) := by decide +kernel
theorem dX11_ask_39 : decode cX11_ask 39 = .ok (.getfield 36, 3) := by decide +kernel
theorem dX11_ask_42 : decode cX11_ask 42 = .ok (.invokevirtual 333, 3) := by decide +kernel
theorem dX11_ask_45 : decode cX11_ask 45 = .ok (.invokevirtual 185, 3) := by decide +kernel
theorem dX11_ask_48 : decode cX11_ask 48 = .ok (.ireturn, 1) := by decide +kernel
noncomputable def RC_ask (σ : St) : Option (Int32 × St) :=
  bd2 (RC_sieved σ) (fun r2 σ3 => if r2 = 0 then (bd2 (RC_refuse σ3 7) (fun r14 σ15 => some (r14, σ15))) else (if (σ3.1 7 4) = 0 then (bd2 (RC_refuse σ3 6) (fun r10 σ11 => some (r10, σ11))) else (bd (Si_thickestNumber σ3 7) (fun r5 => bd2 (RC_answer σ3 r5) (fun r7 σ8 => some (r7, σ8))))))
set_option maxRecDepth 100000 in
set_option maxHeartbeats 4000000 in
theorem tm_RC_ask {V : Ev} {Γ : Cn} {fin : Option Value × St} {σ : St} {o : (Int32 × St)} (X : Cx V Γ M_X11_ask) {A : (Int32 × St) → Prop}  (hr : ∀ (r : Int32) (σ9 : St), A (r, σ9) → (some (.int r), σ9) = fin) (h : RC_ask σ = some o) (hA : A o) : Go V Γ M_X11_ask (Zm V Γ 5 fin) 0 [(0, .ref (V.2.2.1 + 0))] [] σ := by
  unfold RC_ask at h
  refine g_aload_n (pc := 0) X 0 rfl dX11_ask_0 ?_
  obtain ⟨r2, σ3, hc1, h⟩ := bd2_e h
  refine g_callV (pc := 1) X k_ml_X11_226 (run_RC_sieved  hc1) s_0 rfl (room_ok (Nat.le_of_ble_eq_true rfl) (Nat.le_of_ble_eq_true rfl)) ⟨Nat.le_refl _, Nat.le_refl _⟩ _ rfl (Nat.le_of_ble_eq_true rfl) dX11_ask_1 ?_
  show Go V Γ M_X11_ask (Zm V Γ 5 fin) 4 [(0, .ref (V.2.2.1 + 0))] [.int r2] σ3
  refine g_if_ne (pc := 4) (tgt := 14) X dX11_ask_4 rfl (fun c16 => ?_) (fun c16 => ?_)
  · replace h := if_f c16 h
    refine g_aload_n (pc := 14) X 0 rfl dX11_ask_14 ?_
    refine g_getR (r := 7) (pc := 15) X k_fl_X11_36 s_0 rfl dX11_ask_15 ?_
    refine g_getI (pc := 18) X k_fl_X11_213 s_7 rfl dX11_ask_18 ?_
    refine g_if_ne (pc := 21) (tgt := 33) X dX11_ask_21 rfl (fun c12 => ?_) (fun c12 => ?_)
    · replace h := if_f c12 h
      refine g_aload_n (pc := 33) X 0 rfl dX11_ask_33 ?_
      refine g_aload_n (pc := 34) X 0 rfl dX11_ask_34 ?_
      refine g_getR (r := 31) (pc := 35) X k_fl_X11_67 s_0 rfl dX11_ask_35 ?_
      refine g_aload_n (pc := 38) X 0 rfl dX11_ask_38 ?_
      refine g_getR (r := 7) (pc := 39) X k_fl_X11_36 s_0 rfl dX11_ask_39 ?_
      obtain ⟨r5, hc4, h⟩ := bd_e h
      refine g_callV (pc := 42) X k_ml_X11_333 (run_Si_thickestNumber (oknCl_7) hc4) s_31 rfl (room_ok (Nat.le_of_ble_eq_true rfl) (Nat.le_of_ble_eq_true rfl)) ⟨Nat.le_refl _, Nat.le_refl _⟩ _ rfl (Nat.le_of_ble_eq_true rfl) dX11_ask_42 ?_
      show Go V Γ M_X11_ask (Zm V Γ 5 fin) 45 [(0, .ref (V.2.2.1 + 0))] [.int r5, .ref (V.2.2.1 + 0)] σ3
      obtain ⟨r7, σ8, hc6, h⟩ := bd2_e h
      refine g_callV (pc := 45) X k_ml_X11_185 (run_RC_answer  hc6) s_0 rfl (room_ok (Nat.le_of_ble_eq_true rfl) (Nat.le_of_ble_eq_true rfl)) ⟨Nat.le_refl _, Nat.le_refl _⟩ _ rfl (Nat.le_of_ble_eq_true rfl) dX11_ask_45 ?_
      show Go V Γ M_X11_ask (Zm V Γ 5 fin) 48 [(0, .ref (V.2.2.1 + 0))] [.int r7] σ8
      cases h
      exact g_iret (pc := 48) X rfl rfl (hr _ _ hA) dX11_ask_48
    · replace h := if_t c12 h
      refine g_aload_n (pc := 24) X 0 rfl dX11_ask_24 ?_
      refine g_bipush (v := 6) (pc := 25) X (by decide) dX11_ask_25 ?_
      obtain ⟨r10, σ11, hc9, h⟩ := bd2_e h
      refine g_callV (pc := 27) X k_ml_X11_124 (run_RC_refuse  hc9) s_0 rfl (room_ok (Nat.le_of_ble_eq_true rfl) (Nat.le_of_ble_eq_true rfl)) ⟨Nat.le_refl _, Nat.le_refl _⟩ _ rfl (Nat.le_of_ble_eq_true rfl) dX11_ask_27 ?_
      show Go V Γ M_X11_ask (Zm V Γ 5 fin) 30 [(0, .ref (V.2.2.1 + 0))] [.int r10] σ11
      refine g_goto (pc := 30) (tgt := 48) X dX11_ask_30 rfl ?_
      cases h
      exact g_iret (pc := 48) X rfl rfl (hr _ _ hA) dX11_ask_48
  · replace h := if_t c16 h
    refine g_aload_n (pc := 7) X 0 rfl dX11_ask_7 ?_
    refine g_bipush (v := 7) (pc := 8) X (by decide) dX11_ask_8 ?_
    obtain ⟨r14, σ15, hc13, h⟩ := bd2_e h
    refine g_callV (pc := 10) X k_ml_X11_124 (run_RC_refuse  hc13) s_0 rfl (room_ok (Nat.le_of_ble_eq_true rfl) (Nat.le_of_ble_eq_true rfl)) ⟨Nat.le_refl _, Nat.le_refl _⟩ _ rfl (Nat.le_of_ble_eq_true rfl) dX11_ask_10 ?_
    show Go V Γ M_X11_ask (Zm V Γ 5 fin) 13 [(0, .ref (V.2.2.1 + 0))] [.int r14] σ15
    cases h
    exact g_iret (pc := 13) X rfl rfl (hr _ _ hA) dX11_ask_13
set_option maxRecDepth 100000 in
theorem run_RC_ask {V : Ev} {σ : St} {o : (Int32 × St)}   (h : RC_ask σ = some o) : Rs V 5 M_X11_ask [.ref (V.2.2.1 + 0)] σ (some (.int o.1), o.2) := by
  refine Rs.of (by decide +kernel) (Nat.le_of_ble_eq_true rfl) (fun Γ X => ?_)
  exact tm_RC_ask X (A := fun o1 => o1 = o)  (fun _ _ e => by rw [← e]) h rfl
theorem dX11_turnsBy_0 : decode cX11_turnsBy 0 = .ok (.aload_n 0, 1) := by decide +kernel
theorem dX11_turnsBy_1 : decode cX11_turnsBy 1 = .ok (.invokevirtual 226, 3) := by decide +kernel
theorem dX11_turnsBy_4 : decode cX11_turnsBy 4 = .ok (.ifCond .eq 17, 3) := by decide +kernel
theorem dX11_turnsBy_7 : decode cX11_turnsBy 7 = .ok (.aload_n 0, 1) := by decide +kernel
theorem dX11_turnsBy_8 : decode cX11_turnsBy 8 = .ok (.aload_n 0, 1) := by decide +kernel
theorem dX11_turnsBy_9 : decode cX11_turnsBy 9 = .ok (.getfield 67, 3) := by decide +kernel
theorem dX11_turnsBy_12 : decode cX11_turnsBy 12 = .ok (.invokevirtual 336, 3) := by decide +kernel
theorem dX11_turnsBy_15 : decode cX11_turnsBy 15 = .ok (.invokevirtual 185, 3) := by decide +kernel
theorem dX11_turnsBy_18 : decode cX11_turnsBy 18 = .ok (.goto 9, 3) := by decide +kernel
theorem dX11_turnsBy_21 : decode cX11_turnsBy 21 = .ok (.aload_n 0, 1) := by decide +kernel
theorem dX11_turnsBy_22 : decode cX11_turnsBy 22 = .ok (.bipush 7, 2) := by decide +kernel
theorem dX11_turnsBy_24 : decode cX11_turnsBy 24 = .ok (.invokevirtual 124, 3) := by decide +kernel
theorem dX11_turnsBy_27 : decode cX11_turnsBy 27 = .ok (.ireturn, 1) := by decide +kernel
noncomputable def RC_turnsBy (σ : St) : Option (Int32 × St) :=
  bd2 (RC_sieved σ) (fun r2 σ3 => if r2 = 0 then (bd2 (RC_refuse σ3 7) (fun r5 σ6 => some (r5, σ6))) else (bd (Si_leastTurn σ3) (fun r8 => bd2 (RC_answer σ3 r8) (fun r10 σ11 => some (r10, σ11)))))
set_option maxRecDepth 100000 in
set_option maxHeartbeats 4000000 in
theorem tm_RC_turnsBy {V : Ev} {Γ : Cn} {fin : Option Value × St} {σ : St} {o : (Int32 × St)} (X : Cx V Γ M_X11_turnsBy) {A : (Int32 × St) → Prop}  (hr : ∀ (r : Int32) (σ9 : St), A (r, σ9) → (some (.int r), σ9) = fin) (h : RC_turnsBy σ = some o) (hA : A o) : Go V Γ M_X11_turnsBy (Zm V Γ 5 fin) 0 [(0, .ref (V.2.2.1 + 0))] [] σ := by
  unfold RC_turnsBy at h
  refine g_aload_n (pc := 0) X 0 rfl dX11_turnsBy_0 ?_
  obtain ⟨r2, σ3, hc1, h⟩ := bd2_e h
  refine g_callV (pc := 1) X k_ml_X11_226 (run_RC_sieved  hc1) s_0 rfl (room_ok (Nat.le_of_ble_eq_true rfl) (Nat.le_of_ble_eq_true rfl)) ⟨Nat.le_refl _, Nat.le_refl _⟩ _ rfl (Nat.le_of_ble_eq_true rfl) dX11_turnsBy_1 ?_
  show Go V Γ M_X11_turnsBy (Zm V Γ 5 fin) 4 [(0, .ref (V.2.2.1 + 0))] [.int r2] σ3
  refine g_if_eq (pc := 4) (tgt := 21) X dX11_turnsBy_4 rfl (fun c12 => ?_) (fun c12 => ?_)
  · replace h := if_t c12 h
    refine g_aload_n (pc := 21) X 0 rfl dX11_turnsBy_21 ?_
    refine g_bipush (v := 7) (pc := 22) X (by decide) dX11_turnsBy_22 ?_
    obtain ⟨r5, σ6, hc4, h⟩ := bd2_e h
    refine g_callV (pc := 24) X k_ml_X11_124 (run_RC_refuse  hc4) s_0 rfl (room_ok (Nat.le_of_ble_eq_true rfl) (Nat.le_of_ble_eq_true rfl)) ⟨Nat.le_refl _, Nat.le_refl _⟩ _ rfl (Nat.le_of_ble_eq_true rfl) dX11_turnsBy_24 ?_
    show Go V Γ M_X11_turnsBy (Zm V Γ 5 fin) 27 [(0, .ref (V.2.2.1 + 0))] [.int r5] σ6
    cases h
    exact g_iret (pc := 27) X rfl rfl (hr _ _ hA) dX11_turnsBy_27
  · replace h := if_f c12 h
    refine g_aload_n (pc := 7) X 0 rfl dX11_turnsBy_7 ?_
    refine g_aload_n (pc := 8) X 0 rfl dX11_turnsBy_8 ?_
    refine g_getR (r := 31) (pc := 9) X k_fl_X11_67 s_0 rfl dX11_turnsBy_9 ?_
    obtain ⟨r8, hc7, h⟩ := bd_e h
    refine g_callV (pc := 12) X k_ml_X11_336 (run_Si_leastTurn  hc7) s_31 rfl (room_ok (Nat.le_of_ble_eq_true rfl) (Nat.le_of_ble_eq_true rfl)) ⟨Nat.le_refl _, Nat.le_refl _⟩ _ rfl (Nat.le_of_ble_eq_true rfl) dX11_turnsBy_12 ?_
    show Go V Γ M_X11_turnsBy (Zm V Γ 5 fin) 15 [(0, .ref (V.2.2.1 + 0))] [.int r8, .ref (V.2.2.1 + 0)] σ3
    obtain ⟨r10, σ11, hc9, h⟩ := bd2_e h
    refine g_callV (pc := 15) X k_ml_X11_185 (run_RC_answer  hc9) s_0 rfl (room_ok (Nat.le_of_ble_eq_true rfl) (Nat.le_of_ble_eq_true rfl)) ⟨Nat.le_refl _, Nat.le_refl _⟩ _ rfl (Nat.le_of_ble_eq_true rfl) dX11_turnsBy_15 ?_
    show Go V Γ M_X11_turnsBy (Zm V Γ 5 fin) 18 [(0, .ref (V.2.2.1 + 0))] [.int r10] σ11
    refine g_goto (pc := 18) (tgt := 27) X dX11_turnsBy_18 rfl ?_
    cases h
    exact g_iret (pc := 27) X rfl rfl (hr _ _ hA) dX11_turnsBy_27
set_option maxRecDepth 100000 in
theorem run_RC_turnsBy {V : Ev} {σ : St} {o : (Int32 × St)}   (h : RC_turnsBy σ = some o) : Rs V 5 M_X11_turnsBy [.ref (V.2.2.1 + 0)] σ (some (.int o.1), o.2) := by
  refine Rs.of (by decide +kernel) (Nat.le_of_ble_eq_true rfl) (fun Γ X => ?_)
  exact tm_RC_turnsBy X (A := fun o1 => o1 = o)  (fun _ _ e => by rw [← e]) h rfl
theorem dX11_tree_0 : decode cX11_tree 0 = .ok (.iload_n 1, 1) := by decide +kernel
theorem dX11_tree_1 : decode cX11_tree 1 = .ok (.i2l, 1) := by decide +kernel
theorem dX11_tree_2 : decode cX11_tree 2 = .ok (.lconst 0, 1) := by decide +kernel
theorem dX11_tree_3 : decode cX11_tree 3 = .ok (.ldc2_w 96, 3) := by decide +kernel
theorem dX11_tree_6 : decode cX11_tree 6 = .ok (.invokestatic 98, 3) := by decide +kernel
theorem dX11_tree_9 : decode cX11_tree 9 = .ok (.ifCond .ne 9, 3) := by decide +kernel
theorem dX11_tree_12 : decode cX11_tree 12 = .ok (.aload_n 0, 1) := by decide +kernel
theorem dX11_tree_13 : decode cX11_tree 13 = .ok (.iconst 1, 1) := by decide +kernel
theorem dX11_tree_14 : decode cX11_tree 14 = .ok (.invokevirtual 124, 3) := by decide +kernel
theorem dX11_tree_17 : decode cX11_tree 17 = .ok (.ireturn, 1) := by decide +kernel
theorem dX11_tree_18 : decode cX11_tree 18 = .ok (.aload_n 0, 1) := by decide +kernel
theorem dX11_tree_19 : decode cX11_tree 19 = .ok (.getfield 36, 3) := by decide +kernel
theorem dX11_tree_22 : decode cX11_tree 22 = .ok (.aload_n 0, 1) := by decide +kernel
theorem dX11_tree_23 : decode cX11_tree 23 = .ok (.getfield 36, 3) := by decide +kernel
theorem dX11_tree_26 : decode cX11_tree 26 = .ok (.getfield 213, 3) := by decide +kernel
theorem dX11_tree_29 : decode cX11_tree 29 = .ok (.invokevirtual 308, 3) := by decide +kernel
theorem dX11_tree_32 : decode cX11_tree 32 = .ok (.istore_n 2, 1) := by decide +kernel
theorem dX11_tree_33 : decode cX11_tree 33 = .ok (.iload_n 2, 1) := by decide +kernel
theorem dX11_tree_34 : decode cX11_tree 34 = .ok (.ifCond .ne 10, 3) := by decide +kernel
theorem dX11_tree_37 : decode cX11_tree 37 = .ok (.aload_n 0, 1) := by decide +kernel
theorem dX11_tree_38 : decode cX11_tree 38 = .ok (.bipush 7, 2) := by decide +kernel
theorem dX11_tree_40 : decode cX11_tree 40 = .ok (.invokevirtual 124, 3) := by decide +kernel
theorem dX11_tree_43 : decode cX11_tree 43 = .ok (.ireturn, 1) := by decide +kernel
theorem dX11_tree_44 : decode cX11_tree 44 = .ok (.aload_n 0, 1) := by decide +kernel
theorem dX11_tree_45 : decode cX11_tree 45 = .ok (.getfield 74, 3) := by decide +kernel
theorem dX11_tree_48 : decode cX11_tree 48 = .ok (.aload_n 0, 1) := by decide +kernel
theorem dX11_tree_49 : decode cX11_tree 49 = .ok (.getfield 36, 3) := by decide +kernel
theorem dX11_tree_52 : decode cX11_tree 52 = .ok (.iload_n 2, 1) := by decide +kernel
theorem dX11_tree_53 : decode cX11_tree 53 = .ok (.invokevirtual 343, 3) := by decide +kernel
theorem dX11_tree_56 : decode cX11_tree 56 = .ok (.iload_n 1, 1) := by decide +kernel
theorem dX11_tree_57 : decode cX11_tree 57 = .ok (.tableswitch 63 0 2 #[27, 39, 51], 27) := by decide +kernel
theorem dX11_tree_84 : decode cX11_tree 84 = .ok (.aload_n 0, 1) := by decide +kernel
theorem dX11_tree_85 : decode cX11_tree 85 = .ok (.aload_n 0, 1) := by decide +kernel
theorem dX11_tree_86 : decode cX11_tree 86 = .ok (.getfield 74, 3) := by decide +kernel
theorem dX11_tree_89 : decode cX11_tree 89 = .ok (.getfield 347, 3) := by decide +kernel
theorem dX11_tree_92 : decode cX11_tree 92 = .ok (.invokevirtual 185, 3) := by decide +kernel
theorem dX11_tree_95 : decode cX11_tree 95 = .ok (.ireturn, 1) := by decide +kernel
theorem dX11_tree_96 : decode cX11_tree 96 = .ok (.aload_n 0, 1) := by decide +kernel
theorem dX11_tree_97 : decode cX11_tree 97 = .ok (.aload_n 0, 1) := by decide +kernel
theorem dX11_tree_98 : decode cX11_tree 98 = .ok (.getfield 74, 3) := by decide +kernel
theorem dX11_tree_101 : decode cX11_tree 101 = .ok (.getfield 350, 3) := by decide +kernel
theorem dX11_tree_104 : decode cX11_tree 104 = .ok (.invokevirtual 185, 3) := by decide +kernel
theorem dX11_tree_107 : decode cX11_tree 107 = .ok (.ireturn, 1) := by decide +kernel
theorem dX11_tree_108 : decode cX11_tree 108 = .ok (.aload_n 0, 1) := by decide +kernel
theorem dX11_tree_109 : decode cX11_tree 109 = .ok (.aload_n 0, 1) := by decide +kernel
theorem dX11_tree_110 : decode cX11_tree 110 = .ok (.getfield 74, 3) := by decide +kernel
theorem dX11_tree_113 : decode cX11_tree 113 = .ok (.getfield 353, 3) := by decide +kernel
theorem dX11_tree_116 : decode cX11_tree 116 = .ok (.invokevirtual 185, 3) := by decide +kernel
theorem dX11_tree_119 : decode cX11_tree 119 = .ok (.ireturn, 1) := by decide +kernel
theorem dX11_tree_120 : decode cX11_tree 120 = .ok (.aload_n 0, 1) := by decide +kernel
theorem dX11_tree_121 : decode cX11_tree 121 = .ok (.aload_n 0, 1) := by decide +kernel
theorem dX11_tree_122 : decode cX11_tree 122 = .ok (.getfield 74, 3) := by decide +kernel
theorem dX11_tree_125 : decode cX11_tree 125 = .ok (.getfield 356, 3) := by decide +kernel
theorem dX11_tree_128 : decode cX11_tree 128 = .ok (.invokevirtual 185, 3) := by decide +kernel
theorem dX11_tree_131 : decode cX11_tree 131 = .ok (.ireturn, 1) := by decide +kernel
noncomputable def RC_tree (σ : St) (p1 : Int32) : Option (Int32 × St) :=
  bd (RC_within p1.toInt64 0 3) (fun r2 => if r2 = 0 then (bd2 (RC_refuse σ 1) (fun r27 σ28 => some (r27, σ28))) else (bd (Cl_spanOf σ 7 (σ.1 7 4)) (fun r4 => if r4 = 0 then (bd2 (RC_refuse σ 7) (fun r23 σ24 => some (r23, σ24))) else (bd (Tr_grow σ 7 r4) (fun σ6 => if p1 = 0 then (bd2 (RC_answer σ6 (σ6.1 35 0)) (fun r8 σ9 => some (r8, σ9))) else if p1 = 1 then (bd2 (RC_answer σ6 (σ6.1 35 1)) (fun r12 σ13 => some (r12, σ13))) else if p1 = 2 then (bd2 (RC_answer σ6 (σ6.1 35 2)) (fun r16 σ17 => some (r16, σ17))) else (bd2 (RC_answer σ6 (σ6.1 35 3)) (fun r20 σ21 => some (r20, σ21))))))))
set_option maxRecDepth 100000 in
set_option maxHeartbeats 4000000 in
theorem tm_RC_tree {V : Ev} {Γ : Cn} {fin : Option Value × St} {σ : St} {p1 : Int32} {o : (Int32 × St)} (X : Cx V Γ M_X11_tree) {A : (Int32 × St) → Prop}  (hr : ∀ (r : Int32) (σ9 : St), A (r, σ9) → (some (.int r), σ9) = fin) (h : RC_tree σ p1 = some o) (hA : A o) : Go V Γ M_X11_tree (Zm V Γ 65 fin) 0 [(0, .ref (V.2.2.1 + 0)), (1, .int p1)] [] σ := by
  unfold RC_tree at h
  refine g_iload_n (pc := 0) X 1 rfl dX11_tree_0 ?_
  refine g_i2l (pc := 1) X dX11_tree_1 ?_
  refine g_lconst (v := 0) (pc := 2) X rfl dX11_tree_2 ?_
  refine g_ldc2 (v := 3) (pc := 3) X k_constl_X11_96 dX11_tree_3 ?_
  obtain ⟨r2, hc1, h⟩ := bd_e h
  refine g_callS (pc := 6) X k_ml_X11_98 (run_RC_within  hc1) rfl (room_ok (Nat.le_of_ble_eq_true rfl) (Nat.le_of_ble_eq_true rfl)) ⟨Nat.le_refl _, Nat.le_refl _⟩ _ rfl (Nat.le_of_ble_eq_true rfl) dX11_tree_6 ?_
  show Go V Γ M_X11_tree (Zm V Γ 65 fin) 9 [(0, .ref (V.2.2.1 + 0)), (1, .int p1)] [.int r2] σ
  refine g_if_ne (pc := 9) (tgt := 18) X dX11_tree_9 rfl (fun c29 => ?_) (fun c29 => ?_)
  · replace h := if_f c29 h
    refine g_aload_n (pc := 18) X 0 rfl dX11_tree_18 ?_
    refine g_getR (r := 7) (pc := 19) X k_fl_X11_36 s_0 rfl dX11_tree_19 ?_
    refine g_aload_n (pc := 22) X 0 rfl dX11_tree_22 ?_
    refine g_getR (r := 7) (pc := 23) X k_fl_X11_36 s_0 rfl dX11_tree_23 ?_
    refine g_getI (pc := 26) X k_fl_X11_213 s_7 rfl dX11_tree_26 ?_
    obtain ⟨r4, hc3, h⟩ := bd_e h
    refine g_callV (pc := 29) X k_ml_X11_308 (run_Cl_spanOf (oknCl_7) hc3) s_7 rfl (room_ok (Nat.le_of_ble_eq_true rfl) (Nat.le_of_ble_eq_true rfl)) ⟨Nat.le_refl _, Nat.le_refl _⟩ _ rfl (Nat.le_of_ble_eq_true rfl) dX11_tree_29 ?_
    show Go V Γ M_X11_tree (Zm V Γ 65 fin) 32 [(0, .ref (V.2.2.1 + 0)), (1, .int p1)] [.int r4] σ
    refine g_istore_n (pc := 32) X [(2, .int r4), (0, .ref (V.2.2.1 + 0)), (1, .int p1)] rfl (Nat.le_of_ble_eq_true rfl) rfl dX11_tree_32 ?_
    refine g_iload_n (pc := 33) X 0 rfl dX11_tree_33 ?_
    refine g_if_ne (pc := 34) (tgt := 44) X dX11_tree_34 rfl (fun c25 => ?_) (fun c25 => ?_)
    · replace h := if_f c25 h
      refine g_aload_n (pc := 44) X 1 rfl dX11_tree_44 ?_
      refine g_getR (r := 35) (pc := 45) X k_fl_X11_74 s_0 rfl dX11_tree_45 ?_
      refine g_aload_n (pc := 48) X 1 rfl dX11_tree_48 ?_
      refine g_getR (r := 7) (pc := 49) X k_fl_X11_36 s_0 rfl dX11_tree_49 ?_
      refine g_iload_n (pc := 52) X 0 rfl dX11_tree_52 ?_
      obtain ⟨σ6, hc5, h⟩ := bd_e h
      refine g_callV (pc := 53) X k_ml_X11_343 (run_Tr_grow (oknCl_7) hc5) s_35 rfl (room_ok (Nat.le_of_ble_eq_true rfl) (Nat.le_of_ble_eq_true rfl)) ⟨Nat.le_refl _, Nat.le_refl _⟩ _ rfl (Nat.le_of_ble_eq_true rfl) dX11_tree_53 ?_
      show Go V Γ M_X11_tree (Zm V Γ 65 fin) 56 [(2, .int r4), (0, .ref (V.2.2.1 + 0)), (1, .int p1)] [] σ6
      refine g_iload_n (pc := 56) X 2 rfl dX11_tree_56 ?_
      by_cases c10 : p1 = 0
      · replace h := if_t c10 h
        refine g_tabIn (pc := 57) (tgt := 84) X c10 dX11_tree_57 (by decide) (by decide) rfl rfl ?_
        refine g_aload_n (pc := 84) X 1 rfl dX11_tree_84 ?_
        refine g_aload_n (pc := 85) X 1 rfl dX11_tree_85 ?_
        refine g_getR (r := 35) (pc := 86) X k_fl_X11_74 s_0 rfl dX11_tree_86 ?_
        refine g_getI (pc := 89) X k_fl_X11_347 s_35 rfl dX11_tree_89 ?_
        obtain ⟨r8, σ9, hc7, h⟩ := bd2_e h
        refine g_callV (pc := 92) X k_ml_X11_185 (run_RC_answer  hc7) s_0 rfl (room_ok (Nat.le_of_ble_eq_true rfl) (Nat.le_of_ble_eq_true rfl)) ⟨Nat.le_refl _, Nat.le_refl _⟩ _ rfl (Nat.le_of_ble_eq_true rfl) dX11_tree_92 ?_
        show Go V Γ M_X11_tree (Zm V Γ 65 fin) 95 [(2, .int r4), (0, .ref (V.2.2.1 + 0)), (1, .int p1)] [.int r8] σ9
        cases h
        exact g_iret (pc := 95) X rfl rfl (hr _ _ hA) dX11_tree_95
      replace h := if_f c10 h
      by_cases c14 : p1 = 1
      · replace h := if_t c14 h
        refine g_tabIn (pc := 57) (tgt := 96) X c14 dX11_tree_57 (by decide) (by decide) rfl rfl ?_
        refine g_aload_n (pc := 96) X 1 rfl dX11_tree_96 ?_
        refine g_aload_n (pc := 97) X 1 rfl dX11_tree_97 ?_
        refine g_getR (r := 35) (pc := 98) X k_fl_X11_74 s_0 rfl dX11_tree_98 ?_
        refine g_getI (pc := 101) X k_fl_X11_350 s_35 rfl dX11_tree_101 ?_
        obtain ⟨r12, σ13, hc11, h⟩ := bd2_e h
        refine g_callV (pc := 104) X k_ml_X11_185 (run_RC_answer  hc11) s_0 rfl (room_ok (Nat.le_of_ble_eq_true rfl) (Nat.le_of_ble_eq_true rfl)) ⟨Nat.le_refl _, Nat.le_refl _⟩ _ rfl (Nat.le_of_ble_eq_true rfl) dX11_tree_104 ?_
        show Go V Γ M_X11_tree (Zm V Γ 65 fin) 107 [(2, .int r4), (0, .ref (V.2.2.1 + 0)), (1, .int p1)] [.int r12] σ13
        cases h
        exact g_iret (pc := 107) X rfl rfl (hr _ _ hA) dX11_tree_107
      replace h := if_f c14 h
      by_cases c18 : p1 = 2
      · replace h := if_t c18 h
        refine g_tabIn (pc := 57) (tgt := 108) X c18 dX11_tree_57 (by decide) (by decide) rfl rfl ?_
        refine g_aload_n (pc := 108) X 1 rfl dX11_tree_108 ?_
        refine g_aload_n (pc := 109) X 1 rfl dX11_tree_109 ?_
        refine g_getR (r := 35) (pc := 110) X k_fl_X11_74 s_0 rfl dX11_tree_110 ?_
        refine g_getI (pc := 113) X k_fl_X11_353 s_35 rfl dX11_tree_113 ?_
        obtain ⟨r16, σ17, hc15, h⟩ := bd2_e h
        refine g_callV (pc := 116) X k_ml_X11_185 (run_RC_answer  hc15) s_0 rfl (room_ok (Nat.le_of_ble_eq_true rfl) (Nat.le_of_ble_eq_true rfl)) ⟨Nat.le_refl _, Nat.le_refl _⟩ _ rfl (Nat.le_of_ble_eq_true rfl) dX11_tree_116 ?_
        show Go V Γ M_X11_tree (Zm V Γ 65 fin) 119 [(2, .int r4), (0, .ref (V.2.2.1 + 0)), (1, .int p1)] [.int r16] σ17
        cases h
        exact g_iret (pc := 119) X rfl rfl (hr _ _ hA) dX11_tree_119
      replace h := if_f c18 h
      refine g_tabOut (pc := 57) (tgt := 120) X dX11_tree_57 (by have qc10 := lv_neT (k := 0) (a := 0) c10 rfl; have qc14 := lv_neT (k := 1) (a := 1) c14 rfl; have qc18 := lv_neT (k := 2) (a := 2) c18 rfl; omega) rfl ?_
      refine g_aload_n (pc := 120) X 1 rfl dX11_tree_120 ?_
      refine g_aload_n (pc := 121) X 1 rfl dX11_tree_121 ?_
      refine g_getR (r := 35) (pc := 122) X k_fl_X11_74 s_0 rfl dX11_tree_122 ?_
      refine g_getI (pc := 125) X k_fl_X11_356 s_35 rfl dX11_tree_125 ?_
      obtain ⟨r20, σ21, hc19, h⟩ := bd2_e h
      refine g_callV (pc := 128) X k_ml_X11_185 (run_RC_answer  hc19) s_0 rfl (room_ok (Nat.le_of_ble_eq_true rfl) (Nat.le_of_ble_eq_true rfl)) ⟨Nat.le_refl _, Nat.le_refl _⟩ _ rfl (Nat.le_of_ble_eq_true rfl) dX11_tree_128 ?_
      show Go V Γ M_X11_tree (Zm V Γ 65 fin) 131 [(2, .int r4), (0, .ref (V.2.2.1 + 0)), (1, .int p1)] [.int r20] σ21
      cases h
      exact g_iret (pc := 131) X rfl rfl (hr _ _ hA) dX11_tree_131
    · replace h := if_t c25 h
      refine g_aload_n (pc := 37) X 1 rfl dX11_tree_37 ?_
      refine g_bipush (v := 7) (pc := 38) X (by decide) dX11_tree_38 ?_
      obtain ⟨r23, σ24, hc22, h⟩ := bd2_e h
      refine g_callV (pc := 40) X k_ml_X11_124 (run_RC_refuse  hc22) s_0 rfl (room_ok (Nat.le_of_ble_eq_true rfl) (Nat.le_of_ble_eq_true rfl)) ⟨Nat.le_refl _, Nat.le_refl _⟩ _ rfl (Nat.le_of_ble_eq_true rfl) dX11_tree_40 ?_
      show Go V Γ M_X11_tree (Zm V Γ 65 fin) 43 [(2, .int r4), (0, .ref (V.2.2.1 + 0)), (1, .int p1)] [.int r23] σ24
      cases h
      exact g_iret (pc := 43) X rfl rfl (hr _ _ hA) dX11_tree_43
  · replace h := if_t c29 h
    refine g_aload_n (pc := 12) X 0 rfl dX11_tree_12 ?_
    refine g_iconst (v := 1) (pc := 13) X rfl dX11_tree_13 ?_
    obtain ⟨r27, σ28, hc26, h⟩ := bd2_e h
    refine g_callV (pc := 14) X k_ml_X11_124 (run_RC_refuse  hc26) s_0 rfl (room_ok (Nat.le_of_ble_eq_true rfl) (Nat.le_of_ble_eq_true rfl)) ⟨Nat.le_refl _, Nat.le_refl _⟩ _ rfl (Nat.le_of_ble_eq_true rfl) dX11_tree_14 ?_
    show Go V Γ M_X11_tree (Zm V Γ 65 fin) 17 [(0, .ref (V.2.2.1 + 0)), (1, .int p1)] [.int r27] σ28
    cases h
    exact g_iret (pc := 17) X rfl rfl (hr _ _ hA) dX11_tree_17
set_option maxRecDepth 100000 in
theorem run_RC_tree {V : Ev} {σ : St} {p1 : Int32} {o : (Int32 × St)}   (h : RC_tree σ p1 = some o) : Rs V 65 M_X11_tree [.ref (V.2.2.1 + 0), .int p1] σ (some (.int o.1), o.2) := by
  refine Rs.of (by decide +kernel) (Nat.le_of_ble_eq_true rfl) (fun Γ X => ?_)
  exact tm_RC_tree X (A := fun o1 => o1 = o)  (fun _ _ e => by rw [← e]) h rfl
theorem dX11_leafOf_0 : decode cX11_leafOf 0 = .ok (.iload_n 1, 1) := by decide +kernel
theorem dX11_leafOf_1 : decode cX11_leafOf 1 = .ok (.i2l, 1) := by decide +kernel
theorem dX11_leafOf_2 : decode cX11_leafOf 2 = .ok (.lconst 0, 1) := by decide +kernel
theorem dX11_leafOf_3 : decode cX11_leafOf 3 = .ok (.ldc2_w 248, 3) := by decide +kernel
theorem dX11_leafOf_6 : decode cX11_leafOf 6 = .ok (.invokestatic 98, 3) := by decide +kernel
theorem dX11_leafOf_9 : decode cX11_leafOf 9 = .ok (.ifCond .ne 9, 3) := by decide +kernel
theorem dX11_leafOf_12 : decode cX11_leafOf 12 = .ok (.aload_n 0, 1) := by decide +kernel
theorem dX11_leafOf_13 : decode cX11_leafOf 13 = .ok (.iconst 1, 1) := by decide +kernel
theorem dX11_leafOf_14 : decode cX11_leafOf 14 = .ok (.invokevirtual 124, 3) := by decide +kernel
theorem dX11_leafOf_17 : decode cX11_leafOf 17 = .ok (.ireturn, 1) := by decide +kernel
theorem dX11_leafOf_18 : decode cX11_leafOf 18 = .ok (.aload_n 0, 1) := by decide +kernel
theorem dX11_leafOf_19 : decode cX11_leafOf 19 = .ok (.getfield 36, 3) := by decide +kernel
theorem dX11_leafOf_22 : decode cX11_leafOf 22 = .ok (.aload_n 0, 1) := by decide +kernel
theorem dX11_leafOf_23 : decode cX11_leafOf 23 = .ok (.getfield 36, 3) := by decide +kernel
theorem dX11_leafOf_26 : decode cX11_leafOf 26 = .ok (.getfield 213, 3) := by decide +kernel
theorem dX11_leafOf_29 : decode cX11_leafOf 29 = .ok (.invokevirtual 308, 3) := by decide +kernel
theorem dX11_leafOf_32 : decode cX11_leafOf 32 = .ok (.istore_n 2, 1) := by decide +kernel
theorem dX11_leafOf_33 : decode cX11_leafOf 33 = .ok (.iload_n 2, 1) := by decide +kernel
theorem dX11_leafOf_34 : decode cX11_leafOf 34 = .ok (.ifCond .ne 12, 3) := by decide +kernel
theorem dX11_leafOf_37 : decode cX11_leafOf 37 = .ok (.aload_n 0, 1) := by decide +kernel
theorem dX11_leafOf_38 : decode cX11_leafOf 38 = .ok (.bipush 7, 2) := by decide +kernel
theorem dX11_leafOf_40 : decode cX11_leafOf 40 = .ok (.invokevirtual 124, 3) := by decide +kernel
theorem dX11_leafOf_43 : decode cX11_leafOf 43 = .ok (.goto 16, 3) := by decide +kernel
theorem dX11_leafOf_46 : decode cX11_leafOf 46 = .ok (.aload_n 0, 1) := by decide +kernel
theorem dX11_leafOf_47 : decode cX11_leafOf 47 = .ok (.aload_n 0, 1) := by decide +kernel
theorem dX11_leafOf_48 : decode cX11_leafOf 48 = .ok (.getfield 36, 3) := by decide +kernel
theorem dX11_leafOf_51 : decode cX11_leafOf 51 = .ok (.iload_n 2, 1) := by decide +kernel
theorem dX11_leafOf_52 : decode cX11_leafOf 52 = .ok (.iload_n 1, 1) := by decide +kernel
theorem dX11_leafOf_53 : decode cX11_leafOf 53 = .ok (.invokestatic 359, 3) := by decide +kernel
theorem dX11_leafOf_56 : decode cX11_leafOf 56 = .ok (.invokevirtual 185, 3) := by decide +kernel
theorem dX11_leafOf_59 : decode cX11_leafOf 59 = .ok (.ireturn, 1) := by decide +kernel
noncomputable def RC_leafOf (σ : St) (p1 : Int32) : Option (Int32 × St) :=
  bd (RC_within p1.toInt64 0 9999) (fun r2 => if r2 = 0 then (bd2 (RC_refuse σ 1) (fun r15 σ16 => some (r15, σ16))) else (bd (Cl_spanOf σ 7 (σ.1 7 4)) (fun r4 => if r4 = 0 then (bd2 (RC_refuse σ 7) (fun r11 σ12 => some (r11, σ12))) else (bd (Tr_leafWith σ 7 r4 p1) (fun r6 => bd2 (RC_answer σ r6) (fun r8 σ9 => some (r8, σ9)))))))
set_option maxRecDepth 100000 in
set_option maxHeartbeats 4000000 in
theorem tm_RC_leafOf {V : Ev} {Γ : Cn} {fin : Option Value × St} {σ : St} {p1 : Int32} {o : (Int32 × St)} (X : Cx V Γ M_X11_leafOf) {A : (Int32 × St) → Prop}  (hr : ∀ (r : Int32) (σ9 : St), A (r, σ9) → (some (.int r), σ9) = fin) (h : RC_leafOf σ p1 = some o) (hA : A o) : Go V Γ M_X11_leafOf (Zm V Γ 4 fin) 0 [(0, .ref (V.2.2.1 + 0)), (1, .int p1)] [] σ := by
  unfold RC_leafOf at h
  refine g_iload_n (pc := 0) X 1 rfl dX11_leafOf_0 ?_
  refine g_i2l (pc := 1) X dX11_leafOf_1 ?_
  refine g_lconst (v := 0) (pc := 2) X rfl dX11_leafOf_2 ?_
  refine g_ldc2 (v := 9999) (pc := 3) X k_constl_X11_248 dX11_leafOf_3 ?_
  obtain ⟨r2, hc1, h⟩ := bd_e h
  refine g_callS (pc := 6) X k_ml_X11_98 (run_RC_within  hc1) rfl (room_ok (Nat.le_of_ble_eq_true rfl) (Nat.le_of_ble_eq_true rfl)) ⟨Nat.le_refl _, Nat.le_refl _⟩ _ rfl (Nat.le_of_ble_eq_true rfl) dX11_leafOf_6 ?_
  show Go V Γ M_X11_leafOf (Zm V Γ 4 fin) 9 [(0, .ref (V.2.2.1 + 0)), (1, .int p1)] [.int r2] σ
  refine g_if_ne (pc := 9) (tgt := 18) X dX11_leafOf_9 rfl (fun c17 => ?_) (fun c17 => ?_)
  · replace h := if_f c17 h
    refine g_aload_n (pc := 18) X 0 rfl dX11_leafOf_18 ?_
    refine g_getR (r := 7) (pc := 19) X k_fl_X11_36 s_0 rfl dX11_leafOf_19 ?_
    refine g_aload_n (pc := 22) X 0 rfl dX11_leafOf_22 ?_
    refine g_getR (r := 7) (pc := 23) X k_fl_X11_36 s_0 rfl dX11_leafOf_23 ?_
    refine g_getI (pc := 26) X k_fl_X11_213 s_7 rfl dX11_leafOf_26 ?_
    obtain ⟨r4, hc3, h⟩ := bd_e h
    refine g_callV (pc := 29) X k_ml_X11_308 (run_Cl_spanOf (oknCl_7) hc3) s_7 rfl (room_ok (Nat.le_of_ble_eq_true rfl) (Nat.le_of_ble_eq_true rfl)) ⟨Nat.le_refl _, Nat.le_refl _⟩ _ rfl (Nat.le_of_ble_eq_true rfl) dX11_leafOf_29 ?_
    show Go V Γ M_X11_leafOf (Zm V Γ 4 fin) 32 [(0, .ref (V.2.2.1 + 0)), (1, .int p1)] [.int r4] σ
    refine g_istore_n (pc := 32) X [(2, .int r4), (0, .ref (V.2.2.1 + 0)), (1, .int p1)] rfl (Nat.le_of_ble_eq_true rfl) rfl dX11_leafOf_32 ?_
    refine g_iload_n (pc := 33) X 0 rfl dX11_leafOf_33 ?_
    refine g_if_ne (pc := 34) (tgt := 46) X dX11_leafOf_34 rfl (fun c13 => ?_) (fun c13 => ?_)
    · replace h := if_f c13 h
      refine g_aload_n (pc := 46) X 1 rfl dX11_leafOf_46 ?_
      refine g_aload_n (pc := 47) X 1 rfl dX11_leafOf_47 ?_
      refine g_getR (r := 7) (pc := 48) X k_fl_X11_36 s_0 rfl dX11_leafOf_48 ?_
      refine g_iload_n (pc := 51) X 0 rfl dX11_leafOf_51 ?_
      refine g_iload_n (pc := 52) X 2 rfl dX11_leafOf_52 ?_
      obtain ⟨r6, hc5, h⟩ := bd_e h
      refine g_callS (pc := 53) X k_ml_X11_359 (run_Tr_leafWith (oknCl_7) hc5) rfl (room_ok (Nat.le_of_ble_eq_true rfl) (Nat.le_of_ble_eq_true rfl)) ⟨Nat.le_refl _, Nat.le_refl _⟩ _ rfl (Nat.le_of_ble_eq_true rfl) dX11_leafOf_53 ?_
      show Go V Γ M_X11_leafOf (Zm V Γ 4 fin) 56 [(2, .int r4), (0, .ref (V.2.2.1 + 0)), (1, .int p1)] [.int r6, .ref (V.2.2.1 + 0)] σ
      obtain ⟨r8, σ9, hc7, h⟩ := bd2_e h
      refine g_callV (pc := 56) X k_ml_X11_185 (run_RC_answer  hc7) s_0 rfl (room_ok (Nat.le_of_ble_eq_true rfl) (Nat.le_of_ble_eq_true rfl)) ⟨Nat.le_refl _, Nat.le_refl _⟩ _ rfl (Nat.le_of_ble_eq_true rfl) dX11_leafOf_56 ?_
      show Go V Γ M_X11_leafOf (Zm V Γ 4 fin) 59 [(2, .int r4), (0, .ref (V.2.2.1 + 0)), (1, .int p1)] [.int r8] σ9
      cases h
      exact g_iret (pc := 59) X rfl rfl (hr _ _ hA) dX11_leafOf_59
    · replace h := if_t c13 h
      refine g_aload_n (pc := 37) X 1 rfl dX11_leafOf_37 ?_
      refine g_bipush (v := 7) (pc := 38) X (by decide) dX11_leafOf_38 ?_
      obtain ⟨r11, σ12, hc10, h⟩ := bd2_e h
      refine g_callV (pc := 40) X k_ml_X11_124 (run_RC_refuse  hc10) s_0 rfl (room_ok (Nat.le_of_ble_eq_true rfl) (Nat.le_of_ble_eq_true rfl)) ⟨Nat.le_refl _, Nat.le_refl _⟩ _ rfl (Nat.le_of_ble_eq_true rfl) dX11_leafOf_40 ?_
      show Go V Γ M_X11_leafOf (Zm V Γ 4 fin) 43 [(2, .int r4), (0, .ref (V.2.2.1 + 0)), (1, .int p1)] [.int r11] σ12
      refine g_goto (pc := 43) (tgt := 59) X dX11_leafOf_43 rfl ?_
      cases h
      exact g_iret (pc := 59) X rfl rfl (hr _ _ hA) dX11_leafOf_59
  · replace h := if_t c17 h
    refine g_aload_n (pc := 12) X 0 rfl dX11_leafOf_12 ?_
    refine g_iconst (v := 1) (pc := 13) X rfl dX11_leafOf_13 ?_
    obtain ⟨r15, σ16, hc14, h⟩ := bd2_e h
    refine g_callV (pc := 14) X k_ml_X11_124 (run_RC_refuse  hc14) s_0 rfl (room_ok (Nat.le_of_ble_eq_true rfl) (Nat.le_of_ble_eq_true rfl)) ⟨Nat.le_refl _, Nat.le_refl _⟩ _ rfl (Nat.le_of_ble_eq_true rfl) dX11_leafOf_14 ?_
    show Go V Γ M_X11_leafOf (Zm V Γ 4 fin) 17 [(0, .ref (V.2.2.1 + 0)), (1, .int p1)] [.int r15] σ16
    cases h
    exact g_iret (pc := 17) X rfl rfl (hr _ _ hA) dX11_leafOf_17
set_option maxRecDepth 100000 in
theorem run_RC_leafOf {V : Ev} {σ : St} {p1 : Int32} {o : (Int32 × St)}   (h : RC_leafOf σ p1 = some o) : Rs V 4 M_X11_leafOf [.ref (V.2.2.1 + 0), .int p1] σ (some (.int o.1), o.2) := by
  refine Rs.of (by decide +kernel) (Nat.le_of_ble_eq_true rfl) (fun Γ X => ?_)
  exact tm_RC_leafOf X (A := fun o1 => o1 = o)  (fun _ _ e => by rw [← e]) h rfl
theorem dX11_choiceTrouble_0 : decode cX11_choiceTrouble 0 = .ok (.iload_n 2, 1) := by decide +kernel
theorem dX11_choiceTrouble_1 : decode cX11_choiceTrouble 1 = .ok (.i2l, 1) := by decide +kernel
theorem dX11_choiceTrouble_2 : decode cX11_choiceTrouble 2 = .ok (.lconst 0, 1) := by decide +kernel
theorem dX11_choiceTrouble_3 : decode cX11_choiceTrouble 3 = .ok (.ldc2_w 376, 3) := by decide +kernel
theorem dX11_choiceTrouble_6 : decode cX11_choiceTrouble 6 = .ok (.invokestatic 98, 3) := by decide +kernel
theorem dX11_choiceTrouble_9 : decode cX11_choiceTrouble 9 = .ok (.ifCond .eq 15, 3) := by decide +kernel
theorem dX11_choiceTrouble_12 : decode cX11_choiceTrouble 12 = .ok (.iload_n 3, 1) := by decide +kernel
theorem dX11_choiceTrouble_13 : decode cX11_choiceTrouble 13 = .ok (.i2l, 1) := by decide +kernel
theorem dX11_choiceTrouble_14 : decode cX11_choiceTrouble 14 = .ok (.lconst 0, 1) := by decide +kernel
theorem dX11_choiceTrouble_15 : decode cX11_choiceTrouble 15 = .ok (.ldc2_w 276, 3) := by decide +kernel
theorem dX11_choiceTrouble_18 : decode cX11_choiceTrouble 18 = .ok (.invokestatic 98, 3) := by decide +kernel
theorem dX11_choiceTrouble_21 : decode cX11_choiceTrouble 21 = .ok (.ifCond .ne 5, 3) := by decide +kernel
theorem dX11_choiceTrouble_24 : decode cX11_choiceTrouble 24 = .ok (.iconst 1, 1) := by decide +kernel
theorem dX11_choiceTrouble_25 : decode cX11_choiceTrouble 25 = .ok (.ireturn, 1) := by decide +kernel
theorem dX11_choiceTrouble_26 : decode cX11_choiceTrouble 26 = .ok (.aload_n 0, 1) := by decide +kernel
theorem dX11_choiceTrouble_27 : decode cX11_choiceTrouble 27 = .ok (.iload_n 1, 1) := by decide +kernel
theorem dX11_choiceTrouble_28 : decode cX11_choiceTrouble 28 = .ok (.invokevirtual 156, 3) := by decide +kernel
theorem dX11_choiceTrouble_31 : decode cX11_choiceTrouble 31 = .ok (.istore 4, 2) := by decide +kernel
theorem dX11_choiceTrouble_33 : decode cX11_choiceTrouble 33 = .ok (.iload 4, 2) := by decide +kernel
theorem dX11_choiceTrouble_35 : decode cX11_choiceTrouble 35 = .ok (.ifCond .eq 6, 3) := by decide +kernel
theorem dX11_choiceTrouble_38 : decode cX11_choiceTrouble 38 = .ok (.iload 4, 2) := by decide +kernel
theorem dX11_choiceTrouble_40 : decode cX11_choiceTrouble 40 = .ok (.ireturn, 1) := by decide +kernel
theorem dX11_choiceTrouble_41 : decode cX11_choiceTrouble 41 = .ok (.aload_n 0, 1) := by decide +kernel
theorem dX11_choiceTrouble_42 : decode cX11_choiceTrouble 42 = .ok (.getfield 22, 3) := by decide +kernel
theorem dX11_choiceTrouble_45 : decode cX11_choiceTrouble 45 = .ok (.iload_n 1, 1) := by decide +kernel
theorem dX11_choiceTrouble_46 : decode cX11_choiceTrouble 46 = .ok (.aaload, 1) := by decide +kernel
theorem dX11_choiceTrouble_47 : decode cX11_choiceTrouble 47 = .ok (.iconst 0, 1) := by decide +kernel
theorem dX11_choiceTrouble_48 : decode cX11_choiceTrouble 48 = .ok (.iload_n 2, 1) := by decide +kernel
theorem dX11_choiceTrouble_49 : decode cX11_choiceTrouble 49 = .ok (.invokevirtual 152, 3) := by decide +kernel
theorem dX11_choiceTrouble_52 : decode cX11_choiceTrouble 52 = .ok (.ifCond .ne 5, 3) := by decide +kernel
theorem dX11_choiceTrouble_55 : decode cX11_choiceTrouble 55 = .ok (.iconst 3, 1) := by decide +kernel
theorem dX11_choiceTrouble_56 : decode cX11_choiceTrouble 56 = .ok (.ireturn, 1) := by decide +kernel
theorem dX11_choiceTrouble_57 : decode cX11_choiceTrouble 57 = .ok (.aload_n 0, 1) := by decide +kernel
theorem dX11_choiceTrouble_58 : decode cX11_choiceTrouble 58 = .ok (.getfield 81, 3) := by decide +kernel
theorem dX11_choiceTrouble_61 : decode cX11_choiceTrouble 61 = .ok (.aload_n 0, 1) := by decide +kernel
theorem dX11_choiceTrouble_62 : decode cX11_choiceTrouble 62 = .ok (.getfield 22, 3) := by decide +kernel
theorem dX11_choiceTrouble_65 : decode cX11_choiceTrouble 65 = .ok (.iload_n 1, 1) := by decide +kernel
theorem dX11_choiceTrouble_66 : decode cX11_choiceTrouble 66 = .ok (.aaload, 1) := by decide +kernel
theorem dX11_choiceTrouble_67 : decode cX11_choiceTrouble 67 = .ok (.iload_n 2, 1) := by decide +kernel
theorem dX11_choiceTrouble_68 : decode cX11_choiceTrouble 68 = .ok (.invokevirtual 378, 3) := by decide +kernel
theorem dX11_choiceTrouble_71 : decode cX11_choiceTrouble 71 = .ok (.ifCond .ne 5, 3) := by decide +kernel
theorem dX11_choiceTrouble_74 : decode cX11_choiceTrouble 74 = .ok (.iconst 5, 1) := by decide +kernel
theorem dX11_choiceTrouble_75 : decode cX11_choiceTrouble 75 = .ok (.ireturn, 1) := by decide +kernel
theorem dX11_choiceTrouble_76 : decode cX11_choiceTrouble 76 = .ok (.aload_n 0, 1) := by decide +kernel
theorem dX11_choiceTrouble_77 : decode cX11_choiceTrouble 77 = .ok (.getfield 81, 3) := by decide +kernel
theorem dX11_choiceTrouble_80 : decode cX11_choiceTrouble 80 = .ok (.invokevirtual 382, 3) := by decide +kernel
theorem dX11_choiceTrouble_83 : decode cX11_choiceTrouble 83 = .ok (.ldc2_w 386, 3) := by decide +kernel
theorem dX11_choiceTrouble_86 : decode cX11_choiceTrouble 86 = .ok (.lcmp, 1) := by decide +kernel
theorem dX11_choiceTrouble_87 : decode cX11_choiceTrouble 87 = .ok (.ifCond .le 8, 3) := by decide +kernel
theorem dX11_choiceTrouble_90 : decode cX11_choiceTrouble 90 = .ok (.bipush 7, 2) := by decide +kernel
theorem dX11_choiceTrouble_92 : decode cX11_choiceTrouble 92 = .ok (.goto 4, 3) := by decide +kernel
theorem dX11_choiceTrouble_95 : decode cX11_choiceTrouble 95 = .ok (.iconst 0, 1) := by decide +kernel
theorem dX11_choiceTrouble_96 : decode cX11_choiceTrouble 96 = .ok (.ireturn, 1) := by decide +kernel
noncomputable def RC_choiceTrouble (σ : St) (p1 : Int32) (p2 : Int32) (p3 : Int32) : Option (Int32 × St) :=
  bd (RC_within p2.toInt64 0 6) (fun r2 => if r2 = 0 then (some (1, σ)) else (bd (RC_within p3.toInt64 0 2) (fun r4 => if r4 = 0 then (some (1, σ)) else (bd (RC_trayTrouble σ p1) (fun r6 => if r6 = 0 then (chk (ix p1 4) (bd (Ty_holds σ (rfs 1 (tn p1)) 0 p2) (fun r9 => if r9 = 0 then (some (3, σ)) else (chk (ix p1 4) (bd2 (Ch_takeModuli σ (rfs 1 (tn p1)) p2) (fun r12 σ13 => if r12 = 0 then (some (5, σ13)) else (bd (Ch_product σ13) (fun r15 => if r15 ≤ 5040 then (some (0, σ13)) else (some (7, σ13)))))))))) else (some (r6, σ)))))))
set_option maxRecDepth 100000 in
set_option maxHeartbeats 4000000 in
theorem tm_RC_choiceTrouble {V : Ev} {Γ : Cn} {fin : Option Value × St} {σ : St} {p1 : Int32} {p2 : Int32} {p3 : Int32} {o : (Int32 × St)} (X : Cx V Γ M_X11_choiceTrouble) {A : (Int32 × St) → Prop}  (hr : ∀ (r : Int32) (σ9 : St), A (r, σ9) → (some (.int r), σ9) = fin) (h : RC_choiceTrouble σ p1 p2 p3 = some o) (hA : A o) : Go V Γ M_X11_choiceTrouble (Zm V Γ 3 fin) 0 [(0, .ref (V.2.2.1 + 0)), (1, .int p1), (2, .int p2), (3, .int p3)] [] σ := by
  unfold RC_choiceTrouble at h
  refine g_iload_n (pc := 0) X 2 rfl dX11_choiceTrouble_0 ?_
  refine g_i2l (pc := 1) X dX11_choiceTrouble_1 ?_
  refine g_lconst (v := 0) (pc := 2) X rfl dX11_choiceTrouble_2 ?_
  refine g_ldc2 (v := 6) (pc := 3) X k_constl_X11_376 dX11_choiceTrouble_3 ?_
  obtain ⟨r2, hc1, h⟩ := bd_e h
  refine g_callS (pc := 6) X k_ml_X11_98 (run_RC_within  hc1) rfl (room_ok (Nat.le_of_ble_eq_true rfl) (Nat.le_of_ble_eq_true rfl)) ⟨Nat.le_refl _, Nat.le_refl _⟩ _ rfl (Nat.le_of_ble_eq_true rfl) dX11_choiceTrouble_6 ?_
  show Go V Γ M_X11_choiceTrouble (Zm V Γ 3 fin) 9 [(0, .ref (V.2.2.1 + 0)), (1, .int p1), (2, .int p2), (3, .int p3)] [.int r2] σ
  refine g_if_eq (pc := 9) (tgt := 24) X dX11_choiceTrouble_9 rfl (fun c21 => ?_) (fun c21 => ?_)
  · replace h := if_t c21 h
    refine g_iconst (v := 1) (pc := 24) X rfl dX11_choiceTrouble_24 ?_
    cases h
    exact g_iret (pc := 25) X rfl rfl (hr _ _ hA) dX11_choiceTrouble_25
  · replace h := if_f c21 h
    refine g_iload_n (pc := 12) X 3 rfl dX11_choiceTrouble_12 ?_
    refine g_i2l (pc := 13) X dX11_choiceTrouble_13 ?_
    refine g_lconst (v := 0) (pc := 14) X rfl dX11_choiceTrouble_14 ?_
    refine g_ldc2 (v := 2) (pc := 15) X k_constl_X11_276 dX11_choiceTrouble_15 ?_
    obtain ⟨r4, hc3, h⟩ := bd_e h
    refine g_callS (pc := 18) X k_ml_X11_98 (run_RC_within  hc3) rfl (room_ok (Nat.le_of_ble_eq_true rfl) (Nat.le_of_ble_eq_true rfl)) ⟨Nat.le_refl _, Nat.le_refl _⟩ _ rfl (Nat.le_of_ble_eq_true rfl) dX11_choiceTrouble_18 ?_
    show Go V Γ M_X11_choiceTrouble (Zm V Γ 3 fin) 21 [(0, .ref (V.2.2.1 + 0)), (1, .int p1), (2, .int p2), (3, .int p3)] [.int r4] σ
    refine g_if_ne (pc := 21) (tgt := 26) X dX11_choiceTrouble_21 rfl (fun c20 => ?_) (fun c20 => ?_)
    · replace h := if_f c20 h
      refine g_aload_n (pc := 26) X 0 rfl dX11_choiceTrouble_26 ?_
      refine g_iload_n (pc := 27) X 1 rfl dX11_choiceTrouble_27 ?_
      obtain ⟨r6, hc5, h⟩ := bd_e h
      refine g_callV (pc := 28) X k_ml_X11_156 (run_RC_trayTrouble  hc5) s_0 rfl (room_ok (Nat.le_of_ble_eq_true rfl) (Nat.le_of_ble_eq_true rfl)) ⟨Nat.le_refl _, Nat.le_refl _⟩ _ rfl (Nat.le_of_ble_eq_true rfl) dX11_choiceTrouble_28 ?_
      show Go V Γ M_X11_choiceTrouble (Zm V Γ 3 fin) 31 [(0, .ref (V.2.2.1 + 0)), (1, .int p1), (2, .int p2), (3, .int p3)] [.int r6] σ
      refine g_istore (pc := 31) X [(4, .int r6), (0, .ref (V.2.2.1 + 0)), (1, .int p1), (2, .int p2), (3, .int p3)] (Nat.le_of_ble_eq_true rfl) rfl dX11_choiceTrouble_31 ?_
      refine g_iload (pc := 33) X 0 rfl dX11_choiceTrouble_33 ?_
      refine g_if_eq (pc := 35) (tgt := 41) X dX11_choiceTrouble_35 rfl (fun c19 => ?_) (fun c19 => ?_)
      · replace h := if_t c19 h
        refine g_aload_n (pc := 41) X 1 rfl dX11_choiceTrouble_41 ?_
        refine g_getR (r := 1) (pc := 42) X k_fl_X11_22 s_0 rfl dX11_choiceTrouble_42 ?_
        refine g_iload_n (pc := 45) X 2 rfl dX11_choiceTrouble_45 ?_
        obtain ⟨c7, h⟩ := chk_e h
        refine g_aald (ak := 0) (pc := 46) X s_1 rfl rfl c7 dX11_choiceTrouble_46 ?_
        refine g_iconst (v := 0) (pc := 47) X rfl dX11_choiceTrouble_47 ?_
        refine g_iload_n (pc := 48) X 3 rfl dX11_choiceTrouble_48 ?_
        obtain ⟨r9, hc8, h⟩ := bd_e h
        refine g_callV (pc := 49) X k_ml_X11_152 (run_Ty_holds (okTy_of c7) hc8) (sTy_0 (okTy_of c7)) rfl (room_ok (Nat.le_of_ble_eq_true rfl) (Nat.le_of_ble_eq_true rfl)) ⟨Nat.le_refl _, Nat.le_refl _⟩ _ rfl (Nat.le_of_ble_eq_true rfl) dX11_choiceTrouble_49 ?_
        show Go V Γ M_X11_choiceTrouble (Zm V Γ 3 fin) 52 [(4, .int r6), (0, .ref (V.2.2.1 + 0)), (1, .int p1), (2, .int p2), (3, .int p3)] [.int r9] σ
        refine g_if_ne (pc := 52) (tgt := 57) X dX11_choiceTrouble_52 rfl (fun c18 => ?_) (fun c18 => ?_)
        · replace h := if_f c18 h
          refine g_aload_n (pc := 57) X 1 rfl dX11_choiceTrouble_57 ?_
          refine g_getR (r := 36) (pc := 58) X k_fl_X11_81 s_0 rfl dX11_choiceTrouble_58 ?_
          refine g_aload_n (pc := 61) X 1 rfl dX11_choiceTrouble_61 ?_
          refine g_getR (r := 1) (pc := 62) X k_fl_X11_22 s_0 rfl dX11_choiceTrouble_62 ?_
          refine g_iload_n (pc := 65) X 2 rfl dX11_choiceTrouble_65 ?_
          obtain ⟨c10, h⟩ := chk_e h
          refine g_aald (ak := 0) (pc := 66) X s_1 rfl rfl c10 dX11_choiceTrouble_66 ?_
          refine g_iload_n (pc := 67) X 3 rfl dX11_choiceTrouble_67 ?_
          obtain ⟨r12, σ13, hc11, h⟩ := bd2_e h
          refine g_callV (pc := 68) X k_ml_X11_378 (run_Ch_takeModuli (okTy_of c10) hc11) s_36 rfl (room_ok (Nat.le_of_ble_eq_true rfl) (Nat.le_of_ble_eq_true rfl)) ⟨Nat.le_refl _, Nat.le_refl _⟩ _ rfl (Nat.le_of_ble_eq_true rfl) dX11_choiceTrouble_68 ?_
          show Go V Γ M_X11_choiceTrouble (Zm V Γ 3 fin) 71 [(4, .int r6), (0, .ref (V.2.2.1 + 0)), (1, .int p1), (2, .int p2), (3, .int p3)] [.int r12] σ13
          refine g_if_ne (pc := 71) (tgt := 76) X dX11_choiceTrouble_71 rfl (fun c17 => ?_) (fun c17 => ?_)
          · replace h := if_f c17 h
            refine g_aload_n (pc := 76) X 1 rfl dX11_choiceTrouble_76 ?_
            refine g_getR (r := 36) (pc := 77) X k_fl_X11_81 s_0 rfl dX11_choiceTrouble_77 ?_
            obtain ⟨r15, hc14, h⟩ := bd_e h
            refine g_callV (pc := 80) X k_ml_X11_382 (run_Ch_product  hc14) s_36 rfl (room_ok (Nat.le_of_ble_eq_true rfl) (Nat.le_of_ble_eq_true rfl)) ⟨Nat.le_refl _, Nat.le_refl _⟩ _ rfl (Nat.le_of_ble_eq_true rfl) dX11_choiceTrouble_80 ?_
            show Go V Γ M_X11_choiceTrouble (Zm V Γ 3 fin) 83 [(4, .int r6), (0, .ref (V.2.2.1 + 0)), (1, .int p1), (2, .int p2), (3, .int p3)] [.long r15] σ13
            refine g_ldc2 (v := 5040) (pc := 83) X k_constl_X11_386 dX11_choiceTrouble_83 ?_
            refine g_lcmp_le (pc := 86) (tgt := 95) X dX11_choiceTrouble_86 dX11_choiceTrouble_87 rfl (fun c16 => ?_) (fun c16 => ?_)
            · replace h := if_t c16 h
              refine g_iconst (v := 0) (pc := 95) X rfl dX11_choiceTrouble_95 ?_
              cases h
              exact g_iret (pc := 96) X rfl rfl (hr _ _ hA) dX11_choiceTrouble_96
            · replace h := if_f c16 h
              refine g_bipush (v := 7) (pc := 90) X (by decide) dX11_choiceTrouble_90 ?_
              refine g_goto (pc := 92) (tgt := 96) X dX11_choiceTrouble_92 rfl ?_
              cases h
              exact g_iret (pc := 96) X rfl rfl (hr _ _ hA) dX11_choiceTrouble_96
          · replace h := if_t c17 h
            refine g_iconst (v := 5) (pc := 74) X rfl dX11_choiceTrouble_74 ?_
            cases h
            exact g_iret (pc := 75) X rfl rfl (hr _ _ hA) dX11_choiceTrouble_75
        · replace h := if_t c18 h
          refine g_iconst (v := 3) (pc := 55) X rfl dX11_choiceTrouble_55 ?_
          cases h
          exact g_iret (pc := 56) X rfl rfl (hr _ _ hA) dX11_choiceTrouble_56
      · replace h := if_f c19 h
        refine g_iload (pc := 38) X 0 rfl dX11_choiceTrouble_38 ?_
        cases h
        exact g_iret (pc := 40) X rfl rfl (hr _ _ hA) dX11_choiceTrouble_40
    · replace h := if_t c20 h
      refine g_iconst (v := 1) (pc := 24) X rfl dX11_choiceTrouble_24 ?_
      cases h
      exact g_iret (pc := 25) X rfl rfl (hr _ _ hA) dX11_choiceTrouble_25
set_option maxRecDepth 100000 in
theorem run_RC_choiceTrouble {V : Ev} {σ : St} {p1 : Int32} {p2 : Int32} {p3 : Int32} {o : (Int32 × St)}   (h : RC_choiceTrouble σ p1 p2 p3 = some o) : Rs V 3 M_X11_choiceTrouble [.ref (V.2.2.1 + 0), .int p1, .int p2, .int p3] σ (some (.int o.1), o.2) := by
  refine Rs.of (by decide +kernel) (Nat.le_of_ble_eq_true rfl) (fun Γ X => ?_)
  exact tm_RC_choiceTrouble X (A := fun o1 => o1 = o)  (fun _ _ e => by rw [← e]) h rfl
theorem dX11_choices_0 : decode cX11_choices 0 = .ok (.aload_n 0, 1) := by decide +kernel
theorem dX11_choices_1 : decode cX11_choices 1 = .ok (.iload_n 1, 1) := by decide +kernel
theorem dX11_choices_2 : decode cX11_choices 2 = .ok (.iload_n 2, 1) := by decide +kernel
theorem dX11_choices_3 : decode cX11_choices 3 = .ok (.iload_n 3, 1) := by decide +kernel
theorem dX11_choices_4 : decode cX11_choices 4 = .ok (.invokevirtual 363, 3) := by decide +kernel
theorem dX11_choices_7 : decode cX11_choices 7 = .ok (.istore 4, 2) := by decide +kernel
theorem dX11_choices_9 : decode cX11_choices 9 = .ok (.iload 4, 2) := by decide +kernel
theorem dX11_choices_11 : decode cX11_choices 11 = .ok (.ifCond .ne 18, 3) := by decide +kernel
theorem dX11_choices_14 : decode cX11_choices 14 = .ok (.aload_n 0, 1) := by decide +kernel
theorem dX11_choices_15 : decode cX11_choices 15 = .ok (.aload_n 0, 1) := by decide +kernel
theorem dX11_choices_16 : decode cX11_choices 16 = .ok (.getfield 81, 3) := by decide +kernel
theorem dX11_choices_19 : decode cX11_choices 19 = .ok (.iload_n 3, 1) := by decide +kernel
theorem dX11_choices_20 : decode cX11_choices 20 = .ok (.invokevirtual 367, 3) := by decide +kernel
theorem dX11_choices_23 : decode cX11_choices 23 = .ok (.invokevirtual 185, 3) := by decide +kernel
theorem dX11_choices_26 : decode cX11_choices 26 = .ok (.goto 9, 3) := by decide +kernel
theorem dX11_choices_29 : decode cX11_choices 29 = .ok (.aload_n 0, 1) := by decide +kernel
theorem dX11_choices_30 : decode cX11_choices 30 = .ok (.iload 4, 2) := by decide +kernel
theorem dX11_choices_32 : decode cX11_choices 32 = .ok (.invokevirtual 124, 3) := by decide +kernel
theorem dX11_choices_35 : decode cX11_choices 35 = .ok (.ireturn, 1) := by decide +kernel
noncomputable def RC_choices (σ : St) (p1 : Int32) (p2 : Int32) (p3 : Int32) : Option (Int32 × St) :=
  bd2 (RC_choiceTrouble σ p1 p2 p3) (fun r2 σ3 => if r2 = 0 then (bd2 (Ch_countWays σ3 p3) (fun r8 σ9 => bd2 (RC_answer σ9 r8) (fun r11 σ12 => some (r11, σ12)))) else (bd2 (RC_refuse σ3 r2) (fun r5 σ6 => some (r5, σ6))))
set_option maxRecDepth 100000 in
set_option maxHeartbeats 4000000 in
theorem tm_RC_choices {V : Ev} {Γ : Cn} {fin : Option Value × St} {σ : St} {p1 : Int32} {p2 : Int32} {p3 : Int32} {o : (Int32 × St)} (X : Cx V Γ M_X11_choices) {A : (Int32 × St) → Prop}  (hr : ∀ (r : Int32) (σ9 : St), A (r, σ9) → (some (.int r), σ9) = fin) (h : RC_choices σ p1 p2 p3 = some o) (hA : A o) : Go V Γ M_X11_choices (Zm V Γ 65 fin) 0 [(0, .ref (V.2.2.1 + 0)), (1, .int p1), (2, .int p2), (3, .int p3)] [] σ := by
  unfold RC_choices at h
  refine g_aload_n (pc := 0) X 0 rfl dX11_choices_0 ?_
  refine g_iload_n (pc := 1) X 1 rfl dX11_choices_1 ?_
  refine g_iload_n (pc := 2) X 2 rfl dX11_choices_2 ?_
  refine g_iload_n (pc := 3) X 3 rfl dX11_choices_3 ?_
  obtain ⟨r2, σ3, hc1, h⟩ := bd2_e h
  refine g_callV (pc := 4) X k_ml_X11_363 (run_RC_choiceTrouble  hc1) s_0 rfl (room_ok (Nat.le_of_ble_eq_true rfl) (Nat.le_of_ble_eq_true rfl)) ⟨Nat.le_refl _, Nat.le_refl _⟩ _ rfl (Nat.le_of_ble_eq_true rfl) dX11_choices_4 ?_
  show Go V Γ M_X11_choices (Zm V Γ 65 fin) 7 [(0, .ref (V.2.2.1 + 0)), (1, .int p1), (2, .int p2), (3, .int p3)] [.int r2] σ3
  refine g_istore (pc := 7) X [(4, .int r2), (0, .ref (V.2.2.1 + 0)), (1, .int p1), (2, .int p2), (3, .int p3)] (Nat.le_of_ble_eq_true rfl) rfl dX11_choices_7 ?_
  refine g_iload (pc := 9) X 0 rfl dX11_choices_9 ?_
  refine g_if_ne (pc := 11) (tgt := 29) X dX11_choices_11 rfl (fun c13 => ?_) (fun c13 => ?_)
  · replace h := if_f c13 h
    refine g_aload_n (pc := 29) X 1 rfl dX11_choices_29 ?_
    refine g_iload (pc := 30) X 0 rfl dX11_choices_30 ?_
    obtain ⟨r5, σ6, hc4, h⟩ := bd2_e h
    refine g_callV (pc := 32) X k_ml_X11_124 (run_RC_refuse  hc4) s_0 rfl (room_ok (Nat.le_of_ble_eq_true rfl) (Nat.le_of_ble_eq_true rfl)) ⟨Nat.le_refl _, Nat.le_refl _⟩ _ rfl (Nat.le_of_ble_eq_true rfl) dX11_choices_32 ?_
    show Go V Γ M_X11_choices (Zm V Γ 65 fin) 35 [(4, .int r2), (0, .ref (V.2.2.1 + 0)), (1, .int p1), (2, .int p2), (3, .int p3)] [.int r5] σ6
    cases h
    exact g_iret (pc := 35) X rfl rfl (hr _ _ hA) dX11_choices_35
  · replace h := if_t c13 h
    refine g_aload_n (pc := 14) X 1 rfl dX11_choices_14 ?_
    refine g_aload_n (pc := 15) X 1 rfl dX11_choices_15 ?_
    refine g_getR (r := 36) (pc := 16) X k_fl_X11_81 s_0 rfl dX11_choices_16 ?_
    refine g_iload_n (pc := 19) X 4 rfl dX11_choices_19 ?_
    obtain ⟨r8, σ9, hc7, h⟩ := bd2_e h
    refine g_callV (pc := 20) X k_ml_X11_367 (run_Ch_countWays  hc7) s_36 rfl (room_ok (Nat.le_of_ble_eq_true rfl) (Nat.le_of_ble_eq_true rfl)) ⟨Nat.le_refl _, Nat.le_refl _⟩ _ rfl (Nat.le_of_ble_eq_true rfl) dX11_choices_20 ?_
    show Go V Γ M_X11_choices (Zm V Γ 65 fin) 23 [(4, .int r2), (0, .ref (V.2.2.1 + 0)), (1, .int p1), (2, .int p2), (3, .int p3)] [.int r8, .ref (V.2.2.1 + 0)] σ9
    obtain ⟨r11, σ12, hc10, h⟩ := bd2_e h
    refine g_callV (pc := 23) X k_ml_X11_185 (run_RC_answer  hc10) s_0 rfl (room_ok (Nat.le_of_ble_eq_true rfl) (Nat.le_of_ble_eq_true rfl)) ⟨Nat.le_refl _, Nat.le_refl _⟩ _ rfl (Nat.le_of_ble_eq_true rfl) dX11_choices_23 ?_
    show Go V Γ M_X11_choices (Zm V Γ 65 fin) 26 [(4, .int r2), (0, .ref (V.2.2.1 + 0)), (1, .int p1), (2, .int p2), (3, .int p3)] [.int r11] σ12
    refine g_goto (pc := 26) (tgt := 35) X dX11_choices_26 rfl ?_
    cases h
    exact g_iret (pc := 35) X rfl rfl (hr _ _ hA) dX11_choices_35
set_option maxRecDepth 100000 in
theorem run_RC_choices {V : Ev} {σ : St} {p1 : Int32} {p2 : Int32} {p3 : Int32} {o : (Int32 × St)}   (h : RC_choices σ p1 p2 p3 = some o) : Rs V 65 M_X11_choices [.ref (V.2.2.1 + 0), .int p1, .int p2, .int p3] σ (some (.int o.1), o.2) := by
  refine Rs.of (by decide +kernel) (Nat.le_of_ble_eq_true rfl) (fun Γ X => ?_)
  exact tm_RC_choices X (A := fun o1 => o1 = o)  (fun _ _ e => by rw [← e]) h rfl
theorem dX11_choiceAt_0 : decode cX11_choiceAt 0 = .ok (.iload 4, 2) := by decide +kernel
theorem dX11_choiceAt_2 : decode cX11_choiceAt 2 = .ok (.i2l, 1) := by decide +kernel
theorem dX11_choiceAt_3 : decode cX11_choiceAt 3 = .ok (.lconst 0, 1) := by decide +kernel
theorem dX11_choiceAt_4 : decode cX11_choiceAt 4 = .ok (.iload_n 2, 1) := by decide +kernel
theorem dX11_choiceAt_5 : decode cX11_choiceAt 5 = .ok (.i2l, 1) := by decide +kernel
theorem dX11_choiceAt_6 : decode cX11_choiceAt 6 = .ok (.lconst 1, 1) := by decide +kernel
theorem dX11_choiceAt_7 : decode cX11_choiceAt 7 = .ok (.lsub, 1) := by decide +kernel
theorem dX11_choiceAt_8 : decode cX11_choiceAt 8 = .ok (.invokestatic 98, 3) := by decide +kernel
theorem dX11_choiceAt_11 : decode cX11_choiceAt 11 = .ok (.ifCond .ne 9, 3) := by decide +kernel
theorem dX11_choiceAt_14 : decode cX11_choiceAt 14 = .ok (.aload_n 0, 1) := by decide +kernel
theorem dX11_choiceAt_15 : decode cX11_choiceAt 15 = .ok (.iconst 1, 1) := by decide +kernel
theorem dX11_choiceAt_16 : decode cX11_choiceAt 16 = .ok (.invokevirtual 124, 3) := by decide +kernel
theorem dX11_choiceAt_19 : decode cX11_choiceAt 19 = .ok (.ireturn, 1) := by decide +kernel
theorem dX11_choiceAt_20 : decode cX11_choiceAt 20 = .ok (.aload_n 0, 1) := by decide +kernel
theorem dX11_choiceAt_21 : decode cX11_choiceAt 21 = .ok (.iload_n 1, 1) := by decide +kernel
theorem dX11_choiceAt_22 : decode cX11_choiceAt 22 = .ok (.iload_n 2, 1) := by decide +kernel
theorem dX11_choiceAt_23 : decode cX11_choiceAt 23 = .ok (.iload_n 3, 1) := by decide +kernel
theorem dX11_choiceAt_24 : decode cX11_choiceAt 24 = .ok (.invokevirtual 363, 3) := by decide +kernel
theorem dX11_choiceAt_27 : decode cX11_choiceAt 27 = .ok (.istore 5, 2) := by decide +kernel
theorem dX11_choiceAt_29 : decode cX11_choiceAt 29 = .ok (.iload 5, 2) := by decide +kernel
theorem dX11_choiceAt_31 : decode cX11_choiceAt 31 = .ok (.ifCond .eq 10, 3) := by decide +kernel
theorem dX11_choiceAt_34 : decode cX11_choiceAt 34 = .ok (.aload_n 0, 1) := by decide +kernel
theorem dX11_choiceAt_35 : decode cX11_choiceAt 35 = .ok (.iload 5, 2) := by decide +kernel
theorem dX11_choiceAt_37 : decode cX11_choiceAt 37 = .ok (.invokevirtual 124, 3) := by decide +kernel
theorem dX11_choiceAt_40 : decode cX11_choiceAt 40 = .ok (.ireturn, 1) := by decide +kernel
theorem dX11_choiceAt_41 : decode cX11_choiceAt 41 = .ok (.aload_n 0, 1) := by decide +kernel
theorem dX11_choiceAt_42 : decode cX11_choiceAt 42 = .ok (.getfield 81, 3) := by decide +kernel
theorem dX11_choiceAt_45 : decode cX11_choiceAt 45 = .ok (.iload_n 3, 1) := by decide +kernel
theorem dX11_choiceAt_46 : decode cX11_choiceAt 46 = .ok (.invokevirtual 370, 3) := by decide +kernel
theorem dX11_choiceAt_49 : decode cX11_choiceAt 49 = .ok (.ifCond .eq 19, 3) := by decide +kernel
theorem dX11_choiceAt_52 : decode cX11_choiceAt 52 = .ok (.aload_n 0, 1) := by decide +kernel
theorem dX11_choiceAt_53 : decode cX11_choiceAt 53 = .ok (.aload_n 0, 1) := by decide +kernel
theorem dX11_choiceAt_54 : decode cX11_choiceAt 54 = .ok (.getfield 81, 3) := by decide +kernel
theorem dX11_choiceAt_57 : decode cX11_choiceAt 57 = .ok (.iload 4, 2) := by decide +kernel
theorem dX11_choiceAt_59 : decode cX11_choiceAt 59 = .ok (.invokevirtual 373, 3) := by decide +kernel
theorem dX11_choiceAt_62 : decode cX11_choiceAt 62 = .ok (.invokevirtual 185, 3) := by decide +kernel
theorem dX11_choiceAt_65 : decode cX11_choiceAt 65 = .ok (.goto 9, 3) := by decide +kernel
theorem dX11_choiceAt_68 : decode cX11_choiceAt 68 = .ok (.aload_n 0, 1) := by decide +kernel
theorem dX11_choiceAt_69 : decode cX11_choiceAt 69 = .ok (.bipush 6, 2) := by decide +kernel
theorem dX11_choiceAt_71 : decode cX11_choiceAt 71 = .ok (.invokevirtual 124, 3) := by decide +kernel
theorem dX11_choiceAt_74 : decode cX11_choiceAt 74 = .ok (.ireturn, 1) := by decide +kernel
noncomputable def RC_choiceAt (σ : St) (p1 : Int32) (p2 : Int32) (p3 : Int32) (p4 : Int32) : Option (Int32 × St) :=
  bd (RC_within p4.toInt64 0 (p2.toInt64 - 1)) (fun r2 => if r2 = 0 then (bd2 (RC_refuse σ 1) (fun r23 σ24 => some (r23, σ24))) else (bd2 (RC_choiceTrouble σ p1 p2 p3) (fun r4 σ5 => if r4 = 0 then (bd2 (Ch_findFirst σ5 p3) (fun r7 σ8 => if r7 = 0 then (bd2 (RC_refuse σ8 6) (fun r10 σ11 => some (r10, σ11))) else (bd (Ch_restAt σ8 p4) (fun r13 => bd2 (RC_answer σ8 r13) (fun r15 σ16 => some (r15, σ16)))))) else (bd2 (RC_refuse σ5 r4) (fun r19 σ20 => some (r19, σ20))))))
set_option maxRecDepth 100000 in
set_option maxHeartbeats 4000000 in
theorem tm_RC_choiceAt {V : Ev} {Γ : Cn} {fin : Option Value × St} {σ : St} {p1 : Int32} {p2 : Int32} {p3 : Int32} {p4 : Int32} {o : (Int32 × St)} (X : Cx V Γ M_X11_choiceAt) {A : (Int32 × St) → Prop}  (hr : ∀ (r : Int32) (σ9 : St), A (r, σ9) → (some (.int r), σ9) = fin) (h : RC_choiceAt σ p1 p2 p3 p4 = some o) (hA : A o) : Go V Γ M_X11_choiceAt (Zm V Γ 65 fin) 0 [(0, .ref (V.2.2.1 + 0)), (1, .int p1), (2, .int p2), (3, .int p3), (4, .int p4)] [] σ := by
  unfold RC_choiceAt at h
  refine g_iload (pc := 0) X 4 rfl dX11_choiceAt_0 ?_
  refine g_i2l (pc := 2) X dX11_choiceAt_2 ?_
  refine g_lconst (v := 0) (pc := 3) X rfl dX11_choiceAt_3 ?_
  refine g_iload_n (pc := 4) X 2 rfl dX11_choiceAt_4 ?_
  refine g_i2l (pc := 5) X dX11_choiceAt_5 ?_
  refine g_lconst (v := 1) (pc := 6) X rfl dX11_choiceAt_6 ?_
  refine g_lsub (pc := 7) X dX11_choiceAt_7 ?_
  obtain ⟨r2, hc1, h⟩ := bd_e h
  refine g_callS (pc := 8) X k_ml_X11_98 (run_RC_within  hc1) rfl (room_ok (Nat.le_of_ble_eq_true rfl) (Nat.le_of_ble_eq_true rfl)) ⟨Nat.le_refl _, Nat.le_refl _⟩ _ rfl (Nat.le_of_ble_eq_true rfl) dX11_choiceAt_8 ?_
  show Go V Γ M_X11_choiceAt (Zm V Γ 65 fin) 11 [(0, .ref (V.2.2.1 + 0)), (1, .int p1), (2, .int p2), (3, .int p3), (4, .int p4)] [.int r2] σ
  refine g_if_ne (pc := 11) (tgt := 20) X dX11_choiceAt_11 rfl (fun c25 => ?_) (fun c25 => ?_)
  · replace h := if_f c25 h
    refine g_aload_n (pc := 20) X 0 rfl dX11_choiceAt_20 ?_
    refine g_iload_n (pc := 21) X 1 rfl dX11_choiceAt_21 ?_
    refine g_iload_n (pc := 22) X 2 rfl dX11_choiceAt_22 ?_
    refine g_iload_n (pc := 23) X 3 rfl dX11_choiceAt_23 ?_
    obtain ⟨r4, σ5, hc3, h⟩ := bd2_e h
    refine g_callV (pc := 24) X k_ml_X11_363 (run_RC_choiceTrouble  hc3) s_0 rfl (room_ok (Nat.le_of_ble_eq_true rfl) (Nat.le_of_ble_eq_true rfl)) ⟨Nat.le_refl _, Nat.le_refl _⟩ _ rfl (Nat.le_of_ble_eq_true rfl) dX11_choiceAt_24 ?_
    show Go V Γ M_X11_choiceAt (Zm V Γ 65 fin) 27 [(0, .ref (V.2.2.1 + 0)), (1, .int p1), (2, .int p2), (3, .int p3), (4, .int p4)] [.int r4] σ5
    refine g_istore (pc := 27) X [(5, .int r4), (0, .ref (V.2.2.1 + 0)), (1, .int p1), (2, .int p2), (3, .int p3), (4, .int p4)] (Nat.le_of_ble_eq_true rfl) rfl dX11_choiceAt_27 ?_
    refine g_iload (pc := 29) X 0 rfl dX11_choiceAt_29 ?_
    refine g_if_eq (pc := 31) (tgt := 41) X dX11_choiceAt_31 rfl (fun c21 => ?_) (fun c21 => ?_)
    · replace h := if_t c21 h
      refine g_aload_n (pc := 41) X 1 rfl dX11_choiceAt_41 ?_
      refine g_getR (r := 36) (pc := 42) X k_fl_X11_81 s_0 rfl dX11_choiceAt_42 ?_
      refine g_iload_n (pc := 45) X 4 rfl dX11_choiceAt_45 ?_
      obtain ⟨r7, σ8, hc6, h⟩ := bd2_e h
      refine g_callV (pc := 46) X k_ml_X11_370 (run_Ch_findFirst  hc6) s_36 rfl (room_ok (Nat.le_of_ble_eq_true rfl) (Nat.le_of_ble_eq_true rfl)) ⟨Nat.le_refl _, Nat.le_refl _⟩ _ rfl (Nat.le_of_ble_eq_true rfl) dX11_choiceAt_46 ?_
      show Go V Γ M_X11_choiceAt (Zm V Γ 65 fin) 49 [(5, .int r4), (0, .ref (V.2.2.1 + 0)), (1, .int p1), (2, .int p2), (3, .int p3), (4, .int p4)] [.int r7] σ8
      refine g_if_eq (pc := 49) (tgt := 68) X dX11_choiceAt_49 rfl (fun c17 => ?_) (fun c17 => ?_)
      · replace h := if_t c17 h
        refine g_aload_n (pc := 68) X 1 rfl dX11_choiceAt_68 ?_
        refine g_bipush (v := 6) (pc := 69) X (by decide) dX11_choiceAt_69 ?_
        obtain ⟨r10, σ11, hc9, h⟩ := bd2_e h
        refine g_callV (pc := 71) X k_ml_X11_124 (run_RC_refuse  hc9) s_0 rfl (room_ok (Nat.le_of_ble_eq_true rfl) (Nat.le_of_ble_eq_true rfl)) ⟨Nat.le_refl _, Nat.le_refl _⟩ _ rfl (Nat.le_of_ble_eq_true rfl) dX11_choiceAt_71 ?_
        show Go V Γ M_X11_choiceAt (Zm V Γ 65 fin) 74 [(5, .int r4), (0, .ref (V.2.2.1 + 0)), (1, .int p1), (2, .int p2), (3, .int p3), (4, .int p4)] [.int r10] σ11
        cases h
        exact g_iret (pc := 74) X rfl rfl (hr _ _ hA) dX11_choiceAt_74
      · replace h := if_f c17 h
        refine g_aload_n (pc := 52) X 1 rfl dX11_choiceAt_52 ?_
        refine g_aload_n (pc := 53) X 1 rfl dX11_choiceAt_53 ?_
        refine g_getR (r := 36) (pc := 54) X k_fl_X11_81 s_0 rfl dX11_choiceAt_54 ?_
        refine g_iload (pc := 57) X 5 rfl dX11_choiceAt_57 ?_
        obtain ⟨r13, hc12, h⟩ := bd_e h
        refine g_callV (pc := 59) X k_ml_X11_373 (run_Ch_restAt  hc12) s_36 rfl (room_ok (Nat.le_of_ble_eq_true rfl) (Nat.le_of_ble_eq_true rfl)) ⟨Nat.le_refl _, Nat.le_refl _⟩ _ rfl (Nat.le_of_ble_eq_true rfl) dX11_choiceAt_59 ?_
        show Go V Γ M_X11_choiceAt (Zm V Γ 65 fin) 62 [(5, .int r4), (0, .ref (V.2.2.1 + 0)), (1, .int p1), (2, .int p2), (3, .int p3), (4, .int p4)] [.int r13, .ref (V.2.2.1 + 0)] σ8
        obtain ⟨r15, σ16, hc14, h⟩ := bd2_e h
        refine g_callV (pc := 62) X k_ml_X11_185 (run_RC_answer  hc14) s_0 rfl (room_ok (Nat.le_of_ble_eq_true rfl) (Nat.le_of_ble_eq_true rfl)) ⟨Nat.le_refl _, Nat.le_refl _⟩ _ rfl (Nat.le_of_ble_eq_true rfl) dX11_choiceAt_62 ?_
        show Go V Γ M_X11_choiceAt (Zm V Γ 65 fin) 65 [(5, .int r4), (0, .ref (V.2.2.1 + 0)), (1, .int p1), (2, .int p2), (3, .int p3), (4, .int p4)] [.int r15] σ16
        refine g_goto (pc := 65) (tgt := 74) X dX11_choiceAt_65 rfl ?_
        cases h
        exact g_iret (pc := 74) X rfl rfl (hr _ _ hA) dX11_choiceAt_74
    · replace h := if_f c21 h
      refine g_aload_n (pc := 34) X 1 rfl dX11_choiceAt_34 ?_
      refine g_iload (pc := 35) X 0 rfl dX11_choiceAt_35 ?_
      obtain ⟨r19, σ20, hc18, h⟩ := bd2_e h
      refine g_callV (pc := 37) X k_ml_X11_124 (run_RC_refuse  hc18) s_0 rfl (room_ok (Nat.le_of_ble_eq_true rfl) (Nat.le_of_ble_eq_true rfl)) ⟨Nat.le_refl _, Nat.le_refl _⟩ _ rfl (Nat.le_of_ble_eq_true rfl) dX11_choiceAt_37 ?_
      show Go V Γ M_X11_choiceAt (Zm V Γ 65 fin) 40 [(5, .int r4), (0, .ref (V.2.2.1 + 0)), (1, .int p1), (2, .int p2), (3, .int p3), (4, .int p4)] [.int r19] σ20
      cases h
      exact g_iret (pc := 40) X rfl rfl (hr _ _ hA) dX11_choiceAt_40
  · replace h := if_t c25 h
    refine g_aload_n (pc := 14) X 0 rfl dX11_choiceAt_14 ?_
    refine g_iconst (v := 1) (pc := 15) X rfl dX11_choiceAt_15 ?_
    obtain ⟨r23, σ24, hc22, h⟩ := bd2_e h
    refine g_callV (pc := 16) X k_ml_X11_124 (run_RC_refuse  hc22) s_0 rfl (room_ok (Nat.le_of_ble_eq_true rfl) (Nat.le_of_ble_eq_true rfl)) ⟨Nat.le_refl _, Nat.le_refl _⟩ _ rfl (Nat.le_of_ble_eq_true rfl) dX11_choiceAt_16 ?_
    show Go V Γ M_X11_choiceAt (Zm V Γ 65 fin) 19 [(0, .ref (V.2.2.1 + 0)), (1, .int p1), (2, .int p2), (3, .int p3), (4, .int p4)] [.int r23] σ24
    cases h
    exact g_iret (pc := 19) X rfl rfl (hr _ _ hA) dX11_choiceAt_19
set_option maxRecDepth 100000 in
theorem run_RC_choiceAt {V : Ev} {σ : St} {p1 : Int32} {p2 : Int32} {p3 : Int32} {p4 : Int32} {o : (Int32 × St)}   (h : RC_choiceAt σ p1 p2 p3 p4 = some o) : Rs V 65 M_X11_choiceAt [.ref (V.2.2.1 + 0), .int p1, .int p2, .int p3, .int p4] σ (some (.int o.1), o.2) := by
  refine Rs.of (by decide +kernel) (Nat.le_of_ble_eq_true rfl) (fun Γ X => ?_)
  exact tm_RC_choiceAt X (A := fun o1 => o1 = o)  (fun _ _ e => by rw [← e]) h rfl
theorem dX11_game_0 : decode cX11_game 0 = .ok (.iload_n 1, 1) := by decide +kernel
theorem dX11_game_1 : decode cX11_game 1 = .ok (.i2l, 1) := by decide +kernel
theorem dX11_game_2 : decode cX11_game 2 = .ok (.lconst 0, 1) := by decide +kernel
theorem dX11_game_3 : decode cX11_game 3 = .ok (.ldc2_w 276, 3) := by decide +kernel
theorem dX11_game_6 : decode cX11_game 6 = .ok (.invokestatic 98, 3) := by decide +kernel
theorem dX11_game_9 : decode cX11_game 9 = .ok (.ifCond .ne 9, 3) := by decide +kernel
theorem dX11_game_12 : decode cX11_game 12 = .ok (.aload_n 0, 1) := by decide +kernel
theorem dX11_game_13 : decode cX11_game 13 = .ok (.iconst 1, 1) := by decide +kernel
theorem dX11_game_14 : decode cX11_game 14 = .ok (.invokevirtual 124, 3) := by decide +kernel
theorem dX11_game_17 : decode cX11_game 17 = .ok (.ireturn, 1) := by decide +kernel
theorem dX11_game_18 : decode cX11_game 18 = .ok (.aload_n 0, 1) := by decide +kernel
theorem dX11_game_19 : decode cX11_game 19 = .ok (.getfield 36, 3) := by decide +kernel
theorem dX11_game_22 : decode cX11_game 22 = .ok (.aload_n 0, 1) := by decide +kernel
theorem dX11_game_23 : decode cX11_game 23 = .ok (.getfield 36, 3) := by decide +kernel
theorem dX11_game_26 : decode cX11_game 26 = .ok (.getfield 213, 3) := by decide +kernel
theorem dX11_game_29 : decode cX11_game 29 = .ok (.invokevirtual 308, 3) := by decide +kernel
theorem dX11_game_32 : decode cX11_game 32 = .ok (.ifCond .ne 10, 3) := by decide +kernel
theorem dX11_game_35 : decode cX11_game 35 = .ok (.aload_n 0, 1) := by decide +kernel
theorem dX11_game_36 : decode cX11_game 36 = .ok (.bipush 7, 2) := by decide +kernel
theorem dX11_game_38 : decode cX11_game 38 = .ok (.invokevirtual 124, 3) := by decide +kernel
theorem dX11_game_41 : decode cX11_game 41 = .ok (.ireturn, 1) := by decide +kernel
theorem dX11_game_42 : decode cX11_game 42 = .ok (.aload_n 0, 1) := by decide +kernel
theorem dX11_game_43 : decode cX11_game 43 = .ok (.aload_n 0, 1) := by decide +kernel
theorem dX11_game_44 : decode cX11_game 44 = .ok (.getfield 36, 3) := by decide +kernel
theorem dX11_game_47 : decode cX11_game 47 = .ok (.aload_n 0, 1) := by decide +kernel
theorem dX11_game_48 : decode cX11_game 48 = .ok (.getfield 67, 3) := by decide +kernel
theorem dX11_game_51 : decode cX11_game 51 = .ok (.aload_n 0, 1) := by decide +kernel
theorem dX11_game_52 : decode cX11_game 52 = .ok (.getfield 36, 3) := by decide +kernel
theorem dX11_game_55 : decode cX11_game 55 = .ok (.getfield 213, 3) := by decide +kernel
theorem dX11_game_58 : decode cX11_game 58 = .ok (.iload_n 1, 1) := by decide +kernel
theorem dX11_game_59 : decode cX11_game 59 = .ok (.iconst 1, 1) := by decide +kernel
theorem dX11_game_60 : decode cX11_game 60 = .ok (.invokestatic 388, 3) := by decide +kernel
theorem dX11_game_63 : decode cX11_game 63 = .ok (.invokevirtual 185, 3) := by decide +kernel
theorem dX11_game_66 : decode cX11_game 66 = .ok (.ireturn, 1) := by decide +kernel
noncomputable def RC_game (σ : St) (p1 : Int32) : Option (Int32 × St) :=
  bd (RC_within p1.toInt64 0 2) (fun r2 => if r2 = 0 then (bd2 (RC_refuse σ 1) (fun r16 σ17 => some (r16, σ17))) else (bd (Cl_spanOf σ 7 (σ.1 7 4)) (fun r4 => if r4 = 0 then (bd2 (RC_refuse σ 7) (fun r12 σ13 => some (r12, σ13))) else (bd2 (Ga_worth 60 σ 7 (σ.1 7 4) p1 1) (fun r6 σ7 => bd2 (RC_answer σ7 r6) (fun r9 σ10 => some (r9, σ10)))))))
set_option maxRecDepth 100000 in
set_option maxHeartbeats 4000000 in
theorem tm_RC_game {V : Ev} {Γ : Cn} {fin : Option Value × St} {σ : St} {p1 : Int32} {o : (Int32 × St)} (X : Cx V Γ M_X11_game) {A : (Int32 × St) → Prop}  (hr : ∀ (r : Int32) (σ9 : St), A (r, σ9) → (some (.int r), σ9) = fin) (h : RC_game σ p1 = some o) (hA : A o) : Go V Γ M_X11_game (Zm V Γ 65 fin) 0 [(0, .ref (V.2.2.1 + 0)), (1, .int p1)] [] σ := by
  unfold RC_game at h
  refine g_iload_n (pc := 0) X 1 rfl dX11_game_0 ?_
  refine g_i2l (pc := 1) X dX11_game_1 ?_
  refine g_lconst (v := 0) (pc := 2) X rfl dX11_game_2 ?_
  refine g_ldc2 (v := 2) (pc := 3) X k_constl_X11_276 dX11_game_3 ?_
  obtain ⟨r2, hc1, h⟩ := bd_e h
  refine g_callS (pc := 6) X k_ml_X11_98 (run_RC_within  hc1) rfl (room_ok (Nat.le_of_ble_eq_true rfl) (Nat.le_of_ble_eq_true rfl)) ⟨Nat.le_refl _, Nat.le_refl _⟩ _ rfl (Nat.le_of_ble_eq_true rfl) dX11_game_6 ?_
  show Go V Γ M_X11_game (Zm V Γ 65 fin) 9 [(0, .ref (V.2.2.1 + 0)), (1, .int p1)] [.int r2] σ
  refine g_if_ne (pc := 9) (tgt := 18) X dX11_game_9 rfl (fun c18 => ?_) (fun c18 => ?_)
  · replace h := if_f c18 h
    refine g_aload_n (pc := 18) X 0 rfl dX11_game_18 ?_
    refine g_getR (r := 7) (pc := 19) X k_fl_X11_36 s_0 rfl dX11_game_19 ?_
    refine g_aload_n (pc := 22) X 0 rfl dX11_game_22 ?_
    refine g_getR (r := 7) (pc := 23) X k_fl_X11_36 s_0 rfl dX11_game_23 ?_
    refine g_getI (pc := 26) X k_fl_X11_213 s_7 rfl dX11_game_26 ?_
    obtain ⟨r4, hc3, h⟩ := bd_e h
    refine g_callV (pc := 29) X k_ml_X11_308 (run_Cl_spanOf (oknCl_7) hc3) s_7 rfl (room_ok (Nat.le_of_ble_eq_true rfl) (Nat.le_of_ble_eq_true rfl)) ⟨Nat.le_refl _, Nat.le_refl _⟩ _ rfl (Nat.le_of_ble_eq_true rfl) dX11_game_29 ?_
    show Go V Γ M_X11_game (Zm V Γ 65 fin) 32 [(0, .ref (V.2.2.1 + 0)), (1, .int p1)] [.int r4] σ
    refine g_if_ne (pc := 32) (tgt := 42) X dX11_game_32 rfl (fun c14 => ?_) (fun c14 => ?_)
    · replace h := if_f c14 h
      refine g_aload_n (pc := 42) X 0 rfl dX11_game_42 ?_
      refine g_aload_n (pc := 43) X 0 rfl dX11_game_43 ?_
      refine g_getR (r := 7) (pc := 44) X k_fl_X11_36 s_0 rfl dX11_game_44 ?_
      refine g_aload_n (pc := 47) X 0 rfl dX11_game_47 ?_
      refine g_getR (r := 31) (pc := 48) X k_fl_X11_67 s_0 rfl dX11_game_48 ?_
      refine g_aload_n (pc := 51) X 0 rfl dX11_game_51 ?_
      refine g_getR (r := 7) (pc := 52) X k_fl_X11_36 s_0 rfl dX11_game_52 ?_
      refine g_getI (pc := 55) X k_fl_X11_213 s_7 rfl dX11_game_55 ?_
      refine g_iload_n (pc := 58) X 1 rfl dX11_game_58 ?_
      refine g_iconst (v := 1) (pc := 59) X rfl dX11_game_59 ?_
      obtain ⟨r6, σ7, hc5, h⟩ := bd2_e h
      refine g_callS (pc := 60) X k_ml_X11_388 (run_Ga_worth 60 (oknCl_7) hc5) rfl (room_ok (Nat.le_of_ble_eq_true rfl) (Nat.le_of_ble_eq_true rfl)) ⟨Nat.le_refl _, Nat.le_refl _⟩ _ rfl (Nat.le_of_ble_eq_true rfl) dX11_game_60 ?_
      show Go V Γ M_X11_game (Zm V Γ 65 fin) 63 [(0, .ref (V.2.2.1 + 0)), (1, .int p1)] [.int r6, .ref (V.2.2.1 + 0)] σ7
      obtain ⟨r9, σ10, hc8, h⟩ := bd2_e h
      refine g_callV (pc := 63) X k_ml_X11_185 (run_RC_answer  hc8) s_0 rfl (room_ok (Nat.le_of_ble_eq_true rfl) (Nat.le_of_ble_eq_true rfl)) ⟨Nat.le_refl _, Nat.le_refl _⟩ _ rfl (Nat.le_of_ble_eq_true rfl) dX11_game_63 ?_
      show Go V Γ M_X11_game (Zm V Γ 65 fin) 66 [(0, .ref (V.2.2.1 + 0)), (1, .int p1)] [.int r9] σ10
      cases h
      exact g_iret (pc := 66) X rfl rfl (hr _ _ hA) dX11_game_66
    · replace h := if_t c14 h
      refine g_aload_n (pc := 35) X 0 rfl dX11_game_35 ?_
      refine g_bipush (v := 7) (pc := 36) X (by decide) dX11_game_36 ?_
      obtain ⟨r12, σ13, hc11, h⟩ := bd2_e h
      refine g_callV (pc := 38) X k_ml_X11_124 (run_RC_refuse  hc11) s_0 rfl (room_ok (Nat.le_of_ble_eq_true rfl) (Nat.le_of_ble_eq_true rfl)) ⟨Nat.le_refl _, Nat.le_refl _⟩ _ rfl (Nat.le_of_ble_eq_true rfl) dX11_game_38 ?_
      show Go V Γ M_X11_game (Zm V Γ 65 fin) 41 [(0, .ref (V.2.2.1 + 0)), (1, .int p1)] [.int r12] σ13
      cases h
      exact g_iret (pc := 41) X rfl rfl (hr _ _ hA) dX11_game_41
  · replace h := if_t c18 h
    refine g_aload_n (pc := 12) X 0 rfl dX11_game_12 ?_
    refine g_iconst (v := 1) (pc := 13) X rfl dX11_game_13 ?_
    obtain ⟨r16, σ17, hc15, h⟩ := bd2_e h
    refine g_callV (pc := 14) X k_ml_X11_124 (run_RC_refuse  hc15) s_0 rfl (room_ok (Nat.le_of_ble_eq_true rfl) (Nat.le_of_ble_eq_true rfl)) ⟨Nat.le_refl _, Nat.le_refl _⟩ _ rfl (Nat.le_of_ble_eq_true rfl) dX11_game_14 ?_
    show Go V Γ M_X11_game (Zm V Γ 65 fin) 17 [(0, .ref (V.2.2.1 + 0)), (1, .int p1)] [.int r16] σ17
    cases h
    exact g_iret (pc := 17) X rfl rfl (hr _ _ hA) dX11_game_17
set_option maxRecDepth 100000 in
theorem run_RC_game {V : Ev} {σ : St} {p1 : Int32} {o : (Int32 × St)}   (h : RC_game σ p1 = some o) : Rs V 65 M_X11_game [.ref (V.2.2.1 + 0), .int p1] σ (some (.int o.1), o.2) := by
  refine Rs.of (by decide +kernel) (Nat.le_of_ble_eq_true rfl) (fun Γ X => ?_)
  exact tm_RC_game X (A := fun o1 => o1 = o)  (fun _ _ e => by rw [← e]) h rfl
theorem dX11_moveOf_0 : decode cX11_moveOf 0 = .ok (.iload_n 1, 1) := by decide +kernel
theorem dX11_moveOf_1 : decode cX11_moveOf 1 = .ok (.i2l, 1) := by decide +kernel
theorem dX11_moveOf_2 : decode cX11_moveOf 2 = .ok (.lconst 1, 1) := by decide +kernel
theorem dX11_moveOf_3 : decode cX11_moveOf 3 = .ok (.ldc2_w 276, 3) := by decide +kernel
theorem dX11_moveOf_6 : decode cX11_moveOf 6 = .ok (.invokestatic 98, 3) := by decide +kernel
theorem dX11_moveOf_9 : decode cX11_moveOf 9 = .ok (.ifCond .ne 9, 3) := by decide +kernel
theorem dX11_moveOf_12 : decode cX11_moveOf 12 = .ok (.aload_n 0, 1) := by decide +kernel
theorem dX11_moveOf_13 : decode cX11_moveOf 13 = .ok (.iconst 1, 1) := by decide +kernel
theorem dX11_moveOf_14 : decode cX11_moveOf 14 = .ok (.invokevirtual 124, 3) := by decide +kernel
theorem dX11_moveOf_17 : decode cX11_moveOf 17 = .ok (.ireturn, 1) := by decide +kernel
theorem dX11_moveOf_18 : decode cX11_moveOf 18 = .ok (.aload_n 0, 1) := by decide +kernel
theorem dX11_moveOf_19 : decode cX11_moveOf 19 = .ok (.getfield 36, 3) := by decide +kernel
theorem dX11_moveOf_22 : decode cX11_moveOf 22 = .ok (.aload_n 0, 1) := by decide +kernel
theorem dX11_moveOf_23 : decode cX11_moveOf 23 = .ok (.getfield 36, 3) := by decide +kernel
theorem dX11_moveOf_26 : decode cX11_moveOf 26 = .ok (.getfield 213, 3) := by decide +kernel
theorem dX11_moveOf_29 : decode cX11_moveOf 29 = .ok (.invokevirtual 308, 3) := by decide +kernel
theorem dX11_moveOf_32 : decode cX11_moveOf 32 = .ok (.ifCond .ne 10, 3) := by decide +kernel
theorem dX11_moveOf_35 : decode cX11_moveOf 35 = .ok (.aload_n 0, 1) := by decide +kernel
theorem dX11_moveOf_36 : decode cX11_moveOf 36 = .ok (.bipush 7, 2) := by decide +kernel
theorem dX11_moveOf_38 : decode cX11_moveOf 38 = .ok (.invokevirtual 124, 3) := by decide +kernel
theorem dX11_moveOf_41 : decode cX11_moveOf 41 = .ok (.ireturn, 1) := by decide +kernel
theorem dX11_moveOf_42 : decode cX11_moveOf 42 = .ok (.aload_n 0, 1) := by decide +kernel
theorem dX11_moveOf_43 : decode cX11_moveOf 43 = .ok (.aload_n 0, 1) := by decide +kernel
theorem dX11_moveOf_44 : decode cX11_moveOf 44 = .ok (.getfield 36, 3) := by decide +kernel
theorem dX11_moveOf_47 : decode cX11_moveOf 47 = .ok (.aload_n 0, 1) := by decide +kernel
theorem dX11_moveOf_48 : decode cX11_moveOf 48 = .ok (.getfield 67, 3) := by decide +kernel
theorem dX11_moveOf_51 : decode cX11_moveOf 51 = .ok (.iload_n 1, 1) := by decide +kernel
theorem dX11_moveOf_52 : decode cX11_moveOf 52 = .ok (.invokestatic 394, 3) := by decide +kernel
theorem dX11_moveOf_55 : decode cX11_moveOf 55 = .ok (.invokevirtual 256, 3) := by decide +kernel
theorem dX11_moveOf_58 : decode cX11_moveOf 58 = .ok (.ireturn, 1) := by decide +kernel
noncomputable def RC_moveOf (σ : St) (p1 : Int32) : Option (Int32 × St) :=
  bd (RC_within p1.toInt64 1 2) (fun r2 => if r2 = 0 then (bd2 (RC_refuse σ 1) (fun r16 σ17 => some (r16, σ17))) else (bd (Cl_spanOf σ 7 (σ.1 7 4)) (fun r4 => if r4 = 0 then (bd2 (RC_refuse σ 7) (fun r12 σ13 => some (r12, σ13))) else (bd2 (Ga_bestSwitch σ 7 p1) (fun r6 σ7 => bd2 (RC_answerOrNone σ7 r6) (fun r9 σ10 => some (r9, σ10)))))))
set_option maxRecDepth 100000 in
set_option maxHeartbeats 4000000 in
theorem tm_RC_moveOf {V : Ev} {Γ : Cn} {fin : Option Value × St} {σ : St} {p1 : Int32} {o : (Int32 × St)} (X : Cx V Γ M_X11_moveOf) {A : (Int32 × St) → Prop}  (hr : ∀ (r : Int32) (σ9 : St), A (r, σ9) → (some (.int r), σ9) = fin) (h : RC_moveOf σ p1 = some o) (hA : A o) : Go V Γ M_X11_moveOf (Zm V Γ 66 fin) 0 [(0, .ref (V.2.2.1 + 0)), (1, .int p1)] [] σ := by
  unfold RC_moveOf at h
  refine g_iload_n (pc := 0) X 1 rfl dX11_moveOf_0 ?_
  refine g_i2l (pc := 1) X dX11_moveOf_1 ?_
  refine g_lconst (v := 1) (pc := 2) X rfl dX11_moveOf_2 ?_
  refine g_ldc2 (v := 2) (pc := 3) X k_constl_X11_276 dX11_moveOf_3 ?_
  obtain ⟨r2, hc1, h⟩ := bd_e h
  refine g_callS (pc := 6) X k_ml_X11_98 (run_RC_within  hc1) rfl (room_ok (Nat.le_of_ble_eq_true rfl) (Nat.le_of_ble_eq_true rfl)) ⟨Nat.le_refl _, Nat.le_refl _⟩ _ rfl (Nat.le_of_ble_eq_true rfl) dX11_moveOf_6 ?_
  show Go V Γ M_X11_moveOf (Zm V Γ 66 fin) 9 [(0, .ref (V.2.2.1 + 0)), (1, .int p1)] [.int r2] σ
  refine g_if_ne (pc := 9) (tgt := 18) X dX11_moveOf_9 rfl (fun c18 => ?_) (fun c18 => ?_)
  · replace h := if_f c18 h
    refine g_aload_n (pc := 18) X 0 rfl dX11_moveOf_18 ?_
    refine g_getR (r := 7) (pc := 19) X k_fl_X11_36 s_0 rfl dX11_moveOf_19 ?_
    refine g_aload_n (pc := 22) X 0 rfl dX11_moveOf_22 ?_
    refine g_getR (r := 7) (pc := 23) X k_fl_X11_36 s_0 rfl dX11_moveOf_23 ?_
    refine g_getI (pc := 26) X k_fl_X11_213 s_7 rfl dX11_moveOf_26 ?_
    obtain ⟨r4, hc3, h⟩ := bd_e h
    refine g_callV (pc := 29) X k_ml_X11_308 (run_Cl_spanOf (oknCl_7) hc3) s_7 rfl (room_ok (Nat.le_of_ble_eq_true rfl) (Nat.le_of_ble_eq_true rfl)) ⟨Nat.le_refl _, Nat.le_refl _⟩ _ rfl (Nat.le_of_ble_eq_true rfl) dX11_moveOf_29 ?_
    show Go V Γ M_X11_moveOf (Zm V Γ 66 fin) 32 [(0, .ref (V.2.2.1 + 0)), (1, .int p1)] [.int r4] σ
    refine g_if_ne (pc := 32) (tgt := 42) X dX11_moveOf_32 rfl (fun c14 => ?_) (fun c14 => ?_)
    · replace h := if_f c14 h
      refine g_aload_n (pc := 42) X 0 rfl dX11_moveOf_42 ?_
      refine g_aload_n (pc := 43) X 0 rfl dX11_moveOf_43 ?_
      refine g_getR (r := 7) (pc := 44) X k_fl_X11_36 s_0 rfl dX11_moveOf_44 ?_
      refine g_aload_n (pc := 47) X 0 rfl dX11_moveOf_47 ?_
      refine g_getR (r := 31) (pc := 48) X k_fl_X11_67 s_0 rfl dX11_moveOf_48 ?_
      refine g_iload_n (pc := 51) X 1 rfl dX11_moveOf_51 ?_
      obtain ⟨r6, σ7, hc5, h⟩ := bd2_e h
      refine g_callS (pc := 52) X k_ml_X11_394 (run_Ga_bestSwitch (oknCl_7) hc5) rfl (room_ok (Nat.le_of_ble_eq_true rfl) (Nat.le_of_ble_eq_true rfl)) ⟨Nat.le_refl _, Nat.le_refl _⟩ _ rfl (Nat.le_of_ble_eq_true rfl) dX11_moveOf_52 ?_
      show Go V Γ M_X11_moveOf (Zm V Γ 66 fin) 55 [(0, .ref (V.2.2.1 + 0)), (1, .int p1)] [.int r6, .ref (V.2.2.1 + 0)] σ7
      obtain ⟨r9, σ10, hc8, h⟩ := bd2_e h
      refine g_callV (pc := 55) X k_ml_X11_256 (run_RC_answerOrNone  hc8) s_0 rfl (room_ok (Nat.le_of_ble_eq_true rfl) (Nat.le_of_ble_eq_true rfl)) ⟨Nat.le_refl _, Nat.le_refl _⟩ _ rfl (Nat.le_of_ble_eq_true rfl) dX11_moveOf_55 ?_
      show Go V Γ M_X11_moveOf (Zm V Γ 66 fin) 58 [(0, .ref (V.2.2.1 + 0)), (1, .int p1)] [.int r9] σ10
      cases h
      exact g_iret (pc := 58) X rfl rfl (hr _ _ hA) dX11_moveOf_58
    · replace h := if_t c14 h
      refine g_aload_n (pc := 35) X 0 rfl dX11_moveOf_35 ?_
      refine g_bipush (v := 7) (pc := 36) X (by decide) dX11_moveOf_36 ?_
      obtain ⟨r12, σ13, hc11, h⟩ := bd2_e h
      refine g_callV (pc := 38) X k_ml_X11_124 (run_RC_refuse  hc11) s_0 rfl (room_ok (Nat.le_of_ble_eq_true rfl) (Nat.le_of_ble_eq_true rfl)) ⟨Nat.le_refl _, Nat.le_refl _⟩ _ rfl (Nat.le_of_ble_eq_true rfl) dX11_moveOf_38 ?_
      show Go V Γ M_X11_moveOf (Zm V Γ 66 fin) 41 [(0, .ref (V.2.2.1 + 0)), (1, .int p1)] [.int r12] σ13
      cases h
      exact g_iret (pc := 41) X rfl rfl (hr _ _ hA) dX11_moveOf_41
  · replace h := if_t c18 h
    refine g_aload_n (pc := 12) X 0 rfl dX11_moveOf_12 ?_
    refine g_iconst (v := 1) (pc := 13) X rfl dX11_moveOf_13 ?_
    obtain ⟨r16, σ17, hc15, h⟩ := bd2_e h
    refine g_callV (pc := 14) X k_ml_X11_124 (run_RC_refuse  hc15) s_0 rfl (room_ok (Nat.le_of_ble_eq_true rfl) (Nat.le_of_ble_eq_true rfl)) ⟨Nat.le_refl _, Nat.le_refl _⟩ _ rfl (Nat.le_of_ble_eq_true rfl) dX11_moveOf_14 ?_
    show Go V Γ M_X11_moveOf (Zm V Γ 66 fin) 17 [(0, .ref (V.2.2.1 + 0)), (1, .int p1)] [.int r16] σ17
    cases h
    exact g_iret (pc := 17) X rfl rfl (hr _ _ hA) dX11_moveOf_17
set_option maxRecDepth 100000 in
theorem run_RC_moveOf {V : Ev} {σ : St} {p1 : Int32} {o : (Int32 × St)}   (h : RC_moveOf σ p1 = some o) : Rs V 66 M_X11_moveOf [.ref (V.2.2.1 + 0), .int p1] σ (some (.int o.1), o.2) := by
  refine Rs.of (by decide +kernel) (Nat.le_of_ble_eq_true rfl) (fun Γ X => ?_)
  exact tm_RC_moveOf X (A := fun o1 => o1 = o)  (fun _ _ e => by rw [← e]) h rfl
theorem dX11_ways_0 : decode cX11_ways 0 = .ok (.lconst 1, 1) := by decide +kernel
theorem dX11_ways_1 : decode cX11_ways 1 = .ok (.lstore_n 2, 1) := by decide +kernel
theorem dX11_ways_2 : decode cX11_ways 2 = .ok (.iconst 0, 1) := by decide +kernel
theorem dX11_ways_3 : decode cX11_ways 3 = .ok (.istore 4, 2) := by decide +kernel
theorem dX11_ways_5 : decode cX11_ways 5 = .ok (.iload 4, 2) := by decide +kernel
theorem dX11_ways_7 : decode cX11_ways 7 = .ok (.iload_n 1, 1) := by decide +kernel
theorem dX11_ways_8 : decode cX11_ways 8 = .ok (.if_icmp .ge 25, 3) := by decide +kernel
theorem dX11_ways_11 : decode cX11_ways 11 = .ok (.lload_n 2, 1) := by decide +kernel
theorem dX11_ways_12 : decode cX11_ways 12 = .ok (.iload_n 0, 1) := by decide +kernel
theorem dX11_ways_13 : decode cX11_ways 13 = .ok (.iload 4, 2) := by decide +kernel
theorem dX11_ways_15 : decode cX11_ways 15 = .ok (.isub, 1) := by decide +kernel
theorem dX11_ways_16 : decode cX11_ways 16 = .ok (.i2l, 1) := by decide +kernel
theorem dX11_ways_17 : decode cX11_ways 17 = .ok (.lmul, 1) := by decide +kernel
theorem dX11_ways_18 : decode cX11_ways 18 = .ok (.iload 4, 2) := by decide +kernel
theorem dX11_ways_20 : decode cX11_ways 20 = .ok (.i2l, 1) := by decide +kernel
theorem dX11_ways_21 : decode cX11_ways 21 = .ok (.lconst 1, 1) := by decide +kernel
theorem dX11_ways_22 : decode cX11_ways 22 = .ok (.ladd, 1) := by decide +kernel
theorem dX11_ways_23 : decode cX11_ways 23 = .ok (.invokestatic 404, 3) := by decide +kernel
theorem dX11_ways_26 : decode cX11_ways 26 = .ok (.lstore_n 2, 1) := by decide +kernel
theorem dX11_ways_27 : decode cX11_ways 27 = .ok (.iinc 4 1, 3) := by decide +kernel
theorem dX11_ways_30 : decode cX11_ways 30 = .ok (.goto (-25), 3) := by decide +kernel
theorem dX11_ways_33 : decode cX11_ways 33 = .ok (.lload_n 2, 1) := by decide +kernel
theorem dX11_ways_34 : decode cX11_ways 34 = .ok (.lreturn, 1) := by decide +kernel
noncomputable def RC_ways_L5 (l0 : Int32) (l1 : Int32) (x2 : Int64) (x4 : Int32) : Option ((Int64 × Int32) ⊕ Int64) :=
  if l1 ≤ x4 then (some (.inr x2)) else (bd (RC_partBy (x2 * ((l0 - x4).toInt64)) (x4.toInt64 + 1)) (fun r2 => bnd (x4 + 1) (fun v3 => some (.inl (r2, v3)))))
set_option maxRecDepth 100000 in
set_option maxHeartbeats 4000000 in
theorem tb_RC_ways_L5 {V : Ev} {Γ : Cn} {fin : Option Value × St} {σ : St} {l0 : Int32} {l1 : Int32} {x2 : Int64} {x4 : Int32} {o : ((Int64 × Int32) ⊕ Int64)} (X : Cx V Γ M_X11_ways) {A : ((Int64 × Int32) ⊕ Int64) → Prop}  (hb5 : ∀ (x2 : Int64) (x4 : Int32), A (.inl (x2, x4)) → Go V Γ M_X11_ways (Zm V Γ 1 fin) 5 [(0, .int l0), (1, .int l1), (2, .long x2), (4, .int x4)] [] σ) (hx5 : ∀ (x2 : Int64), A (.inr x2) → Go V Γ M_X11_ways (Zm V Γ 1 fin) 33 [(2, .long x2)] [] σ) (h : RC_ways_L5 l0 l1 x2 x4 = some o) (hA : A o) : Go V Γ M_X11_ways (Zm V Γ 1 fin) 5 [(0, .int l0), (1, .int l1), (2, .long x2), (4, .int x4)] [] σ := by
  unfold RC_ways_L5 at h
  refine g_iload (pc := 5) X 3 rfl dX11_ways_5 ?_
  refine g_iload_n (pc := 7) X 1 rfl dX11_ways_7 ?_
  refine g_icmp_ge (pc := 8) (tgt := 33) X dX11_ways_8 rfl (fun c4 => ?_) (fun c4 => ?_)
  · replace h := if_t c4 h
    refine g_sub [2] rfl ?_
    cases h
    exact hx5 _ hA
  · replace h := if_f c4 h
    refine g_lload_n (pc := 11) X 2 rfl dX11_ways_11 ?_
    refine g_iload_n (pc := 12) X 0 rfl dX11_ways_12 ?_
    refine g_iload (pc := 13) X 3 rfl dX11_ways_13 ?_
    refine g_isub (pc := 15) X dX11_ways_15 ?_
    refine g_i2l (pc := 16) X dX11_ways_16 ?_
    refine g_lmul (pc := 17) X dX11_ways_17 ?_
    refine g_iload (pc := 18) X 3 rfl dX11_ways_18 ?_
    refine g_i2l (pc := 20) X dX11_ways_20 ?_
    refine g_lconst (v := 1) (pc := 21) X rfl dX11_ways_21 ?_
    refine g_ladd (pc := 22) X dX11_ways_22 ?_
    obtain ⟨r2, hc1, h⟩ := bd_e h
    refine g_callS (pc := 23) X k_ml_X11_404 (run_RC_partBy  hc1) rfl (room_ok (Nat.le_of_ble_eq_true rfl) (Nat.le_of_ble_eq_true rfl)) ⟨Nat.le_refl _, Nat.le_refl _⟩ _ rfl (Nat.le_of_ble_eq_true rfl) dX11_ways_23 ?_
    show Go V Γ M_X11_ways (Zm V Γ 1 fin) 26 [(0, .int l0), (1, .int l1), (2, .long x2), (4, .int x4)] [.long r2] σ
    refine g_lstore_n (pc := 26) X [(2, .long r2), (0, .int l0), (1, .int l1), (4, .int x4)] rfl (Nat.le_of_ble_eq_true rfl) rfl dX11_ways_26 ?_
    obtain ⟨v3, e_v3, h⟩ := bnd_e h
    refine g_iinc (pc := 27) (v := v3) X [(4, .int v3), (2, .long r2), (0, .int l0), (1, .int l1)] 3 rfl (by rw [e_v3]; rfl) (Nat.le_of_ble_eq_true rfl) rfl dX11_ways_27 ?_
    refine g_goto (pc := 30) (tgt := 5) X dX11_ways_30 rfl ?_
    refine g_sub [2, 3, 1, 0] rfl ?_
    cases h
    exact hb5 _ _ hA
set_option maxRecDepth 100000 in
theorem tl_RC_ways_L5 {V : Ev} {Γ : Cn} {fin : Option Value × St} {l0 : Int32} {l1 : Int32} {σ : St} {x2 : Int64} {x4 : Int32} (X : Cx V Γ M_X11_ways)  {y2 : Int64} {n : Nat} (h : iter (fun s : (Int64 × Int32) => RC_ways_L5 l0 l1 s.1 s.2) n (x2, x4) = some y2) (hK : Go V Γ M_X11_ways (Zm V Γ 1 fin) 33 [(2, .long y2)] [] σ) : Go V Γ M_X11_ways (Zm V Γ 1 fin) 5 [(0, .int l0), (1, .int l1), (2, .long x2), (4, .int x4)] [] σ := by
  refine iter_go (G := (fun s : (Int64 × Int32) => Go V Γ M_X11_ways (Zm V Γ 1 fin) 5 [(0, .int l0), (1, .int l1), (2, .long s.1), (4, .int s.2)] [] σ)) (fun s o ho hS => ?_) n (x2, x4) h
  exact tb_RC_ways_L5 X  (fun _ _ h9 => h9) (fun _ he => by cases he; exact hK) ho hS
noncomputable def RC_ways (p0 : Int32) (p1 : Int32) : Option Int64 :=
  bd (iter (fun s : (Int64 × Int32) => RC_ways_L5 p0 p1 s.1 s.2) FUEL (1, 0)) (fun v5 => some v5)
set_option maxRecDepth 100000 in
set_option maxHeartbeats 4000000 in
theorem tm_RC_ways {V : Ev} {Γ : Cn} {fin : Option Value × St} {σ : St} {p0 : Int32} {p1 : Int32} {o : Int64} (X : Cx V Γ M_X11_ways) {A : Int64 → Prop}  (hr : ∀ (r : Int64), A r → (some (.long r), σ) = fin) (h : RC_ways p0 p1 = some o) (hA : A o) : Go V Γ M_X11_ways (Zm V Γ 1 fin) 0 [(0, .int p0), (1, .int p1)] [] σ := by
  unfold RC_ways at h
  refine g_lconst (v := 1) (pc := 0) X rfl dX11_ways_0 ?_
  refine g_lstore_n (pc := 1) X [(2, .long 1), (0, .int p0), (1, .int p1)] rfl (Nat.le_of_ble_eq_true rfl) rfl dX11_ways_1 ?_
  refine g_iconst (v := 0) (pc := 2) X rfl dX11_ways_2 ?_
  refine g_istore (pc := 3) X [(4, .int 0), (2, .long 1), (0, .int p0), (1, .int p1)] (Nat.le_of_ble_eq_true rfl) rfl dX11_ways_3 ?_
  refine g_sub [2, 3, 1, 0] rfl ?_
  obtain ⟨v5, hi6, h⟩ := bd_e h
  refine tl_RC_ways_L5 X  hi6 ?_
  refine g_lload_n (pc := 33) X 0 rfl dX11_ways_33 ?_
  cases h
  exact g_lret (pc := 34) X rfl (hr _ hA) dX11_ways_34
set_option maxRecDepth 100000 in
theorem run_RC_ways {V : Ev} {σ : St} {p0 : Int32} {p1 : Int32} {o : Int64}   (h : RC_ways p0 p1 = some o) : Rs V 1 M_X11_ways [.int p0, .int p1] σ (some (.long o), σ) := by
  refine Rs.of (by decide +kernel) (Nat.le_of_ble_eq_true rfl) (fun Γ X => ?_)
  exact tm_RC_ways X (A := fun o1 => o1 = o)  (fun _ e => by rw [e]) h rfl
theorem dX11_power_0 : decode cX11_power 0 = .ok (.lconst 1, 1) := by decide +kernel
theorem dX11_power_1 : decode cX11_power 1 = .ok (.lstore_n 3, 1) := by decide +kernel
theorem dX11_power_2 : decode cX11_power 2 = .ok (.iconst 0, 1) := by decide +kernel
theorem dX11_power_3 : decode cX11_power 3 = .ok (.istore 5, 2) := by decide +kernel
theorem dX11_power_5 : decode cX11_power 5 = .ok (.iload 5, 2) := by decide +kernel
theorem dX11_power_7 : decode cX11_power 7 = .ok (.iload_n 2, 1) := by decide +kernel
theorem dX11_power_8 : decode cX11_power 8 = .ok (.if_icmp .ge 13, 3) := by decide +kernel
theorem dX11_power_11 : decode cX11_power 11 = .ok (.lload_n 3, 1) := by decide +kernel
theorem dX11_power_12 : decode cX11_power 12 = .ok (.lload_n 0, 1) := by decide +kernel
theorem dX11_power_13 : decode cX11_power 13 = .ok (.lmul, 1) := by decide +kernel
theorem dX11_power_14 : decode cX11_power 14 = .ok (.lstore_n 3, 1) := by decide +kernel
theorem dX11_power_15 : decode cX11_power 15 = .ok (.iinc 5 1, 3) := by decide +kernel
theorem dX11_power_18 : decode cX11_power 18 = .ok (.goto (-13), 3) := by decide +kernel
theorem dX11_power_21 : decode cX11_power 21 = .ok (.lload_n 3, 1) := by decide +kernel
theorem dX11_power_22 : decode cX11_power 22 = .ok (.lreturn, 1) := by decide +kernel
noncomputable def RC_power_L5 (l0 : Int64) (l2 : Int32) (x3 : Int64) (x5 : Int32) : Option ((Int64 × Int32) ⊕ Int64) :=
  if l2 ≤ x5 then (some (.inr x3)) else (bnd ((x3 * l0)) (fun v1 => bnd (x5 + 1) (fun v2 => some (.inl (v1, v2)))))
set_option maxRecDepth 100000 in
set_option maxHeartbeats 4000000 in
theorem tb_RC_power_L5 {V : Ev} {Γ : Cn} {fin : Option Value × St} {σ : St} {l0 : Int64} {l2 : Int32} {x3 : Int64} {x5 : Int32} {o : ((Int64 × Int32) ⊕ Int64)} (X : Cx V Γ M_X11_power) {A : ((Int64 × Int32) ⊕ Int64) → Prop}  (hb5 : ∀ (x3 : Int64) (x5 : Int32), A (.inl (x3, x5)) → Go V Γ M_X11_power (Zm V Γ 0 fin) 5 [(0, .long l0), (2, .int l2), (3, .long x3), (5, .int x5)] [] σ) (hx5 : ∀ (x3 : Int64), A (.inr x3) → Go V Γ M_X11_power (Zm V Γ 0 fin) 21 [(3, .long x3)] [] σ) (h : RC_power_L5 l0 l2 x3 x5 = some o) (hA : A o) : Go V Γ M_X11_power (Zm V Γ 0 fin) 5 [(0, .long l0), (2, .int l2), (3, .long x3), (5, .int x5)] [] σ := by
  unfold RC_power_L5 at h
  refine g_iload (pc := 5) X 3 rfl dX11_power_5 ?_
  refine g_iload_n (pc := 7) X 1 rfl dX11_power_7 ?_
  refine g_icmp_ge (pc := 8) (tgt := 21) X dX11_power_8 rfl (fun c3 => ?_) (fun c3 => ?_)
  · replace h := if_t c3 h
    refine g_sub [2] rfl ?_
    cases h
    exact hx5 _ hA
  · replace h := if_f c3 h
    refine g_lload_n (pc := 11) X 2 rfl dX11_power_11 ?_
    refine g_lload_n (pc := 12) X 0 rfl dX11_power_12 ?_
    refine g_lmul (pc := 13) X dX11_power_13 ?_
    obtain ⟨v1, e_v1, h⟩ := bnd_e h
    refine g_nmL e_v1 ?_
    refine g_lstore_n (pc := 14) X [(3, .long v1), (0, .long l0), (2, .int l2), (5, .int x5)] rfl (Nat.le_of_ble_eq_true rfl) rfl dX11_power_14 ?_
    obtain ⟨v2, e_v2, h⟩ := bnd_e h
    refine g_iinc (pc := 15) (v := v2) X [(5, .int v2), (3, .long v1), (0, .long l0), (2, .int l2)] 3 rfl (by rw [e_v2]; rfl) (Nat.le_of_ble_eq_true rfl) rfl dX11_power_15 ?_
    refine g_goto (pc := 18) (tgt := 5) X dX11_power_18 rfl ?_
    refine g_sub [2, 3, 1, 0] rfl ?_
    cases h
    exact hb5 _ _ hA
set_option maxRecDepth 100000 in
theorem tl_RC_power_L5 {V : Ev} {Γ : Cn} {fin : Option Value × St} {l0 : Int64} {l2 : Int32} {σ : St} {x3 : Int64} {x5 : Int32} (X : Cx V Γ M_X11_power)  {y3 : Int64} {n : Nat} (h : iter (fun s : (Int64 × Int32) => RC_power_L5 l0 l2 s.1 s.2) n (x3, x5) = some y3) (hK : Go V Γ M_X11_power (Zm V Γ 0 fin) 21 [(3, .long y3)] [] σ) : Go V Γ M_X11_power (Zm V Γ 0 fin) 5 [(0, .long l0), (2, .int l2), (3, .long x3), (5, .int x5)] [] σ := by
  refine iter_go (G := (fun s : (Int64 × Int32) => Go V Γ M_X11_power (Zm V Γ 0 fin) 5 [(0, .long l0), (2, .int l2), (3, .long s.1), (5, .int s.2)] [] σ)) (fun s o ho hS => ?_) n (x3, x5) h
  exact tb_RC_power_L5 X  (fun _ _ h9 => h9) (fun _ he => by cases he; exact hK) ho hS
noncomputable def RC_power (p0 : Int64) (p1 : Int32) : Option Int64 :=
  bd (iter (fun s : (Int64 × Int32) => RC_power_L5 p0 p1 s.1 s.2) FUEL (1, 0)) (fun v4 => some v4)
set_option maxRecDepth 100000 in
set_option maxHeartbeats 4000000 in
theorem tm_RC_power {V : Ev} {Γ : Cn} {fin : Option Value × St} {σ : St} {p0 : Int64} {p1 : Int32} {o : Int64} (X : Cx V Γ M_X11_power) {A : Int64 → Prop}  (hr : ∀ (r : Int64), A r → (some (.long r), σ) = fin) (h : RC_power p0 p1 = some o) (hA : A o) : Go V Γ M_X11_power (Zm V Γ 0 fin) 0 [(0, .long p0), (2, .int p1)] [] σ := by
  unfold RC_power at h
  refine g_lconst (v := 1) (pc := 0) X rfl dX11_power_0 ?_
  refine g_lstore_n (pc := 1) X [(3, .long 1), (0, .long p0), (2, .int p1)] rfl (Nat.le_of_ble_eq_true rfl) rfl dX11_power_1 ?_
  refine g_iconst (v := 0) (pc := 2) X rfl dX11_power_2 ?_
  refine g_istore (pc := 3) X [(5, .int 0), (3, .long 1), (0, .long p0), (2, .int p1)] (Nat.le_of_ble_eq_true rfl) rfl dX11_power_3 ?_
  refine g_sub [2, 3, 1, 0] rfl ?_
  obtain ⟨v4, hi5, h⟩ := bd_e h
  refine tl_RC_power_L5 X  hi5 ?_
  refine g_lload_n (pc := 21) X 0 rfl dX11_power_21 ?_
  cases h
  exact g_lret (pc := 22) X rfl (hr _ hA) dX11_power_22
set_option maxRecDepth 100000 in
theorem run_RC_power {V : Ev} {σ : St} {p0 : Int64} {p1 : Int32} {o : Int64}   (h : RC_power p0 p1 = some o) : Rs V 0 M_X11_power [.long p0, .int p1] σ (some (.long o), σ) := by
  refine Rs.of (by decide +kernel) (Nat.le_of_ble_eq_true rfl) (fun Γ X => ?_)
  exact tm_RC_power X (A := fun o1 => o1 = o)  (fun _ e => by rw [e]) h rfl
theorem dX11_uncaught_0 : decode cX11_uncaught 0 = .ok (.iload_n 1, 1) := by decide +kernel
theorem dX11_uncaught_1 : decode cX11_uncaught 1 = .ok (.i2l, 1) := by decide +kernel
theorem dX11_uncaught_2 : decode cX11_uncaught 2 = .ok (.lconst 0, 1) := by decide +kernel
theorem dX11_uncaught_3 : decode cX11_uncaught 3 = .ok (.ldc2_w 398, 3) := by decide +kernel
theorem dX11_uncaught_6 : decode cX11_uncaught 6 = .ok (.invokestatic 98, 3) := by decide +kernel
theorem dX11_uncaught_9 : decode cX11_uncaught 9 = .ok (.ifCond .eq 15, 3) := by decide +kernel
theorem dX11_uncaught_12 : decode cX11_uncaught 12 = .ok (.iload_n 2, 1) := by decide +kernel
theorem dX11_uncaught_13 : decode cX11_uncaught 13 = .ok (.i2l, 1) := by decide +kernel
theorem dX11_uncaught_14 : decode cX11_uncaught 14 = .ok (.lconst 0, 1) := by decide +kernel
theorem dX11_uncaught_15 : decode cX11_uncaught 15 = .ok (.ldc2_w 398, 3) := by decide +kernel
theorem dX11_uncaught_18 : decode cX11_uncaught 18 = .ok (.invokestatic 98, 3) := by decide +kernel
theorem dX11_uncaught_21 : decode cX11_uncaught 21 = .ok (.ifCond .ne 9, 3) := by decide +kernel
theorem dX11_uncaught_24 : decode cX11_uncaught 24 = .ok (.aload_n 0, 1) := by decide +kernel
theorem dX11_uncaught_25 : decode cX11_uncaught 25 = .ok (.iconst 1, 1) := by decide +kernel
theorem dX11_uncaught_26 : decode cX11_uncaught 26 = .ok (.invokevirtual 104, 3) := by decide +kernel
theorem dX11_uncaught_29 : decode cX11_uncaught 29 = .ok (.ireturn, 1) := by decide +kernel
theorem dX11_uncaught_30 : decode cX11_uncaught 30 = .ok (.aload_n 0, 1) := by decide +kernel
theorem dX11_uncaught_31 : decode cX11_uncaught 31 = .ok (.invokevirtual 226, 3) := by decide +kernel
theorem dX11_uncaught_34 : decode cX11_uncaught 34 = .ok (.ifCond .ne 10, 3) := by decide +kernel
theorem dX11_uncaught_37 : decode cX11_uncaught 37 = .ok (.aload_n 0, 1) := by decide +kernel
theorem dX11_uncaught_38 : decode cX11_uncaught 38 = .ok (.bipush 7, 2) := by decide +kernel
theorem dX11_uncaught_40 : decode cX11_uncaught 40 = .ok (.invokevirtual 104, 3) := by decide +kernel
theorem dX11_uncaught_43 : decode cX11_uncaught 43 = .ok (.ireturn, 1) := by decide +kernel
theorem dX11_uncaught_44 : decode cX11_uncaught 44 = .ok (.aload_n 0, 1) := by decide +kernel
theorem dX11_uncaught_45 : decode cX11_uncaught 45 = .ok (.getfield 67, 3) := by decide +kernel
theorem dX11_uncaught_48 : decode cX11_uncaught 48 = .ok (.invokevirtual 232, 3) := by decide +kernel
theorem dX11_uncaught_51 : decode cX11_uncaught 51 = .ok (.istore_n 3, 1) := by decide +kernel
theorem dX11_uncaught_52 : decode cX11_uncaught 52 = .ok (.iload_n 3, 1) := by decide +kernel
theorem dX11_uncaught_53 : decode cX11_uncaught 53 = .ok (.i2l, 1) := by decide +kernel
theorem dX11_uncaught_54 : decode cX11_uncaught 54 = .ok (.aload_n 0, 1) := by decide +kernel
theorem dX11_uncaught_55 : decode cX11_uncaught 55 = .ok (.getfield 67, 3) := by decide +kernel
theorem dX11_uncaught_58 : decode cX11_uncaught 58 = .ok (.getfield 229, 3) := by decide +kernel
theorem dX11_uncaught_61 : decode cX11_uncaught 61 = .ok (.i2l, 1) := by decide +kernel
theorem dX11_uncaught_62 : decode cX11_uncaught 62 = .ok (.invokestatic 400, 3) := by decide +kernel
theorem dX11_uncaught_65 : decode cX11_uncaught 65 = .ok (.lstore 4, 2) := by decide +kernel
theorem dX11_uncaught_67 : decode cX11_uncaught 67 = .ok (.iload_n 3, 1) := by decide +kernel
theorem dX11_uncaught_68 : decode cX11_uncaught 68 = .ok (.i2l, 1) := by decide +kernel
theorem dX11_uncaught_69 : decode cX11_uncaught 69 = .ok (.lload 4, 2) := by decide +kernel
theorem dX11_uncaught_71 : decode cX11_uncaught 71 = .ok (.invokestatic 404, 3) := by decide +kernel
theorem dX11_uncaught_74 : decode cX11_uncaught 74 = .ok (.lstore 6, 2) := by decide +kernel
theorem dX11_uncaught_76 : decode cX11_uncaught 76 = .ok (.aload_n 0, 1) := by decide +kernel
theorem dX11_uncaught_77 : decode cX11_uncaught 77 = .ok (.getfield 67, 3) := by decide +kernel
theorem dX11_uncaught_80 : decode cX11_uncaught 80 = .ok (.getfield 229, 3) := by decide +kernel
theorem dX11_uncaught_83 : decode cX11_uncaught 83 = .ok (.i2l, 1) := by decide +kernel
theorem dX11_uncaught_84 : decode cX11_uncaught 84 = .ok (.lload 4, 2) := by decide +kernel
theorem dX11_uncaught_86 : decode cX11_uncaught 86 = .ok (.invokestatic 404, 3) := by decide +kernel
theorem dX11_uncaught_89 : decode cX11_uncaught 89 = .ok (.lstore 8, 2) := by decide +kernel
theorem dX11_uncaught_91 : decode cX11_uncaught 91 = .ok (.lconst 0, 1) := by decide +kernel
theorem dX11_uncaught_92 : decode cX11_uncaught 92 = .ok (.lstore 10, 2) := by decide +kernel
theorem dX11_uncaught_94 : decode cX11_uncaught 94 = .ok (.iload_n 2, 1) := by decide +kernel
theorem dX11_uncaught_95 : decode cX11_uncaught 95 = .ok (.istore 12, 2) := by decide +kernel
theorem dX11_uncaught_97 : decode cX11_uncaught 97 = .ok (.iload 12, 2) := by decide +kernel
theorem dX11_uncaught_99 : decode cX11_uncaught 99 = .ok (.iload_n 1, 1) := by decide +kernel
theorem dX11_uncaught_100 : decode cX11_uncaught 100 = .ok (.if_icmp .gt 41, 3) := by decide +kernel
theorem dX11_uncaught_103 : decode cX11_uncaught 103 = .ok (.lload 10, 2) := by decide +kernel
theorem dX11_uncaught_105 : decode cX11_uncaught 105 = .ok (.iload_n 1, 1) := by decide +kernel
theorem dX11_uncaught_106 : decode cX11_uncaught 106 = .ok (.iload 12, 2) := by decide +kernel
theorem dX11_uncaught_108 : decode cX11_uncaught 108 = .ok (.invokestatic 407, 3) := by decide +kernel
theorem dX11_uncaught_111 : decode cX11_uncaught 111 = .ok (.lload 6, 2) := by decide +kernel
theorem dX11_uncaught_113 : decode cX11_uncaught 113 = .ok (.iload 12, 2) := by decide +kernel
theorem dX11_uncaught_115 : decode cX11_uncaught 115 = .ok (.invokestatic 411, 3) := by decide +kernel
theorem dX11_uncaught_118 : decode cX11_uncaught 118 = .ok (.lmul, 1) := by decide +kernel
theorem dX11_uncaught_119 : decode cX11_uncaught 119 = .ok (.lload 8, 2) := by decide +kernel
theorem dX11_uncaught_121 : decode cX11_uncaught 121 = .ok (.lload 6, 2) := by decide +kernel
theorem dX11_uncaught_123 : decode cX11_uncaught 123 = .ok (.lsub, 1) := by decide +kernel
theorem dX11_uncaught_124 : decode cX11_uncaught 124 = .ok (.iload_n 1, 1) := by decide +kernel
theorem dX11_uncaught_125 : decode cX11_uncaught 125 = .ok (.iload 12, 2) := by decide +kernel
theorem dX11_uncaught_127 : decode cX11_uncaught 127 = .ok (.isub, 1) := by decide +kernel
theorem dX11_uncaught_128 : decode cX11_uncaught 128 = .ok (.invokestatic 411, 3) := by decide +kernel
theorem dX11_uncaught_131 : decode cX11_uncaught 131 = .ok (.lmul, 1) := by decide +kernel
theorem dX11_uncaught_132 : decode cX11_uncaught 132 = .ok (.ladd, 1) := by decide +kernel
theorem dX11_uncaught_133 : decode cX11_uncaught 133 = .ok (.lstore 10, 2) := by decide +kernel
theorem dX11_uncaught_135 : decode cX11_uncaught 135 = .ok (.iinc 12 1, 3) := by decide +kernel
theorem dX11_uncaught_138 : decode cX11_uncaught 138 = .ok (.goto (-41), 3) := by decide +kernel
theorem dX11_uncaught_141 : decode cX11_uncaught 141 = .ok (.aload_n 0, 1) := by decide +kernel
theorem dX11_uncaught_142 : decode cX11_uncaught 142 = .ok (.lload 10, 2) := by decide +kernel
theorem dX11_uncaught_144 : decode cX11_uncaught 144 = .ok (.lload 8, 2) := by decide +kernel
theorem dX11_uncaught_146 : decode cX11_uncaught 146 = .ok (.iload_n 1, 1) := by decide +kernel
theorem dX11_uncaught_147 : decode cX11_uncaught 147 = .ok (.invokestatic 411, 3) := by decide +kernel
theorem dX11_uncaught_150 : decode cX11_uncaught 150 = .ok (.invokevirtual 304, 3) := by decide +kernel
theorem dX11_uncaught_153 : decode cX11_uncaught 153 = .ok (.ireturn, 1) := by decide +kernel
noncomputable def RC_uncaught_L97 (l1 : Int32) (l6 : Int64) (l8 : Int64) (σ : St) (x10 : Int64) (x12 : Int32) : Option ((Int64 × Int32) ⊕ Int64) :=
  if l1 < x12 then (some (.inr x10)) else (bd (RC_ways l1 x12) (fun r21 => bd (RC_power l6 x12) (fun r23 => bd (RC_power (l8 - l6) (l1 - x12)) (fun r25 => bnd ((x10 + ((r21 * r23) * r25))) (fun v26 => bnd (x12 + 1) (fun v27 => some (.inl (v26, v27))))))))
set_option maxRecDepth 100000 in
set_option maxHeartbeats 4000000 in
theorem tb_RC_uncaught_L97 {V : Ev} {Γ : Cn} {fin : Option Value × St} {l1 : Int32} {l6 : Int64} {l8 : Int64} {σ : St} {x10 : Int64} {x12 : Int32} {o : ((Int64 × Int32) ⊕ Int64)} (X : Cx V Γ M_X11_uncaught) {A : ((Int64 × Int32) ⊕ Int64) → Prop}  (hb97 : ∀ (x10 : Int64) (x12 : Int32), A (.inl (x10, x12)) → Go V Γ M_X11_uncaught (Zm V Γ 5 fin) 97 [(0, .ref (V.2.2.1 + 0)), (1, .int l1), (6, .long l6), (8, .long l8), (10, .long x10), (12, .int x12)] [] σ) (hx97 : ∀ (x10 : Int64), A (.inr x10) → Go V Γ M_X11_uncaught (Zm V Γ 5 fin) 141 [(0, .ref (V.2.2.1 + 0)), (1, .int l1), (8, .long l8), (10, .long x10)] [] σ) (h : RC_uncaught_L97 l1 l6 l8 σ x10 x12 = some o) (hA : A o) : Go V Γ M_X11_uncaught (Zm V Γ 5 fin) 97 [(0, .ref (V.2.2.1 + 0)), (1, .int l1), (6, .long l6), (8, .long l8), (10, .long x10), (12, .int x12)] [] σ := by
  unfold RC_uncaught_L97 at h
  refine g_iload (pc := 97) X 5 rfl dX11_uncaught_97 ?_
  refine g_iload_n (pc := 99) X 1 rfl dX11_uncaught_99 ?_
  refine g_icmp_gt (pc := 100) (tgt := 141) X dX11_uncaught_100 rfl (fun c28 => ?_) (fun c28 => ?_)
  · replace h := if_t c28 h
    refine g_sub [0, 1, 3, 4] rfl ?_
    cases h
    exact hx97 _ hA
  · replace h := if_f c28 h
    refine g_lload (pc := 103) X 4 rfl dX11_uncaught_103 ?_
    refine g_iload_n (pc := 105) X 1 rfl dX11_uncaught_105 ?_
    refine g_iload (pc := 106) X 5 rfl dX11_uncaught_106 ?_
    obtain ⟨r21, hc20, h⟩ := bd_e h
    refine g_callS (pc := 108) X k_ml_X11_407 (run_RC_ways  hc20) rfl (room_ok (Nat.le_of_ble_eq_true rfl) (Nat.le_of_ble_eq_true rfl)) ⟨Nat.le_refl _, Nat.le_refl _⟩ _ rfl (Nat.le_of_ble_eq_true rfl) dX11_uncaught_108 ?_
    show Go V Γ M_X11_uncaught (Zm V Γ 5 fin) 111 [(0, .ref (V.2.2.1 + 0)), (1, .int l1), (6, .long l6), (8, .long l8), (10, .long x10), (12, .int x12)] [.long r21, .long x10] σ
    refine g_lload (pc := 111) X 2 rfl dX11_uncaught_111 ?_
    refine g_iload (pc := 113) X 5 rfl dX11_uncaught_113 ?_
    obtain ⟨r23, hc22, h⟩ := bd_e h
    refine g_callS (pc := 115) X k_ml_X11_411 (run_RC_power  hc22) rfl (room_ok (Nat.le_of_ble_eq_true rfl) (Nat.le_of_ble_eq_true rfl)) ⟨Nat.le_refl _, Nat.le_refl _⟩ _ rfl (Nat.le_of_ble_eq_true rfl) dX11_uncaught_115 ?_
    show Go V Γ M_X11_uncaught (Zm V Γ 5 fin) 118 [(0, .ref (V.2.2.1 + 0)), (1, .int l1), (6, .long l6), (8, .long l8), (10, .long x10), (12, .int x12)] [.long r23, .long r21, .long x10] σ
    refine g_lmul (pc := 118) X dX11_uncaught_118 ?_
    refine g_lload (pc := 119) X 3 rfl dX11_uncaught_119 ?_
    refine g_lload (pc := 121) X 2 rfl dX11_uncaught_121 ?_
    refine g_lsub (pc := 123) X dX11_uncaught_123 ?_
    refine g_iload_n (pc := 124) X 1 rfl dX11_uncaught_124 ?_
    refine g_iload (pc := 125) X 5 rfl dX11_uncaught_125 ?_
    refine g_isub (pc := 127) X dX11_uncaught_127 ?_
    obtain ⟨r25, hc24, h⟩ := bd_e h
    refine g_callS (pc := 128) X k_ml_X11_411 (run_RC_power  hc24) rfl (room_ok (Nat.le_of_ble_eq_true rfl) (Nat.le_of_ble_eq_true rfl)) ⟨Nat.le_refl _, Nat.le_refl _⟩ _ rfl (Nat.le_of_ble_eq_true rfl) dX11_uncaught_128 ?_
    show Go V Γ M_X11_uncaught (Zm V Γ 5 fin) 131 [(0, .ref (V.2.2.1 + 0)), (1, .int l1), (6, .long l6), (8, .long l8), (10, .long x10), (12, .int x12)] [.long r25, .long (r21 * r23), .long x10] σ
    refine g_lmul (pc := 131) X dX11_uncaught_131 ?_
    refine g_ladd (pc := 132) X dX11_uncaught_132 ?_
    obtain ⟨v26, e_v26, h⟩ := bnd_e h
    refine g_nmL e_v26 ?_
    refine g_lstore (pc := 133) X [(10, .long v26), (0, .ref (V.2.2.1 + 0)), (1, .int l1), (6, .long l6), (8, .long l8), (12, .int x12)] (Nat.le_of_ble_eq_true rfl) rfl dX11_uncaught_133 ?_
    obtain ⟨v27, e_v27, h⟩ := bnd_e h
    refine g_iinc (pc := 135) (v := v27) X [(12, .int v27), (10, .long v26), (0, .ref (V.2.2.1 + 0)), (1, .int l1), (6, .long l6), (8, .long l8)] 5 rfl (by rw [e_v27]; rfl) (Nat.le_of_ble_eq_true rfl) rfl dX11_uncaught_135 ?_
    refine g_goto (pc := 138) (tgt := 97) X dX11_uncaught_138 rfl ?_
    refine g_sub [2, 3, 4, 5, 1, 0] rfl ?_
    cases h
    exact hb97 _ _ hA
set_option maxRecDepth 100000 in
theorem tl_RC_uncaught_L97 {V : Ev} {Γ : Cn} {fin : Option Value × St} {l1 : Int32} {l6 : Int64} {l8 : Int64} {σ : St} {x10 : Int64} {x12 : Int32} (X : Cx V Γ M_X11_uncaught)  {y10 : Int64} {n : Nat} (h : iter (fun s : (Int64 × Int32) => RC_uncaught_L97 l1 l6 l8 σ s.1 s.2) n (x10, x12) = some y10) (hK : Go V Γ M_X11_uncaught (Zm V Γ 5 fin) 141 [(0, .ref (V.2.2.1 + 0)), (1, .int l1), (8, .long l8), (10, .long y10)] [] σ) : Go V Γ M_X11_uncaught (Zm V Γ 5 fin) 97 [(0, .ref (V.2.2.1 + 0)), (1, .int l1), (6, .long l6), (8, .long l8), (10, .long x10), (12, .int x12)] [] σ := by
  refine iter_go (G := (fun s : (Int64 × Int32) => Go V Γ M_X11_uncaught (Zm V Γ 5 fin) 97 [(0, .ref (V.2.2.1 + 0)), (1, .int l1), (6, .long l6), (8, .long l8), (10, .long s.1), (12, .int s.2)] [] σ)) (fun s o ho hS => ?_) n (x10, x12) h
  exact tb_RC_uncaught_L97 X  (fun _ _ h9 => h9) (fun _ he => by cases he; exact hK) ho hS
noncomputable def RC_uncaught (σ : St) (p1 : Int32) (p2 : Int32) : Option (Int32 × St) :=
  bd (RC_within p1.toInt64 0 5) (fun r2 => if r2 = 0 then (bd2 (RC_deny σ 1) (fun r4 σ5 => chk (ckz r4) (some (r4, σ5)))) else (bd (RC_within p2.toInt64 0 5) (fun r8 => if r8 = 0 then (bd2 (RC_deny σ 1) (fun r43 σ44 => chk (ckz r43) (some (r43, σ44)))) else (bd2 (RC_sieved σ) (fun r10 σ11 => if r10 = 0 then (bd2 (RC_deny σ11 7) (fun r38 σ39 => chk (ckz r38) (some (r38, σ39)))) else (bd (Si_countGaps σ11) (fun r13 => bd (RC_commonDivisor r13.toInt64 ((σ11.1 31 3).toInt64)) (fun r15 => bd (RC_partBy r13.toInt64 r15) (fun r17 => bd (RC_partBy ((σ11.1 31 3).toInt64) r15) (fun r19 => bd (iter (fun s : (Int64 × Int32) => RC_uncaught_L97 p1 r17 r19 σ11 s.1 s.2) FUEL (0, p2)) (fun v29 => bd (RC_power r19 p1) (fun r32 => bd2 (RC_tell σ11 v29 r32) (fun r34 σ35 => chk (ckz r34) (some (r34, σ35)))))))))))))))
set_option maxRecDepth 100000 in
set_option maxHeartbeats 4000000 in
theorem tm_RC_uncaught {V : Ev} {Γ : Cn} {fin : Option Value × St} {σ : St} {p1 : Int32} {p2 : Int32} {o : (Int32 × St)} (X : Cx V Γ M_X11_uncaught) {A : (Int32 × St) → Prop}  (hr : ∀ (r : Int32) (σ9 : St), A (r, σ9) → (some (.int r), σ9) = fin) (h : RC_uncaught σ p1 p2 = some o) (hA : A o) : Go V Γ M_X11_uncaught (Zm V Γ 5 fin) 0 [(0, .ref (V.2.2.1 + 0)), (1, .int p1), (2, .int p2)] [] σ := by
  unfold RC_uncaught at h
  refine g_iload_n (pc := 0) X 1 rfl dX11_uncaught_0 ?_
  refine g_i2l (pc := 1) X dX11_uncaught_1 ?_
  refine g_lconst (v := 0) (pc := 2) X rfl dX11_uncaught_2 ?_
  refine g_ldc2 (v := 5) (pc := 3) X k_constl_X11_398 dX11_uncaught_3 ?_
  obtain ⟨r2, hc1, h⟩ := bd_e h
  refine g_callS (pc := 6) X k_ml_X11_98 (run_RC_within  hc1) rfl (room_ok (Nat.le_of_ble_eq_true rfl) (Nat.le_of_ble_eq_true rfl)) ⟨Nat.le_refl _, Nat.le_refl _⟩ _ rfl (Nat.le_of_ble_eq_true rfl) dX11_uncaught_6 ?_
  show Go V Γ M_X11_uncaught (Zm V Γ 5 fin) 9 [(0, .ref (V.2.2.1 + 0)), (1, .int p1), (2, .int p2)] [.int r2] σ
  refine g_if_eq (pc := 9) (tgt := 24) X dX11_uncaught_9 rfl (fun c47 => ?_) (fun c47 => ?_)
  · replace h := if_t c47 h
    refine g_aload_n (pc := 24) X 0 rfl dX11_uncaught_24 ?_
    refine g_iconst (v := 1) (pc := 25) X rfl dX11_uncaught_25 ?_
    obtain ⟨r4, σ5, hc3, h⟩ := bd2_e h
    refine g_callV (pc := 26) X k_ml_X11_104 (run_RC_deny  hc3) s_0 rfl (room_ok (Nat.le_of_ble_eq_true rfl) (Nat.le_of_ble_eq_true rfl)) ⟨Nat.le_refl _, Nat.le_refl _⟩ _ rfl (Nat.le_of_ble_eq_true rfl) dX11_uncaught_26 ?_
    show Go V Γ M_X11_uncaught (Zm V Γ 5 fin) 29 [(0, .ref (V.2.2.1 + 0)), (1, .int p1), (2, .int p2)] [.int r4] σ5
    obtain ⟨c6, h⟩ := chk_e h
    cases h
    exact g_iret (pc := 29) X rfl (ckz_e c6).1 (hr _ _ hA) dX11_uncaught_29
  · replace h := if_f c47 h
    refine g_iload_n (pc := 12) X 2 rfl dX11_uncaught_12 ?_
    refine g_i2l (pc := 13) X dX11_uncaught_13 ?_
    refine g_lconst (v := 0) (pc := 14) X rfl dX11_uncaught_14 ?_
    refine g_ldc2 (v := 5) (pc := 15) X k_constl_X11_398 dX11_uncaught_15 ?_
    obtain ⟨r8, hc7, h⟩ := bd_e h
    refine g_callS (pc := 18) X k_ml_X11_98 (run_RC_within  hc7) rfl (room_ok (Nat.le_of_ble_eq_true rfl) (Nat.le_of_ble_eq_true rfl)) ⟨Nat.le_refl _, Nat.le_refl _⟩ _ rfl (Nat.le_of_ble_eq_true rfl) dX11_uncaught_18 ?_
    show Go V Γ M_X11_uncaught (Zm V Γ 5 fin) 21 [(0, .ref (V.2.2.1 + 0)), (1, .int p1), (2, .int p2)] [.int r8] σ
    refine g_if_ne (pc := 21) (tgt := 30) X dX11_uncaught_21 rfl (fun c46 => ?_) (fun c46 => ?_)
    · replace h := if_f c46 h
      refine g_aload_n (pc := 30) X 0 rfl dX11_uncaught_30 ?_
      obtain ⟨r10, σ11, hc9, h⟩ := bd2_e h
      refine g_callV (pc := 31) X k_ml_X11_226 (run_RC_sieved  hc9) s_0 rfl (room_ok (Nat.le_of_ble_eq_true rfl) (Nat.le_of_ble_eq_true rfl)) ⟨Nat.le_refl _, Nat.le_refl _⟩ _ rfl (Nat.le_of_ble_eq_true rfl) dX11_uncaught_31 ?_
      show Go V Γ M_X11_uncaught (Zm V Γ 5 fin) 34 [(0, .ref (V.2.2.1 + 0)), (1, .int p1), (2, .int p2)] [.int r10] σ11
      refine g_if_ne (pc := 34) (tgt := 44) X dX11_uncaught_34 rfl (fun c41 => ?_) (fun c41 => ?_)
      · replace h := if_f c41 h
        refine g_aload_n (pc := 44) X 0 rfl dX11_uncaught_44 ?_
        refine g_getR (r := 31) (pc := 45) X k_fl_X11_67 s_0 rfl dX11_uncaught_45 ?_
        obtain ⟨r13, hc12, h⟩ := bd_e h
        refine g_callV (pc := 48) X k_ml_X11_232 (run_Si_countGaps  hc12) s_31 rfl (room_ok (Nat.le_of_ble_eq_true rfl) (Nat.le_of_ble_eq_true rfl)) ⟨Nat.le_refl _, Nat.le_refl _⟩ _ rfl (Nat.le_of_ble_eq_true rfl) dX11_uncaught_48 ?_
        show Go V Γ M_X11_uncaught (Zm V Γ 5 fin) 51 [(0, .ref (V.2.2.1 + 0)), (1, .int p1), (2, .int p2)] [.int r13] σ11
        refine g_istore_n (pc := 51) X [(3, .int r13), (0, .ref (V.2.2.1 + 0)), (1, .int p1), (2, .int p2)] rfl (Nat.le_of_ble_eq_true rfl) rfl dX11_uncaught_51 ?_
        refine g_iload_n (pc := 52) X 0 rfl dX11_uncaught_52 ?_
        refine g_i2l (pc := 53) X dX11_uncaught_53 ?_
        refine g_aload_n (pc := 54) X 1 rfl dX11_uncaught_54 ?_
        refine g_getR (r := 31) (pc := 55) X k_fl_X11_67 s_0 rfl dX11_uncaught_55 ?_
        refine g_getI (pc := 58) X k_fl_X11_229 s_31 rfl dX11_uncaught_58 ?_
        refine g_i2l (pc := 61) X dX11_uncaught_61 ?_
        obtain ⟨r15, hc14, h⟩ := bd_e h
        refine g_callS (pc := 62) X k_ml_X11_400 (run_RC_commonDivisor  hc14) rfl (room_ok (Nat.le_of_ble_eq_true rfl) (Nat.le_of_ble_eq_true rfl)) ⟨Nat.le_refl _, Nat.le_refl _⟩ _ rfl (Nat.le_of_ble_eq_true rfl) dX11_uncaught_62 ?_
        show Go V Γ M_X11_uncaught (Zm V Γ 5 fin) 65 [(3, .int r13), (0, .ref (V.2.2.1 + 0)), (1, .int p1), (2, .int p2)] [.long r15] σ11
        refine g_lstore (pc := 65) X [(4, .long r15), (3, .int r13), (0, .ref (V.2.2.1 + 0)), (1, .int p1), (2, .int p2)] (Nat.le_of_ble_eq_true rfl) rfl dX11_uncaught_65 ?_
        refine g_iload_n (pc := 67) X 1 rfl dX11_uncaught_67 ?_
        refine g_i2l (pc := 68) X dX11_uncaught_68 ?_
        refine g_lload (pc := 69) X 0 rfl dX11_uncaught_69 ?_
        obtain ⟨r17, hc16, h⟩ := bd_e h
        refine g_callS (pc := 71) X k_ml_X11_404 (run_RC_partBy  hc16) rfl (room_ok (Nat.le_of_ble_eq_true rfl) (Nat.le_of_ble_eq_true rfl)) ⟨Nat.le_refl _, Nat.le_refl _⟩ _ rfl (Nat.le_of_ble_eq_true rfl) dX11_uncaught_71 ?_
        show Go V Γ M_X11_uncaught (Zm V Γ 5 fin) 74 [(4, .long r15), (3, .int r13), (0, .ref (V.2.2.1 + 0)), (1, .int p1), (2, .int p2)] [.long r17] σ11
        refine g_lstore (pc := 74) X [(6, .long r17), (4, .long r15), (3, .int r13), (0, .ref (V.2.2.1 + 0)), (1, .int p1), (2, .int p2)] (Nat.le_of_ble_eq_true rfl) rfl dX11_uncaught_74 ?_
        refine g_aload_n (pc := 76) X 3 rfl dX11_uncaught_76 ?_
        refine g_getR (r := 31) (pc := 77) X k_fl_X11_67 s_0 rfl dX11_uncaught_77 ?_
        refine g_getI (pc := 80) X k_fl_X11_229 s_31 rfl dX11_uncaught_80 ?_
        refine g_i2l (pc := 83) X dX11_uncaught_83 ?_
        refine g_lload (pc := 84) X 1 rfl dX11_uncaught_84 ?_
        obtain ⟨r19, hc18, h⟩ := bd_e h
        refine g_callS (pc := 86) X k_ml_X11_404 (run_RC_partBy  hc18) rfl (room_ok (Nat.le_of_ble_eq_true rfl) (Nat.le_of_ble_eq_true rfl)) ⟨Nat.le_refl _, Nat.le_refl _⟩ _ rfl (Nat.le_of_ble_eq_true rfl) dX11_uncaught_86 ?_
        show Go V Γ M_X11_uncaught (Zm V Γ 5 fin) 89 [(6, .long r17), (4, .long r15), (3, .int r13), (0, .ref (V.2.2.1 + 0)), (1, .int p1), (2, .int p2)] [.long r19] σ11
        refine g_lstore (pc := 89) X [(8, .long r19), (6, .long r17), (4, .long r15), (3, .int r13), (0, .ref (V.2.2.1 + 0)), (1, .int p1), (2, .int p2)] (Nat.le_of_ble_eq_true rfl) rfl dX11_uncaught_89 ?_
        refine g_lconst (v := 0) (pc := 91) X rfl dX11_uncaught_91 ?_
        refine g_lstore (pc := 92) X [(10, .long 0), (8, .long r19), (6, .long r17), (4, .long r15), (3, .int r13), (0, .ref (V.2.2.1 + 0)), (1, .int p1), (2, .int p2)] (Nat.le_of_ble_eq_true rfl) rfl dX11_uncaught_92 ?_
        refine g_iload_n (pc := 94) X 7 rfl dX11_uncaught_94 ?_
        refine g_istore (pc := 95) X [(12, .int p2), (10, .long 0), (8, .long r19), (6, .long r17), (4, .long r15), (3, .int r13), (0, .ref (V.2.2.1 + 0)), (1, .int p1), (2, .int p2)] (Nat.le_of_ble_eq_true rfl) rfl dX11_uncaught_95 ?_
        refine g_sub [6, 7, 3, 2, 1, 0] rfl ?_
        obtain ⟨v29, hi30, h⟩ := bd_e h
        refine tl_RC_uncaught_L97 X  hi30 ?_
        refine g_aload_n (pc := 141) X 0 rfl dX11_uncaught_141 ?_
        refine g_lload (pc := 142) X 3 rfl dX11_uncaught_142 ?_
        refine g_lload (pc := 144) X 2 rfl dX11_uncaught_144 ?_
        refine g_iload_n (pc := 146) X 1 rfl dX11_uncaught_146 ?_
        obtain ⟨r32, hc31, h⟩ := bd_e h
        refine g_callS (pc := 147) X k_ml_X11_411 (run_RC_power  hc31) rfl (room_ok (Nat.le_of_ble_eq_true rfl) (Nat.le_of_ble_eq_true rfl)) ⟨Nat.le_refl _, Nat.le_refl _⟩ _ rfl (Nat.le_of_ble_eq_true rfl) dX11_uncaught_147 ?_
        show Go V Γ M_X11_uncaught (Zm V Γ 5 fin) 150 [(0, .ref (V.2.2.1 + 0)), (1, .int p1), (8, .long r19), (10, .long v29)] [.long r32, .long v29, .ref (V.2.2.1 + 0)] σ11
        obtain ⟨r34, σ35, hc33, h⟩ := bd2_e h
        refine g_callV (pc := 150) X k_ml_X11_304 (run_RC_tell  hc33) s_0 rfl (room_ok (Nat.le_of_ble_eq_true rfl) (Nat.le_of_ble_eq_true rfl)) ⟨Nat.le_refl _, Nat.le_refl _⟩ _ rfl (Nat.le_of_ble_eq_true rfl) dX11_uncaught_150 ?_
        show Go V Γ M_X11_uncaught (Zm V Γ 5 fin) 153 [(0, .ref (V.2.2.1 + 0)), (1, .int p1), (8, .long r19), (10, .long v29)] [.int r34] σ35
        obtain ⟨c36, h⟩ := chk_e h
        cases h
        exact g_iret (pc := 153) X rfl (ckz_e c36).1 (hr _ _ hA) dX11_uncaught_153
      · replace h := if_t c41 h
        refine g_aload_n (pc := 37) X 0 rfl dX11_uncaught_37 ?_
        refine g_bipush (v := 7) (pc := 38) X (by decide) dX11_uncaught_38 ?_
        obtain ⟨r38, σ39, hc37, h⟩ := bd2_e h
        refine g_callV (pc := 40) X k_ml_X11_104 (run_RC_deny  hc37) s_0 rfl (room_ok (Nat.le_of_ble_eq_true rfl) (Nat.le_of_ble_eq_true rfl)) ⟨Nat.le_refl _, Nat.le_refl _⟩ _ rfl (Nat.le_of_ble_eq_true rfl) dX11_uncaught_40 ?_
        show Go V Γ M_X11_uncaught (Zm V Γ 5 fin) 43 [(0, .ref (V.2.2.1 + 0)), (1, .int p1), (2, .int p2)] [.int r38] σ39
        obtain ⟨c40, h⟩ := chk_e h
        cases h
        exact g_iret (pc := 43) X rfl (ckz_e c40).1 (hr _ _ hA) dX11_uncaught_43
    · replace h := if_t c46 h
      refine g_aload_n (pc := 24) X 0 rfl dX11_uncaught_24 ?_
      refine g_iconst (v := 1) (pc := 25) X rfl dX11_uncaught_25 ?_
      obtain ⟨r43, σ44, hc42, h⟩ := bd2_e h
      refine g_callV (pc := 26) X k_ml_X11_104 (run_RC_deny  hc42) s_0 rfl (room_ok (Nat.le_of_ble_eq_true rfl) (Nat.le_of_ble_eq_true rfl)) ⟨Nat.le_refl _, Nat.le_refl _⟩ _ rfl (Nat.le_of_ble_eq_true rfl) dX11_uncaught_26 ?_
      show Go V Γ M_X11_uncaught (Zm V Γ 5 fin) 29 [(0, .ref (V.2.2.1 + 0)), (1, .int p1), (2, .int p2)] [.int r43] σ44
      obtain ⟨c45, h⟩ := chk_e h
      cases h
      exact g_iret (pc := 29) X rfl (ckz_e c45).1 (hr _ _ hA) dX11_uncaught_29
set_option maxRecDepth 100000 in
theorem run_RC_uncaught {V : Ev} {σ : St} {p1 : Int32} {p2 : Int32} {o : (Int32 × St)}   (h : RC_uncaught σ p1 p2 = some o) : Rs V 5 M_X11_uncaught [.ref (V.2.2.1 + 0), .int p1, .int p2] σ (some (.int o.1), o.2) := by
  refine Rs.of (by decide +kernel) (Nat.le_of_ble_eq_true rfl) (fun Γ X => ?_)
  exact tm_RC_uncaught X (A := fun o1 => o1 = o)  (fun _ _ e => by rw [← e]) h rfl
theorem dX11_copySystem_0 : decode cX11_copySystem 0 = .ok (.aload_n 0, 1) := by decide +kernel
theorem dX11_copySystem_1 : decode cX11_copySystem 1 = .ok (.iload_n 1, 1) := by decide +kernel
theorem dX11_copySystem_2 : decode cX11_copySystem 2 = .ok (.invokevirtual 156, 3) := by decide +kernel
theorem dX11_copySystem_5 : decode cX11_copySystem 5 = .ok (.istore_n 2, 1) := by decide +kernel
theorem dX11_copySystem_6 : decode cX11_copySystem 6 = .ok (.iload_n 2, 1) := by decide +kernel
theorem dX11_copySystem_7 : decode cX11_copySystem 7 = .ok (.ifCond .eq 9, 3) := by decide +kernel
theorem dX11_copySystem_10 : decode cX11_copySystem 10 = .ok (.aload_n 0, 1) := by decide +kernel
theorem dX11_copySystem_11 : decode cX11_copySystem 11 = .ok (.iload_n 2, 1) := by decide +kernel
theorem dX11_copySystem_12 : decode cX11_copySystem 12 = .ok (.invokevirtual 124, 3) := by decide +kernel
theorem dX11_copySystem_15 : decode cX11_copySystem 15 = .ok (.ireturn, 1) := by decide +kernel
theorem dX11_copySystem_16 : decode cX11_copySystem 16 = .ok (.aload_n 0, 1) := by decide +kernel
theorem dX11_copySystem_17 : decode cX11_copySystem 17 = .ok (.getfield 22, 3) := by decide +kernel
theorem dX11_copySystem_20 : decode cX11_copySystem 20 = .ok (.iload_n 1, 1) := by decide +kernel
theorem dX11_copySystem_21 : decode cX11_copySystem 21 = .ok (.aaload, 1) := by decide +kernel
theorem dX11_copySystem_22 : decode cX11_copySystem 22 = .ok (.iconst 0, 1) := by decide +kernel
theorem dX11_copySystem_23 : decode cX11_copySystem 23 = .ok (.iconst 2, 1) := by decide +kernel
theorem dX11_copySystem_24 : decode cX11_copySystem 24 = .ok (.aload_n 0, 1) := by decide +kernel
theorem dX11_copySystem_25 : decode cX11_copySystem 25 = .ok (.getfield 36, 3) := by decide +kernel
theorem dX11_copySystem_28 : decode cX11_copySystem 28 = .ok (.getfield 182, 3) := by decide +kernel
theorem dX11_copySystem_31 : decode cX11_copySystem 31 = .ok (.imul, 1) := by decide +kernel
theorem dX11_copySystem_32 : decode cX11_copySystem 32 = .ok (.invokevirtual 152, 3) := by decide +kernel
theorem dX11_copySystem_35 : decode cX11_copySystem 35 = .ok (.ifCond .ne 9, 3) := by decide +kernel
theorem dX11_copySystem_38 : decode cX11_copySystem 38 = .ok (.aload_n 0, 1) := by decide +kernel
theorem dX11_copySystem_39 : decode cX11_copySystem 39 = .ok (.iconst 3, 1) := by decide +kernel
theorem dX11_copySystem_40 : decode cX11_copySystem 40 = .ok (.invokevirtual 124, 3) := by decide +kernel
theorem dX11_copySystem_43 : decode cX11_copySystem 43 = .ok (.ireturn, 1) := by decide +kernel
theorem dX11_copySystem_44 : decode cX11_copySystem 44 = .ok (.iconst 0, 1) := by decide +kernel
theorem dX11_copySystem_45 : decode cX11_copySystem 45 = .ok (.istore_n 3, 1) := by decide +kernel
theorem dX11_copySystem_46 : decode cX11_copySystem 46 = .ok (.iload_n 3, 1) := by decide +kernel
theorem dX11_copySystem_47 : decode cX11_copySystem 47 = .ok (.aload_n 0, 1) := by decide +kernel
theorem dX11_copySystem_48 : decode cX11_copySystem 48 = .ok (.getfield 36, 3) := by decide +kernel
theorem dX11_copySystem_51 : decode cX11_copySystem 51 = .ok (.getfield 182, 3) := by decide +kernel
theorem dX11_copySystem_54 : decode cX11_copySystem 54 = .ok (.if_icmp .ge 55, 3) := by decide +kernel
theorem dX11_copySystem_57 : decode cX11_copySystem 57 = .ok (.aload_n 0, 1) := by decide +kernel
theorem dX11_copySystem_58 : decode cX11_copySystem 58 = .ok (.getfield 22, 3) := by decide +kernel
theorem dX11_copySystem_61 : decode cX11_copySystem 61 = .ok (.iload_n 1, 1) := by decide +kernel
theorem dX11_copySystem_62 : decode cX11_copySystem 62 = .ok (.aaload, 1) := by decide +kernel
theorem dX11_copySystem_63 : decode cX11_copySystem 63 = .ok (.iconst 2, 1) := by decide +kernel
theorem dX11_copySystem_64 : decode cX11_copySystem 64 = .ok (.iload_n 3, 1) := by decide +kernel
theorem dX11_copySystem_65 : decode cX11_copySystem 65 = .ok (.imul, 1) := by decide +kernel
theorem dX11_copySystem_66 : decode cX11_copySystem 66 = .ok (.aload_n 0, 1) := by decide +kernel
theorem dX11_copySystem_67 : decode cX11_copySystem 67 = .ok (.getfield 36, 3) := by decide +kernel
theorem dX11_copySystem_70 : decode cX11_copySystem 70 = .ok (.getfield 238, 3) := by decide +kernel
theorem dX11_copySystem_73 : decode cX11_copySystem 73 = .ok (.iload_n 3, 1) := by decide +kernel
theorem dX11_copySystem_74 : decode cX11_copySystem 74 = .ok (.iaload, 1) := by decide +kernel
theorem dX11_copySystem_75 : decode cX11_copySystem 75 = .ok (.i2l, 1) := by decide +kernel
theorem dX11_copySystem_76 : decode cX11_copySystem 76 = .ok (.invokevirtual 120, 3) := by decide +kernel
theorem dX11_copySystem_79 : decode cX11_copySystem 79 = .ok (.aload_n 0, 1) := by decide +kernel
theorem dX11_copySystem_80 : decode cX11_copySystem 80 = .ok (.getfield 22, 3) := by decide +kernel
theorem dX11_copySystem_83 : decode cX11_copySystem 83 = .ok (.iload_n 1, 1) := by decide +kernel
theorem dX11_copySystem_84 : decode cX11_copySystem 84 = .ok (.aaload, 1) := by decide +kernel
theorem dX11_copySystem_85 : decode cX11_copySystem 85 = .ok (.iconst 2, 1) := by decide +kernel
theorem dX11_copySystem_86 : decode cX11_copySystem 86 = .ok (.iload_n 3, 1) := by decide +kernel
theorem dX11_copySystem_87 : decode cX11_copySystem 87 = .ok (.imul, 1) := by decide +kernel
theorem dX11_copySystem_88 : decode cX11_copySystem 88 = .ok (.iconst 1, 1) := by decide +kernel
theorem dX11_copySystem_89 : decode cX11_copySystem 89 = .ok (.iadd, 1) := by decide +kernel
theorem dX11_copySystem_90 : decode cX11_copySystem 90 = .ok (.aload_n 0, 1) := by decide +kernel
theorem dX11_copySystem_91 : decode cX11_copySystem 91 = .ok (.getfield 36, 3) := by decide +kernel
theorem dX11_copySystem_94 : decode cX11_copySystem 94 = .ok (.getfield 242, 3) := by decide +kernel
theorem dX11_copySystem_97 : decode cX11_copySystem 97 = .ok (.iload_n 3, 1) := by decide +kernel
theorem dX11_copySystem_98 : decode cX11_copySystem 98 = .ok (.iaload, 1) := by decide +kernel
theorem dX11_copySystem_99 : decode cX11_copySystem 99 = .ok (.i2l, 1) := by decide +kernel
theorem dX11_copySystem_100 : decode cX11_copySystem 100 = .ok (.invokevirtual 120, 3) := by decide +kernel
theorem dX11_copySystem_103 : decode cX11_copySystem 103 = .ok (.iinc 3 1, 3) := by decide +kernel
theorem dX11_copySystem_106 : decode cX11_copySystem 106 = .ok (.goto (-60), 3) := by decide +kernel
theorem dX11_copySystem_109 : decode cX11_copySystem 109 = .ok (.aload_n 0, 1) := by decide +kernel
theorem dX11_copySystem_110 : decode cX11_copySystem 110 = .ok (.aload_n 0, 1) := by decide +kernel
theorem dX11_copySystem_111 : decode cX11_copySystem 111 = .ok (.getfield 36, 3) := by decide +kernel
theorem dX11_copySystem_114 : decode cX11_copySystem 114 = .ok (.getfield 182, 3) := by decide +kernel
theorem dX11_copySystem_117 : decode cX11_copySystem 117 = .ok (.invokevirtual 185, 3) := by decide +kernel
theorem dX11_copySystem_120 : decode cX11_copySystem 120 = .ok (.ireturn, 1) := by decide +kernel
noncomputable def RC_copySystem_L46 (l1 : Int32) (σ : St) (x3 : Int32) : Option ((Int32 × St) ⊕ St) :=
  if (σ.1 7 3) ≤ x3 then (some (.inr σ)) else (chk (ix l1 4) (chk (ix x3 12) (bd (Ty_put σ (rfs 1 (tn l1)) (2 * x3) ((σ.1 8 (tn x3)).toInt64)) (fun σ9 => chk (ix l1 4) (chk (ix x3 12) (bd (Ty_put σ9 (rfs 1 (tn l1)) ((2 * x3) + 1) ((σ9.1 9 (tn x3)).toInt64)) (fun σ13 => bnd (x3 + 1) (fun v14 => some (.inl (v14, σ13))))))))))
set_option maxRecDepth 100000 in
set_option maxHeartbeats 4000000 in
theorem tb_RC_copySystem_L46 {V : Ev} {Γ : Cn} {fin : Option Value × St} {l1 : Int32} {σ : St} {x3 : Int32} {o : ((Int32 × St) ⊕ St)} (X : Cx V Γ M_X11_copySystem) {A : ((Int32 × St) ⊕ St) → Prop}  (hb46 : ∀ (x3 : Int32) (σ9 : St), A (.inl (x3, σ9)) → Go V Γ M_X11_copySystem (Zm V Γ 2 fin) 46 [(0, .ref (V.2.2.1 + 0)), (1, .int l1), (3, .int x3)] [] σ9) (hx46 : ∀ (σ9 : St), A (.inr σ9) → Go V Γ M_X11_copySystem (Zm V Γ 2 fin) 109 [(0, .ref (V.2.2.1 + 0))] [] σ9) (h : RC_copySystem_L46 l1 σ x3 = some o) (hA : A o) : Go V Γ M_X11_copySystem (Zm V Γ 2 fin) 46 [(0, .ref (V.2.2.1 + 0)), (1, .int l1), (3, .int x3)] [] σ := by
  unfold RC_copySystem_L46 at h
  refine g_iload_n (pc := 46) X 2 rfl dX11_copySystem_46 ?_
  refine g_aload_n (pc := 47) X 0 rfl dX11_copySystem_47 ?_
  refine g_getR (r := 7) (pc := 48) X k_fl_X11_36 s_0 rfl dX11_copySystem_48 ?_
  refine g_getI (pc := 51) X k_fl_X11_182 s_7 rfl dX11_copySystem_51 ?_
  refine g_icmp_ge (pc := 54) (tgt := 109) X dX11_copySystem_54 rfl (fun c15 => ?_) (fun c15 => ?_)
  · replace h := if_t c15 h
    refine g_sub [0] rfl ?_
    cases h
    exact hx46 _ hA
  · replace h := if_f c15 h
    refine g_aload_n (pc := 57) X 0 rfl dX11_copySystem_57 ?_
    refine g_getR (r := 1) (pc := 58) X k_fl_X11_22 s_0 rfl dX11_copySystem_58 ?_
    refine g_iload_n (pc := 61) X 1 rfl dX11_copySystem_61 ?_
    obtain ⟨c6, h⟩ := chk_e h
    refine g_aald (ak := 0) (pc := 62) X s_1 rfl rfl c6 dX11_copySystem_62 ?_
    refine g_iconst (v := 2) (pc := 63) X rfl dX11_copySystem_63 ?_
    refine g_iload_n (pc := 64) X 2 rfl dX11_copySystem_64 ?_
    refine g_imul (pc := 65) X dX11_copySystem_65 ?_
    refine g_aload_n (pc := 66) X 0 rfl dX11_copySystem_66 ?_
    refine g_getR (r := 7) (pc := 67) X k_fl_X11_36 s_0 rfl dX11_copySystem_67 ?_
    refine g_getR (r := 8) (pc := 70) X k_fl_X11_238 s_7 rfl dX11_copySystem_70 ?_
    refine g_iload_n (pc := 73) X 2 rfl dX11_copySystem_73 ?_
    obtain ⟨c7, h⟩ := chk_e h
    refine g_iald (pc := 74) X s_8 c7 dX11_copySystem_74 ?_
    refine g_i2l (pc := 75) X dX11_copySystem_75 ?_
    obtain ⟨σ9, hc8, h⟩ := bd_e h
    refine g_callV (pc := 76) X k_ml_X11_120 (run_Ty_put (okTy_of c6) hc8) (sTy_0 (okTy_of c6)) rfl (room_ok (Nat.le_of_ble_eq_true rfl) (Nat.le_of_ble_eq_true rfl)) ⟨Nat.le_refl _, Nat.le_refl _⟩ _ rfl (Nat.le_of_ble_eq_true rfl) dX11_copySystem_76 ?_
    show Go V Γ M_X11_copySystem (Zm V Γ 2 fin) 79 [(0, .ref (V.2.2.1 + 0)), (1, .int l1), (3, .int x3)] [] σ9
    refine g_aload_n (pc := 79) X 0 rfl dX11_copySystem_79 ?_
    refine g_getR (r := 1) (pc := 80) X k_fl_X11_22 s_0 rfl dX11_copySystem_80 ?_
    refine g_iload_n (pc := 83) X 1 rfl dX11_copySystem_83 ?_
    obtain ⟨c10, h⟩ := chk_e h
    refine g_aald (ak := 0) (pc := 84) X s_1 rfl rfl c10 dX11_copySystem_84 ?_
    refine g_iconst (v := 2) (pc := 85) X rfl dX11_copySystem_85 ?_
    refine g_iload_n (pc := 86) X 2 rfl dX11_copySystem_86 ?_
    refine g_imul (pc := 87) X dX11_copySystem_87 ?_
    refine g_iconst (v := 1) (pc := 88) X rfl dX11_copySystem_88 ?_
    refine g_iadd (pc := 89) X dX11_copySystem_89 ?_
    refine g_aload_n (pc := 90) X 0 rfl dX11_copySystem_90 ?_
    refine g_getR (r := 7) (pc := 91) X k_fl_X11_36 s_0 rfl dX11_copySystem_91 ?_
    refine g_getR (r := 9) (pc := 94) X k_fl_X11_242 s_7 rfl dX11_copySystem_94 ?_
    refine g_iload_n (pc := 97) X 2 rfl dX11_copySystem_97 ?_
    obtain ⟨c11, h⟩ := chk_e h
    refine g_iald (pc := 98) X s_9 c11 dX11_copySystem_98 ?_
    refine g_i2l (pc := 99) X dX11_copySystem_99 ?_
    obtain ⟨σ13, hc12, h⟩ := bd_e h
    refine g_callV (pc := 100) X k_ml_X11_120 (run_Ty_put (okTy_of c10) hc12) (sTy_0 (okTy_of c10)) rfl (room_ok (Nat.le_of_ble_eq_true rfl) (Nat.le_of_ble_eq_true rfl)) ⟨Nat.le_refl _, Nat.le_refl _⟩ _ rfl (Nat.le_of_ble_eq_true rfl) dX11_copySystem_100 ?_
    show Go V Γ M_X11_copySystem (Zm V Γ 2 fin) 103 [(0, .ref (V.2.2.1 + 0)), (1, .int l1), (3, .int x3)] [] σ13
    obtain ⟨v14, e_v14, h⟩ := bnd_e h
    refine g_iinc (pc := 103) (v := v14) X [(3, .int v14), (0, .ref (V.2.2.1 + 0)), (1, .int l1)] 2 rfl (by rw [e_v14]; rfl) (Nat.le_of_ble_eq_true rfl) rfl dX11_copySystem_103 ?_
    refine g_goto (pc := 106) (tgt := 46) X dX11_copySystem_106 rfl ?_
    refine g_sub [1, 2, 0] rfl ?_
    cases h
    exact hb46 _ _ hA
set_option maxRecDepth 100000 in
theorem tl_RC_copySystem_L46 {V : Ev} {Γ : Cn} {fin : Option Value × St} {l1 : Int32} {x3 : Int32} {σ9 : St} (X : Cx V Γ M_X11_copySystem)  {σ8 : St} {n : Nat} (h : iter (fun s : (Int32 × St) => RC_copySystem_L46 l1 s.2 s.1) n (x3, σ9) = some σ8) (hK : Go V Γ M_X11_copySystem (Zm V Γ 2 fin) 109 [(0, .ref (V.2.2.1 + 0))] [] σ8) : Go V Γ M_X11_copySystem (Zm V Γ 2 fin) 46 [(0, .ref (V.2.2.1 + 0)), (1, .int l1), (3, .int x3)] [] σ9 := by
  refine iter_go (G := (fun s : (Int32 × St) => Go V Γ M_X11_copySystem (Zm V Γ 2 fin) 46 [(0, .ref (V.2.2.1 + 0)), (1, .int l1), (3, .int s.1)] [] s.2)) (fun s o ho hS => ?_) n (x3, σ9) h
  exact tb_RC_copySystem_L46 X  (fun _ _ h9 => h9) (fun _ he => by cases he; exact hK) ho hS
noncomputable def RC_copySystem (σ : St) (p1 : Int32) : Option (Int32 × St) :=
  bd (RC_trayTrouble σ p1) (fun r2 => if r2 = 0 then (chk (ix p1 4) (bd (Ty_holds σ (rfs 1 (tn p1)) 0 (2 * (σ.1 7 3))) (fun r5 => if r5 = 0 then (bd2 (RC_refuse σ 3) (fun r22 σ23 => some (r22, σ23))) else (bd (iter (fun s : (Int32 × St) => RC_copySystem_L46 p1 s.2 s.1) FUEL (0, σ)) (fun σ16 => bd2 (RC_answer σ16 (σ16.1 7 3)) (fun r19 σ20 => some (r19, σ20))))))) else (bd2 (RC_refuse σ r2) (fun r26 σ27 => some (r26, σ27))))
set_option maxRecDepth 100000 in
set_option maxHeartbeats 4000000 in
theorem tm_RC_copySystem {V : Ev} {Γ : Cn} {fin : Option Value × St} {σ : St} {p1 : Int32} {o : (Int32 × St)} (X : Cx V Γ M_X11_copySystem) {A : (Int32 × St) → Prop}  (hr : ∀ (r : Int32) (σ9 : St), A (r, σ9) → (some (.int r), σ9) = fin) (h : RC_copySystem σ p1 = some o) (hA : A o) : Go V Γ M_X11_copySystem (Zm V Γ 2 fin) 0 [(0, .ref (V.2.2.1 + 0)), (1, .int p1)] [] σ := by
  unfold RC_copySystem at h
  refine g_aload_n (pc := 0) X 0 rfl dX11_copySystem_0 ?_
  refine g_iload_n (pc := 1) X 1 rfl dX11_copySystem_1 ?_
  obtain ⟨r2, hc1, h⟩ := bd_e h
  refine g_callV (pc := 2) X k_ml_X11_156 (run_RC_trayTrouble  hc1) s_0 rfl (room_ok (Nat.le_of_ble_eq_true rfl) (Nat.le_of_ble_eq_true rfl)) ⟨Nat.le_refl _, Nat.le_refl _⟩ _ rfl (Nat.le_of_ble_eq_true rfl) dX11_copySystem_2 ?_
  show Go V Γ M_X11_copySystem (Zm V Γ 2 fin) 5 [(0, .ref (V.2.2.1 + 0)), (1, .int p1)] [.int r2] σ
  refine g_istore_n (pc := 5) X [(2, .int r2), (0, .ref (V.2.2.1 + 0)), (1, .int p1)] rfl (Nat.le_of_ble_eq_true rfl) rfl dX11_copySystem_5 ?_
  refine g_iload_n (pc := 6) X 0 rfl dX11_copySystem_6 ?_
  refine g_if_eq (pc := 7) (tgt := 16) X dX11_copySystem_7 rfl (fun c28 => ?_) (fun c28 => ?_)
  · replace h := if_t c28 h
    refine g_aload_n (pc := 16) X 1 rfl dX11_copySystem_16 ?_
    refine g_getR (r := 1) (pc := 17) X k_fl_X11_22 s_0 rfl dX11_copySystem_17 ?_
    refine g_iload_n (pc := 20) X 2 rfl dX11_copySystem_20 ?_
    obtain ⟨c3, h⟩ := chk_e h
    refine g_aald (ak := 0) (pc := 21) X s_1 rfl rfl c3 dX11_copySystem_21 ?_
    refine g_iconst (v := 0) (pc := 22) X rfl dX11_copySystem_22 ?_
    refine g_iconst (v := 2) (pc := 23) X rfl dX11_copySystem_23 ?_
    refine g_aload_n (pc := 24) X 1 rfl dX11_copySystem_24 ?_
    refine g_getR (r := 7) (pc := 25) X k_fl_X11_36 s_0 rfl dX11_copySystem_25 ?_
    refine g_getI (pc := 28) X k_fl_X11_182 s_7 rfl dX11_copySystem_28 ?_
    refine g_imul (pc := 31) X dX11_copySystem_31 ?_
    obtain ⟨r5, hc4, h⟩ := bd_e h
    refine g_callV (pc := 32) X k_ml_X11_152 (run_Ty_holds (okTy_of c3) hc4) (sTy_0 (okTy_of c3)) rfl (room_ok (Nat.le_of_ble_eq_true rfl) (Nat.le_of_ble_eq_true rfl)) ⟨Nat.le_refl _, Nat.le_refl _⟩ _ rfl (Nat.le_of_ble_eq_true rfl) dX11_copySystem_32 ?_
    show Go V Γ M_X11_copySystem (Zm V Γ 2 fin) 35 [(2, .int r2), (0, .ref (V.2.2.1 + 0)), (1, .int p1)] [.int r5] σ
    refine g_if_ne (pc := 35) (tgt := 44) X dX11_copySystem_35 rfl (fun c24 => ?_) (fun c24 => ?_)
    · replace h := if_f c24 h
      refine g_iconst (v := 0) (pc := 44) X rfl dX11_copySystem_44 ?_
      refine g_istore_n (pc := 45) X [(3, .int 0), (2, .int r2), (0, .ref (V.2.2.1 + 0)), (1, .int p1)] rfl (Nat.le_of_ble_eq_true rfl) rfl dX11_copySystem_45 ?_
      refine g_sub [2, 3, 0] rfl ?_
      obtain ⟨σ16, hi17, h⟩ := bd_e h
      refine tl_RC_copySystem_L46 X  hi17 ?_
      refine g_aload_n (pc := 109) X 0 rfl dX11_copySystem_109 ?_
      refine g_aload_n (pc := 110) X 0 rfl dX11_copySystem_110 ?_
      refine g_getR (r := 7) (pc := 111) X k_fl_X11_36 s_0 rfl dX11_copySystem_111 ?_
      refine g_getI (pc := 114) X k_fl_X11_182 s_7 rfl dX11_copySystem_114 ?_
      obtain ⟨r19, σ20, hc18, h⟩ := bd2_e h
      refine g_callV (pc := 117) X k_ml_X11_185 (run_RC_answer  hc18) s_0 rfl (room_ok (Nat.le_of_ble_eq_true rfl) (Nat.le_of_ble_eq_true rfl)) ⟨Nat.le_refl _, Nat.le_refl _⟩ _ rfl (Nat.le_of_ble_eq_true rfl) dX11_copySystem_117 ?_
      show Go V Γ M_X11_copySystem (Zm V Γ 2 fin) 120 [(0, .ref (V.2.2.1 + 0))] [.int r19] σ20
      cases h
      exact g_iret (pc := 120) X rfl rfl (hr _ _ hA) dX11_copySystem_120
    · replace h := if_t c24 h
      refine g_aload_n (pc := 38) X 1 rfl dX11_copySystem_38 ?_
      refine g_iconst (v := 3) (pc := 39) X rfl dX11_copySystem_39 ?_
      obtain ⟨r22, σ23, hc21, h⟩ := bd2_e h
      refine g_callV (pc := 40) X k_ml_X11_124 (run_RC_refuse  hc21) s_0 rfl (room_ok (Nat.le_of_ble_eq_true rfl) (Nat.le_of_ble_eq_true rfl)) ⟨Nat.le_refl _, Nat.le_refl _⟩ _ rfl (Nat.le_of_ble_eq_true rfl) dX11_copySystem_40 ?_
      show Go V Γ M_X11_copySystem (Zm V Γ 2 fin) 43 [(2, .int r2), (0, .ref (V.2.2.1 + 0)), (1, .int p1)] [.int r22] σ23
      cases h
      exact g_iret (pc := 43) X rfl rfl (hr _ _ hA) dX11_copySystem_43
  · replace h := if_f c28 h
    refine g_aload_n (pc := 10) X 1 rfl dX11_copySystem_10 ?_
    refine g_iload_n (pc := 11) X 0 rfl dX11_copySystem_11 ?_
    obtain ⟨r26, σ27, hc25, h⟩ := bd2_e h
    refine g_callV (pc := 12) X k_ml_X11_124 (run_RC_refuse  hc25) s_0 rfl (room_ok (Nat.le_of_ble_eq_true rfl) (Nat.le_of_ble_eq_true rfl)) ⟨Nat.le_refl _, Nat.le_refl _⟩ _ rfl (Nat.le_of_ble_eq_true rfl) dX11_copySystem_12 ?_
    show Go V Γ M_X11_copySystem (Zm V Γ 2 fin) 15 [(2, .int r2), (0, .ref (V.2.2.1 + 0)), (1, .int p1)] [.int r26] σ27
    cases h
    exact g_iret (pc := 15) X rfl rfl (hr _ _ hA) dX11_copySystem_15
set_option maxRecDepth 100000 in
theorem run_RC_copySystem {V : Ev} {σ : St} {p1 : Int32} {o : (Int32 × St)}   (h : RC_copySystem σ p1 = some o) : Rs V 2 M_X11_copySystem [.ref (V.2.2.1 + 0), .int p1] σ (some (.int o.1), o.2) := by
  refine Rs.of (by decide +kernel) (Nat.le_of_ble_eq_true rfl) (fun Γ X => ?_)
  exact tm_RC_copySystem X (A := fun o1 => o1 = o)  (fun _ _ e => by rw [← e]) h rfl
theorem dX11_live_0 : decode cX11_live 0 = .ok (.iload_n 1, 1) := by decide +kernel
theorem dX11_live_1 : decode cX11_live 1 = .ok (.i2l, 1) := by decide +kernel
theorem dX11_live_2 : decode cX11_live 2 = .ok (.lconst 0, 1) := by decide +kernel
theorem dX11_live_3 : decode cX11_live 3 = .ok (.ldc2_w 248, 3) := by decide +kernel
theorem dX11_live_6 : decode cX11_live 6 = .ok (.invokestatic 98, 3) := by decide +kernel
theorem dX11_live_9 : decode cX11_live 9 = .ok (.ifCond .ne 9, 3) := by decide +kernel
theorem dX11_live_12 : decode cX11_live 12 = .ok (.aload_n 0, 1) := by decide +kernel
theorem dX11_live_13 : decode cX11_live 13 = .ok (.iconst 1, 1) := by decide +kernel
theorem dX11_live_14 : decode cX11_live 14 = .ok (.invokevirtual 124, 3) := by decide +kernel
theorem dX11_live_17 : decode cX11_live 17 = .ok (.ireturn, 1) := by decide +kernel
theorem dX11_live_18 : decode cX11_live 18 = .ok (.aload_n 0, 1) := by decide +kernel
theorem dX11_live_19 : decode cX11_live 19 = .ok (.getfield 46, 3) := by decide +kernel
theorem dX11_live_22 : decode cX11_live 22 = .ok (.getfield 415, 3) := by decide +kernel
theorem dX11_live_25 : decode cX11_live 25 = .ok (.ifCond .ne 10, 3) := by decide +kernel
theorem dX11_live_28 : decode cX11_live 28 = .ok (.aload_n 0, 1) := by decide +kernel
theorem dX11_live_29 : decode cX11_live 29 = .ok (.bipush 6, 2) := by decide +kernel
theorem dX11_live_31 : decode cX11_live 31 = .ok (.invokevirtual 124, 3) := by decide +kernel
theorem dX11_live_34 : decode cX11_live 34 = .ok (.ireturn, 1) := by decide +kernel
theorem dX11_live_35 : decode cX11_live 35 = .ok (.aload_n 0, 1) := by decide +kernel
theorem dX11_live_36 : decode cX11_live 36 = .ok (.getfield 88, 3) := by decide +kernel
theorem dX11_live_39 : decode cX11_live 39 = .ok (.aload_n 0, 1) := by decide +kernel
theorem dX11_live_40 : decode cX11_live 40 = .ok (.getfield 36, 3) := by decide +kernel
theorem dX11_live_43 : decode cX11_live 43 = .ok (.aload_n 0, 1) := by decide +kernel
theorem dX11_live_44 : decode cX11_live 44 = .ok (.getfield 46, 3) := by decide +kernel
theorem dX11_live_47 : decode cX11_live 47 = .ok (.iload_n 1, 1) := by decide +kernel
theorem dX11_live_48 : decode cX11_live 48 = .ok (.aload_n 0, 1) := by decide +kernel
theorem dX11_live_49 : decode cX11_live 49 = .ok (.getfield 67, 3) := by decide +kernel
theorem dX11_live_52 : decode cX11_live 52 = .ok (.invokevirtual 419, 3) := by decide +kernel
theorem dX11_live_55 : decode cX11_live 55 = .ok (.aload_n 0, 1) := by decide +kernel
theorem dX11_live_56 : decode cX11_live 56 = .ok (.aload_n 0, 1) := by decide +kernel
theorem dX11_live_57 : decode cX11_live 57 = .ok (.getfield 88, 3) := by decide +kernel
theorem dX11_live_60 : decode cX11_live 60 = .ok (.getfield 423, 3) := by decide +kernel
theorem dX11_live_63 : decode cX11_live 63 = .ok (.invokevirtual 185, 3) := by decide +kernel
theorem dX11_live_66 : decode cX11_live 66 = .ok (.ireturn, 1) := by decide +kernel
noncomputable def RC_live (σ : St) (p1 : Int32) : Option (Int32 × St) :=
  bd (RC_within p1.toInt64 0 9999) (fun r2 => if r2 = 0 then (bd2 (RC_refuse σ 1) (fun r13 σ14 => some (r13, σ14))) else (if (σ.1 15 8) = 0 then (bd2 (RC_refuse σ 6) (fun r9 σ10 => some (r9, σ10))) else (bd (Li_run σ 47 7 15 p1) (fun σ4 => bd2 (RC_answer σ4 (σ4.1 47 2)) (fun r6 σ7 => some (r6, σ7))))))
set_option maxRecDepth 100000 in
set_option maxHeartbeats 4000000 in
theorem tm_RC_live {V : Ev} {Γ : Cn} {fin : Option Value × St} {σ : St} {p1 : Int32} {o : (Int32 × St)} (X : Cx V Γ M_X11_live) {A : (Int32 × St) → Prop}  (hr : ∀ (r : Int32) (σ9 : St), A (r, σ9) → (some (.int r), σ9) = fin) (h : RC_live σ p1 = some o) (hA : A o) : Go V Γ M_X11_live (Zm V Γ 7 fin) 0 [(0, .ref (V.2.2.1 + 0)), (1, .int p1)] [] σ := by
  unfold RC_live at h
  refine g_iload_n (pc := 0) X 1 rfl dX11_live_0 ?_
  refine g_i2l (pc := 1) X dX11_live_1 ?_
  refine g_lconst (v := 0) (pc := 2) X rfl dX11_live_2 ?_
  refine g_ldc2 (v := 9999) (pc := 3) X k_constl_X11_248 dX11_live_3 ?_
  obtain ⟨r2, hc1, h⟩ := bd_e h
  refine g_callS (pc := 6) X k_ml_X11_98 (run_RC_within  hc1) rfl (room_ok (Nat.le_of_ble_eq_true rfl) (Nat.le_of_ble_eq_true rfl)) ⟨Nat.le_refl _, Nat.le_refl _⟩ _ rfl (Nat.le_of_ble_eq_true rfl) dX11_live_6 ?_
  show Go V Γ M_X11_live (Zm V Γ 7 fin) 9 [(0, .ref (V.2.2.1 + 0)), (1, .int p1)] [.int r2] σ
  refine g_if_ne (pc := 9) (tgt := 18) X dX11_live_9 rfl (fun c15 => ?_) (fun c15 => ?_)
  · replace h := if_f c15 h
    refine g_aload_n (pc := 18) X 0 rfl dX11_live_18 ?_
    refine g_getR (r := 15) (pc := 19) X k_fl_X11_46 s_0 rfl dX11_live_19 ?_
    refine g_getI (pc := 22) X k_fl_X11_415 s_15 rfl dX11_live_22 ?_
    refine g_if_ne (pc := 25) (tgt := 35) X dX11_live_25 rfl (fun c11 => ?_) (fun c11 => ?_)
    · replace h := if_f c11 h
      refine g_aload_n (pc := 35) X 0 rfl dX11_live_35 ?_
      refine g_getR (r := 47) (pc := 36) X k_fl_X11_88 s_0 rfl dX11_live_36 ?_
      refine g_aload_n (pc := 39) X 0 rfl dX11_live_39 ?_
      refine g_getR (r := 7) (pc := 40) X k_fl_X11_36 s_0 rfl dX11_live_40 ?_
      refine g_aload_n (pc := 43) X 0 rfl dX11_live_43 ?_
      refine g_getR (r := 15) (pc := 44) X k_fl_X11_46 s_0 rfl dX11_live_44 ?_
      refine g_iload_n (pc := 47) X 1 rfl dX11_live_47 ?_
      refine g_aload_n (pc := 48) X 0 rfl dX11_live_48 ?_
      refine g_getR (r := 31) (pc := 49) X k_fl_X11_67 s_0 rfl dX11_live_49 ?_
      obtain ⟨σ4, hc3, h⟩ := bd_e h
      refine g_callV (pc := 52) X k_ml_X11_419 (run_Li_run (oknLi_47) (oknCl_7) (oknDa_15) hc3) s_47 rfl (room_ok (Nat.le_of_ble_eq_true rfl) (Nat.le_of_ble_eq_true rfl)) ⟨Nat.le_refl _, Nat.le_refl _⟩ _ rfl (Nat.le_of_ble_eq_true rfl) dX11_live_52 ?_
      show Go V Γ M_X11_live (Zm V Γ 7 fin) 55 [(0, .ref (V.2.2.1 + 0)), (1, .int p1)] [] σ4
      refine g_aload_n (pc := 55) X 0 rfl dX11_live_55 ?_
      refine g_aload_n (pc := 56) X 0 rfl dX11_live_56 ?_
      refine g_getR (r := 47) (pc := 57) X k_fl_X11_88 s_0 rfl dX11_live_57 ?_
      refine g_getI (pc := 60) X k_fl_X11_423 s_47 rfl dX11_live_60 ?_
      obtain ⟨r6, σ7, hc5, h⟩ := bd2_e h
      refine g_callV (pc := 63) X k_ml_X11_185 (run_RC_answer  hc5) s_0 rfl (room_ok (Nat.le_of_ble_eq_true rfl) (Nat.le_of_ble_eq_true rfl)) ⟨Nat.le_refl _, Nat.le_refl _⟩ _ rfl (Nat.le_of_ble_eq_true rfl) dX11_live_63 ?_
      show Go V Γ M_X11_live (Zm V Γ 7 fin) 66 [(0, .ref (V.2.2.1 + 0)), (1, .int p1)] [.int r6] σ7
      cases h
      exact g_iret (pc := 66) X rfl rfl (hr _ _ hA) dX11_live_66
    · replace h := if_t c11 h
      refine g_aload_n (pc := 28) X 0 rfl dX11_live_28 ?_
      refine g_bipush (v := 6) (pc := 29) X (by decide) dX11_live_29 ?_
      obtain ⟨r9, σ10, hc8, h⟩ := bd2_e h
      refine g_callV (pc := 31) X k_ml_X11_124 (run_RC_refuse  hc8) s_0 rfl (room_ok (Nat.le_of_ble_eq_true rfl) (Nat.le_of_ble_eq_true rfl)) ⟨Nat.le_refl _, Nat.le_refl _⟩ _ rfl (Nat.le_of_ble_eq_true rfl) dX11_live_31 ?_
      show Go V Γ M_X11_live (Zm V Γ 7 fin) 34 [(0, .ref (V.2.2.1 + 0)), (1, .int p1)] [.int r9] σ10
      cases h
      exact g_iret (pc := 34) X rfl rfl (hr _ _ hA) dX11_live_34
  · replace h := if_t c15 h
    refine g_aload_n (pc := 12) X 0 rfl dX11_live_12 ?_
    refine g_iconst (v := 1) (pc := 13) X rfl dX11_live_13 ?_
    obtain ⟨r13, σ14, hc12, h⟩ := bd2_e h
    refine g_callV (pc := 14) X k_ml_X11_124 (run_RC_refuse  hc12) s_0 rfl (room_ok (Nat.le_of_ble_eq_true rfl) (Nat.le_of_ble_eq_true rfl)) ⟨Nat.le_refl _, Nat.le_refl _⟩ _ rfl (Nat.le_of_ble_eq_true rfl) dX11_live_14 ?_
    show Go V Γ M_X11_live (Zm V Γ 7 fin) 17 [(0, .ref (V.2.2.1 + 0)), (1, .int p1)] [.int r13] σ14
    cases h
    exact g_iret (pc := 17) X rfl rfl (hr _ _ hA) dX11_live_17
set_option maxRecDepth 100000 in
theorem run_RC_live {V : Ev} {σ : St} {p1 : Int32} {o : (Int32 × St)}   (h : RC_live σ p1 = some o) : Rs V 7 M_X11_live [.ref (V.2.2.1 + 0), .int p1] σ (some (.int o.1), o.2) := by
  refine Rs.of (by decide +kernel) (Nat.le_of_ble_eq_true rfl) (fun Γ X => ?_)
  exact tm_RC_live X (A := fun o1 => o1 = o)  (fun _ _ e => by rw [← e]) h rfl
theorem dX11_lived_0 : decode cX11_lived 0 = .ok (.iload_n 1, 1) := by decide +kernel
theorem dX11_lived_1 : decode cX11_lived 1 = .ok (.i2l, 1) := by decide +kernel
theorem dX11_lived_2 : decode cX11_lived 2 = .ok (.lconst 0, 1) := by decide +kernel
theorem dX11_lived_3 : decode cX11_lived 3 = .ok (.ldc2_w 426, 3) := by decide +kernel
theorem dX11_lived_6 : decode cX11_lived 6 = .ok (.invokestatic 98, 3) := by decide +kernel
theorem dX11_lived_9 : decode cX11_lived 9 = .ok (.ifCond .ne 9, 3) := by decide +kernel
theorem dX11_lived_12 : decode cX11_lived 12 = .ok (.aload_n 0, 1) := by decide +kernel
theorem dX11_lived_13 : decode cX11_lived 13 = .ok (.iconst 1, 1) := by decide +kernel
theorem dX11_lived_14 : decode cX11_lived 14 = .ok (.invokevirtual 124, 3) := by decide +kernel
theorem dX11_lived_17 : decode cX11_lived 17 = .ok (.ireturn, 1) := by decide +kernel
theorem dX11_lived_18 : decode cX11_lived 18 = .ok (.aload_n 0, 1) := by decide +kernel
theorem dX11_lived_19 : decode cX11_lived 19 = .ok (.getfield 88, 3) := by decide +kernel
theorem dX11_lived_22 : decode cX11_lived 22 = .ok (.getfield 428, 3) := by decide +kernel
theorem dX11_lived_25 : decode cX11_lived 25 = .ok (.ifCond .ne 10, 3) := by decide +kernel
theorem dX11_lived_28 : decode cX11_lived 28 = .ok (.aload_n 0, 1) := by decide +kernel
theorem dX11_lived_29 : decode cX11_lived 29 = .ok (.bipush 6, 2) := by decide +kernel
theorem dX11_lived_31 : decode cX11_lived 31 = .ok (.invokevirtual 124, 3) := by decide +kernel
theorem dX11_lived_34 : decode cX11_lived 34 = .ok (.ireturn, 1) := by decide +kernel
theorem dX11_lived_35 : decode cX11_lived 35 = .ok (.iload_n 1, 1) := by decide +kernel
theorem dX11_lived_36 : decode cX11_lived 36 = .ok (.tableswitch 80 0 3 #[32, 44, 56, 68], 32) := by decide +kernel
theorem dX11_lived_68 : decode cX11_lived 68 = .ok (.aload_n 0, 1) := by decide +kernel
theorem dX11_lived_69 : decode cX11_lived 69 = .ok (.aload_n 0, 1) := by decide +kernel
theorem dX11_lived_70 : decode cX11_lived 70 = .ok (.getfield 88, 3) := by decide +kernel
theorem dX11_lived_73 : decode cX11_lived 73 = .ok (.getfield 431, 3) := by decide +kernel
theorem dX11_lived_76 : decode cX11_lived 76 = .ok (.invokevirtual 185, 3) := by decide +kernel
theorem dX11_lived_79 : decode cX11_lived 79 = .ok (.ireturn, 1) := by decide +kernel
theorem dX11_lived_80 : decode cX11_lived 80 = .ok (.aload_n 0, 1) := by decide +kernel
theorem dX11_lived_81 : decode cX11_lived 81 = .ok (.aload_n 0, 1) := by decide +kernel
theorem dX11_lived_82 : decode cX11_lived 82 = .ok (.getfield 88, 3) := by decide +kernel
theorem dX11_lived_85 : decode cX11_lived 85 = .ok (.getfield 434, 3) := by decide +kernel
theorem dX11_lived_88 : decode cX11_lived 88 = .ok (.invokevirtual 185, 3) := by decide +kernel
theorem dX11_lived_91 : decode cX11_lived 91 = .ok (.ireturn, 1) := by decide +kernel
theorem dX11_lived_92 : decode cX11_lived 92 = .ok (.aload_n 0, 1) := by decide +kernel
theorem dX11_lived_93 : decode cX11_lived 93 = .ok (.aload_n 0, 1) := by decide +kernel
theorem dX11_lived_94 : decode cX11_lived 94 = .ok (.getfield 88, 3) := by decide +kernel
theorem dX11_lived_97 : decode cX11_lived 97 = .ok (.getfield 437, 3) := by decide +kernel
theorem dX11_lived_100 : decode cX11_lived 100 = .ok (.invokevirtual 185, 3) := by decide +kernel
theorem dX11_lived_103 : decode cX11_lived 103 = .ok (.ireturn, 1) := by decide +kernel
theorem dX11_lived_104 : decode cX11_lived 104 = .ok (.aload_n 0, 1) := by decide +kernel
theorem dX11_lived_105 : decode cX11_lived 105 = .ok (.aload_n 0, 1) := by decide +kernel
theorem dX11_lived_106 : decode cX11_lived 106 = .ok (.getfield 88, 3) := by decide +kernel
theorem dX11_lived_109 : decode cX11_lived 109 = .ok (.getfield 440, 3) := by decide +kernel
theorem dX11_lived_112 : decode cX11_lived 112 = .ok (.invokevirtual 185, 3) := by decide +kernel
theorem dX11_lived_115 : decode cX11_lived 115 = .ok (.ireturn, 1) := by decide +kernel
theorem dX11_lived_116 : decode cX11_lived 116 = .ok (.aload_n 0, 1) := by decide +kernel
theorem dX11_lived_117 : decode cX11_lived 117 = .ok (.aload_n 0, 1) := by decide +kernel
theorem dX11_lived_118 : decode cX11_lived 118 = .ok (.getfield 88, 3) := by decide +kernel
theorem dX11_lived_121 : decode cX11_lived 121 = .ok (.getfield 443, 3) := by decide +kernel
theorem dX11_lived_124 : decode cX11_lived 124 = .ok (.ifCond .eq 7, 3) := by decide +kernel
theorem dX11_lived_127 : decode cX11_lived 127 = .ok (.iconst 1, 1) := by decide +kernel
theorem dX11_lived_128 : decode cX11_lived 128 = .ok (.goto 4, 3) := by decide +kernel
theorem dX11_lived_131 : decode cX11_lived 131 = .ok (.iconst 0, 1) := by decide +kernel
theorem dX11_lived_132 : decode cX11_lived 132 = .ok (.invokevirtual 185, 3) := by decide +kernel
theorem dX11_lived_135 : decode cX11_lived 135 = .ok (.ireturn, 1) := by decide +kernel
noncomputable def RC_lived (σ : St) (p1 : Int32) : Option (Int32 × St) :=
  bd (RC_within p1.toInt64 0 4) (fun r2 => if r2 = 0 then (bd2 (RC_refuse σ 1) (fun r31 σ32 => some (r31, σ32))) else (if (σ.1 47 1) = 0 then (bd2 (RC_refuse σ 6) (fun r27 σ28 => some (r27, σ28))) else (if p1 = 0 then (bd2 (RC_answer σ (σ.1 47 3)) (fun r4 σ5 => some (r4, σ5))) else if p1 = 1 then (bd2 (RC_answer σ (σ.1 47 4)) (fun r8 σ9 => some (r8, σ9))) else if p1 = 2 then (bd2 (RC_answer σ (σ.1 47 5)) (fun r12 σ13 => some (r12, σ13))) else if p1 = 3 then (bd2 (RC_answer σ (σ.1 47 6)) (fun r16 σ17 => some (r16, σ17))) else (if (σ.1 47 7) = 0 then (bd2 (RC_answer σ 0) (fun r20 σ21 => some (r20, σ21))) else (bd2 (RC_answer σ 1) (fun r23 σ24 => some (r23, σ24)))))))
set_option maxRecDepth 100000 in
set_option maxHeartbeats 4000000 in
theorem tm_RC_lived {V : Ev} {Γ : Cn} {fin : Option Value × St} {σ : St} {p1 : Int32} {o : (Int32 × St)} (X : Cx V Γ M_X11_lived) {A : (Int32 × St) → Prop}  (hr : ∀ (r : Int32) (σ9 : St), A (r, σ9) → (some (.int r), σ9) = fin) (h : RC_lived σ p1 = some o) (hA : A o) : Go V Γ M_X11_lived (Zm V Γ 1 fin) 0 [(0, .ref (V.2.2.1 + 0)), (1, .int p1)] [] σ := by
  unfold RC_lived at h
  refine g_iload_n (pc := 0) X 1 rfl dX11_lived_0 ?_
  refine g_i2l (pc := 1) X dX11_lived_1 ?_
  refine g_lconst (v := 0) (pc := 2) X rfl dX11_lived_2 ?_
  refine g_ldc2 (v := 4) (pc := 3) X k_constl_X11_426 dX11_lived_3 ?_
  obtain ⟨r2, hc1, h⟩ := bd_e h
  refine g_callS (pc := 6) X k_ml_X11_98 (run_RC_within  hc1) rfl (room_ok (Nat.le_of_ble_eq_true rfl) (Nat.le_of_ble_eq_true rfl)) ⟨Nat.le_refl _, Nat.le_refl _⟩ _ rfl (Nat.le_of_ble_eq_true rfl) dX11_lived_6 ?_
  show Go V Γ M_X11_lived (Zm V Γ 1 fin) 9 [(0, .ref (V.2.2.1 + 0)), (1, .int p1)] [.int r2] σ
  refine g_if_ne (pc := 9) (tgt := 18) X dX11_lived_9 rfl (fun c33 => ?_) (fun c33 => ?_)
  · replace h := if_f c33 h
    refine g_aload_n (pc := 18) X 0 rfl dX11_lived_18 ?_
    refine g_getR (r := 47) (pc := 19) X k_fl_X11_88 s_0 rfl dX11_lived_19 ?_
    refine g_getI (pc := 22) X k_fl_X11_428 s_47 rfl dX11_lived_22 ?_
    refine g_if_ne (pc := 25) (tgt := 35) X dX11_lived_25 rfl (fun c29 => ?_) (fun c29 => ?_)
    · replace h := if_f c29 h
      refine g_iload_n (pc := 35) X 1 rfl dX11_lived_35 ?_
      by_cases c6 : p1 = 0
      · replace h := if_t c6 h
        refine g_tabIn (pc := 36) (tgt := 68) X c6 dX11_lived_36 (by decide) (by decide) rfl rfl ?_
        refine g_aload_n (pc := 68) X 0 rfl dX11_lived_68 ?_
        refine g_aload_n (pc := 69) X 0 rfl dX11_lived_69 ?_
        refine g_getR (r := 47) (pc := 70) X k_fl_X11_88 s_0 rfl dX11_lived_70 ?_
        refine g_getI (pc := 73) X k_fl_X11_431 s_47 rfl dX11_lived_73 ?_
        obtain ⟨r4, σ5, hc3, h⟩ := bd2_e h
        refine g_callV (pc := 76) X k_ml_X11_185 (run_RC_answer  hc3) s_0 rfl (room_ok (Nat.le_of_ble_eq_true rfl) (Nat.le_of_ble_eq_true rfl)) ⟨Nat.le_refl _, Nat.le_refl _⟩ _ rfl (Nat.le_of_ble_eq_true rfl) dX11_lived_76 ?_
        show Go V Γ M_X11_lived (Zm V Γ 1 fin) 79 [(0, .ref (V.2.2.1 + 0)), (1, .int p1)] [.int r4] σ5
        cases h
        exact g_iret (pc := 79) X rfl rfl (hr _ _ hA) dX11_lived_79
      replace h := if_f c6 h
      by_cases c10 : p1 = 1
      · replace h := if_t c10 h
        refine g_tabIn (pc := 36) (tgt := 80) X c10 dX11_lived_36 (by decide) (by decide) rfl rfl ?_
        refine g_aload_n (pc := 80) X 0 rfl dX11_lived_80 ?_
        refine g_aload_n (pc := 81) X 0 rfl dX11_lived_81 ?_
        refine g_getR (r := 47) (pc := 82) X k_fl_X11_88 s_0 rfl dX11_lived_82 ?_
        refine g_getI (pc := 85) X k_fl_X11_434 s_47 rfl dX11_lived_85 ?_
        obtain ⟨r8, σ9, hc7, h⟩ := bd2_e h
        refine g_callV (pc := 88) X k_ml_X11_185 (run_RC_answer  hc7) s_0 rfl (room_ok (Nat.le_of_ble_eq_true rfl) (Nat.le_of_ble_eq_true rfl)) ⟨Nat.le_refl _, Nat.le_refl _⟩ _ rfl (Nat.le_of_ble_eq_true rfl) dX11_lived_88 ?_
        show Go V Γ M_X11_lived (Zm V Γ 1 fin) 91 [(0, .ref (V.2.2.1 + 0)), (1, .int p1)] [.int r8] σ9
        cases h
        exact g_iret (pc := 91) X rfl rfl (hr _ _ hA) dX11_lived_91
      replace h := if_f c10 h
      by_cases c14 : p1 = 2
      · replace h := if_t c14 h
        refine g_tabIn (pc := 36) (tgt := 92) X c14 dX11_lived_36 (by decide) (by decide) rfl rfl ?_
        refine g_aload_n (pc := 92) X 0 rfl dX11_lived_92 ?_
        refine g_aload_n (pc := 93) X 0 rfl dX11_lived_93 ?_
        refine g_getR (r := 47) (pc := 94) X k_fl_X11_88 s_0 rfl dX11_lived_94 ?_
        refine g_getI (pc := 97) X k_fl_X11_437 s_47 rfl dX11_lived_97 ?_
        obtain ⟨r12, σ13, hc11, h⟩ := bd2_e h
        refine g_callV (pc := 100) X k_ml_X11_185 (run_RC_answer  hc11) s_0 rfl (room_ok (Nat.le_of_ble_eq_true rfl) (Nat.le_of_ble_eq_true rfl)) ⟨Nat.le_refl _, Nat.le_refl _⟩ _ rfl (Nat.le_of_ble_eq_true rfl) dX11_lived_100 ?_
        show Go V Γ M_X11_lived (Zm V Γ 1 fin) 103 [(0, .ref (V.2.2.1 + 0)), (1, .int p1)] [.int r12] σ13
        cases h
        exact g_iret (pc := 103) X rfl rfl (hr _ _ hA) dX11_lived_103
      replace h := if_f c14 h
      by_cases c18 : p1 = 3
      · replace h := if_t c18 h
        refine g_tabIn (pc := 36) (tgt := 104) X c18 dX11_lived_36 (by decide) (by decide) rfl rfl ?_
        refine g_aload_n (pc := 104) X 0 rfl dX11_lived_104 ?_
        refine g_aload_n (pc := 105) X 0 rfl dX11_lived_105 ?_
        refine g_getR (r := 47) (pc := 106) X k_fl_X11_88 s_0 rfl dX11_lived_106 ?_
        refine g_getI (pc := 109) X k_fl_X11_440 s_47 rfl dX11_lived_109 ?_
        obtain ⟨r16, σ17, hc15, h⟩ := bd2_e h
        refine g_callV (pc := 112) X k_ml_X11_185 (run_RC_answer  hc15) s_0 rfl (room_ok (Nat.le_of_ble_eq_true rfl) (Nat.le_of_ble_eq_true rfl)) ⟨Nat.le_refl _, Nat.le_refl _⟩ _ rfl (Nat.le_of_ble_eq_true rfl) dX11_lived_112 ?_
        show Go V Γ M_X11_lived (Zm V Γ 1 fin) 115 [(0, .ref (V.2.2.1 + 0)), (1, .int p1)] [.int r16] σ17
        cases h
        exact g_iret (pc := 115) X rfl rfl (hr _ _ hA) dX11_lived_115
      replace h := if_f c18 h
      refine g_tabOut (pc := 36) (tgt := 116) X dX11_lived_36 (by have qc6 := lv_neT (k := 0) (a := 0) c6 rfl; have qc10 := lv_neT (k := 1) (a := 1) c10 rfl; have qc14 := lv_neT (k := 2) (a := 2) c14 rfl; have qc18 := lv_neT (k := 3) (a := 3) c18 rfl; omega) rfl ?_
      refine g_aload_n (pc := 116) X 0 rfl dX11_lived_116 ?_
      refine g_aload_n (pc := 117) X 0 rfl dX11_lived_117 ?_
      refine g_getR (r := 47) (pc := 118) X k_fl_X11_88 s_0 rfl dX11_lived_118 ?_
      refine g_getI (pc := 121) X k_fl_X11_443 s_47 rfl dX11_lived_121 ?_
      refine g_if_eq (pc := 124) (tgt := 131) X dX11_lived_124 rfl (fun c25 => ?_) (fun c25 => ?_)
      · replace h := if_t c25 h
        refine g_iconst (v := 0) (pc := 131) X rfl dX11_lived_131 ?_
        obtain ⟨r20, σ21, hc19, h⟩ := bd2_e h
        refine g_callV (pc := 132) X k_ml_X11_185 (run_RC_answer  hc19) s_0 rfl (room_ok (Nat.le_of_ble_eq_true rfl) (Nat.le_of_ble_eq_true rfl)) ⟨Nat.le_refl _, Nat.le_refl _⟩ _ rfl (Nat.le_of_ble_eq_true rfl) dX11_lived_132 ?_
        show Go V Γ M_X11_lived (Zm V Γ 1 fin) 135 [(0, .ref (V.2.2.1 + 0)), (1, .int p1)] [.int r20] σ21
        cases h
        exact g_iret (pc := 135) X rfl rfl (hr _ _ hA) dX11_lived_135
      · replace h := if_f c25 h
        refine g_iconst (v := 1) (pc := 127) X rfl dX11_lived_127 ?_
        refine g_goto (pc := 128) (tgt := 132) X dX11_lived_128 rfl ?_
        obtain ⟨r23, σ24, hc22, h⟩ := bd2_e h
        refine g_callV (pc := 132) X k_ml_X11_185 (run_RC_answer  hc22) s_0 rfl (room_ok (Nat.le_of_ble_eq_true rfl) (Nat.le_of_ble_eq_true rfl)) ⟨Nat.le_refl _, Nat.le_refl _⟩ _ rfl (Nat.le_of_ble_eq_true rfl) dX11_lived_132 ?_
        show Go V Γ M_X11_lived (Zm V Γ 1 fin) 135 [(0, .ref (V.2.2.1 + 0)), (1, .int p1)] [.int r23] σ24
        cases h
        exact g_iret (pc := 135) X rfl rfl (hr _ _ hA) dX11_lived_135
    · replace h := if_t c29 h
      refine g_aload_n (pc := 28) X 0 rfl dX11_lived_28 ?_
      refine g_bipush (v := 6) (pc := 29) X (by decide) dX11_lived_29 ?_
      obtain ⟨r27, σ28, hc26, h⟩ := bd2_e h
      refine g_callV (pc := 31) X k_ml_X11_124 (run_RC_refuse  hc26) s_0 rfl (room_ok (Nat.le_of_ble_eq_true rfl) (Nat.le_of_ble_eq_true rfl)) ⟨Nat.le_refl _, Nat.le_refl _⟩ _ rfl (Nat.le_of_ble_eq_true rfl) dX11_lived_31 ?_
      show Go V Γ M_X11_lived (Zm V Γ 1 fin) 34 [(0, .ref (V.2.2.1 + 0)), (1, .int p1)] [.int r27] σ28
      cases h
      exact g_iret (pc := 34) X rfl rfl (hr _ _ hA) dX11_lived_34
  · replace h := if_t c33 h
    refine g_aload_n (pc := 12) X 0 rfl dX11_lived_12 ?_
    refine g_iconst (v := 1) (pc := 13) X rfl dX11_lived_13 ?_
    obtain ⟨r31, σ32, hc30, h⟩ := bd2_e h
    refine g_callV (pc := 14) X k_ml_X11_124 (run_RC_refuse  hc30) s_0 rfl (room_ok (Nat.le_of_ble_eq_true rfl) (Nat.le_of_ble_eq_true rfl)) ⟨Nat.le_refl _, Nat.le_refl _⟩ _ rfl (Nat.le_of_ble_eq_true rfl) dX11_lived_14 ?_
    show Go V Γ M_X11_lived (Zm V Γ 1 fin) 17 [(0, .ref (V.2.2.1 + 0)), (1, .int p1)] [.int r31] σ32
    cases h
    exact g_iret (pc := 17) X rfl rfl (hr _ _ hA) dX11_lived_17
set_option maxRecDepth 100000 in
theorem run_RC_lived {V : Ev} {σ : St} {p1 : Int32} {o : (Int32 × St)}   (h : RC_lived σ p1 = some o) : Rs V 1 M_X11_lived [.ref (V.2.2.1 + 0), .int p1] σ (some (.int o.1), o.2) := by
  refine Rs.of (by decide +kernel) (Nat.le_of_ble_eq_true rfl) (fun Γ X => ?_)
  exact tm_RC_lived X (A := fun o1 => o1 = o)  (fun _ _ e => by rw [← e]) h rfl
theorem dX11_mean_0 : decode cX11_mean 0 = .ok (.iload_n 1, 1) := by decide +kernel
theorem dX11_mean_1 : decode cX11_mean 1 = .ok (.i2l, 1) := by decide +kernel
theorem dX11_mean_2 : decode cX11_mean 2 = .ok (.lconst 0, 1) := by decide +kernel
theorem dX11_mean_3 : decode cX11_mean 3 = .ok (.ldc2_w 248, 3) := by decide +kernel
theorem dX11_mean_6 : decode cX11_mean 6 = .ok (.invokestatic 98, 3) := by decide +kernel
theorem dX11_mean_9 : decode cX11_mean 9 = .ok (.ifCond .eq 26, 3) := by decide +kernel
theorem dX11_mean_12 : decode cX11_mean 12 = .ok (.iload_n 2, 1) := by decide +kernel
theorem dX11_mean_13 : decode cX11_mean 13 = .ok (.i2l, 1) := by decide +kernel
theorem dX11_mean_14 : decode cX11_mean 14 = .ok (.lconst 1, 1) := by decide +kernel
theorem dX11_mean_15 : decode cX11_mean 15 = .ok (.ldc2_w 446, 3) := by decide +kernel
theorem dX11_mean_18 : decode cX11_mean 18 = .ok (.invokestatic 98, 3) := by decide +kernel
theorem dX11_mean_21 : decode cX11_mean 21 = .ok (.ifCond .eq 14, 3) := by decide +kernel
theorem dX11_mean_24 : decode cX11_mean 24 = .ok (.iload_n 1, 1) := by decide +kernel
theorem dX11_mean_25 : decode cX11_mean 25 = .ok (.iload_n 2, 1) := by decide +kernel
theorem dX11_mean_26 : decode cX11_mean 26 = .ok (.iadd, 1) := by decide +kernel
theorem dX11_mean_27 : decode cX11_mean 27 = .ok (.iconst 1, 1) := by decide +kernel
theorem dX11_mean_28 : decode cX11_mean 28 = .ok (.isub, 1) := by decide +kernel
theorem dX11_mean_29 : decode cX11_mean 29 = .ok (.sipush 9999, 3) := by decide +kernel
theorem dX11_mean_32 : decode cX11_mean 32 = .ok (.if_icmp .le 9, 3) := by decide +kernel
theorem dX11_mean_35 : decode cX11_mean 35 = .ok (.aload_n 0, 1) := by decide +kernel
theorem dX11_mean_36 : decode cX11_mean 36 = .ok (.iconst 1, 1) := by decide +kernel
theorem dX11_mean_37 : decode cX11_mean 37 = .ok (.invokevirtual 104, 3) := by decide +kernel
theorem dX11_mean_40 : decode cX11_mean 40 = .ok (.ireturn, 1) := by decide +kernel
theorem dX11_mean_41 : decode cX11_mean 41 = .ok (.aload_n 0, 1) := by decide +kernel
theorem dX11_mean_42 : decode cX11_mean 42 = .ok (.getfield 46, 3) := by decide +kernel
theorem dX11_mean_45 : decode cX11_mean 45 = .ok (.getfield 415, 3) := by decide +kernel
theorem dX11_mean_48 : decode cX11_mean 48 = .ok (.ifCond .ne 10, 3) := by decide +kernel
theorem dX11_mean_51 : decode cX11_mean 51 = .ok (.aload_n 0, 1) := by decide +kernel
theorem dX11_mean_52 : decode cX11_mean 52 = .ok (.bipush 6, 2) := by decide +kernel
theorem dX11_mean_54 : decode cX11_mean 54 = .ok (.invokevirtual 104, 3) := by decide +kernel
theorem dX11_mean_57 : decode cX11_mean 57 = .ok (.ireturn, 1) := by decide +kernel
theorem dX11_mean_58 : decode cX11_mean 58 = .ok (.iconst 0, 1) := by decide +kernel
theorem dX11_mean_59 : decode cX11_mean 59 = .ok (.istore_n 3, 1) := by decide +kernel
theorem dX11_mean_60 : decode cX11_mean 60 = .ok (.iconst 0, 1) := by decide +kernel
theorem dX11_mean_61 : decode cX11_mean 61 = .ok (.istore 4, 2) := by decide +kernel
theorem dX11_mean_63 : decode cX11_mean 63 = .ok (.iload 4, 2) := by decide +kernel
theorem dX11_mean_65 : decode cX11_mean 65 = .ok (.iload_n 2, 1) := by decide +kernel
theorem dX11_mean_66 : decode cX11_mean 66 = .ok (.if_icmp .ge 56, 3) := by decide +kernel
theorem dX11_mean_69 : decode cX11_mean 69 = .ok (.aload_n 0, 1) := by decide +kernel
theorem dX11_mean_70 : decode cX11_mean 70 = .ok (.getfield 40, 3) := by decide +kernel
theorem dX11_mean_73 : decode cX11_mean 73 = .ok (.aload_n 0, 1) := by decide +kernel
theorem dX11_mean_74 : decode cX11_mean 74 = .ok (.getfield 36, 3) := by decide +kernel
theorem dX11_mean_77 : decode cX11_mean 77 = .ok (.invokevirtual 175, 3) := by decide +kernel
theorem dX11_mean_80 : decode cX11_mean 80 = .ok (.aload_n 0, 1) := by decide +kernel
theorem dX11_mean_81 : decode cX11_mean 81 = .ok (.getfield 92, 3) := by decide +kernel
theorem dX11_mean_84 : decode cX11_mean 84 = .ok (.aload_n 0, 1) := by decide +kernel
theorem dX11_mean_85 : decode cX11_mean 85 = .ok (.getfield 40, 3) := by decide +kernel
theorem dX11_mean_88 : decode cX11_mean 88 = .ok (.aload_n 0, 1) := by decide +kernel
theorem dX11_mean_89 : decode cX11_mean 89 = .ok (.getfield 46, 3) := by decide +kernel
theorem dX11_mean_92 : decode cX11_mean 92 = .ok (.iload_n 1, 1) := by decide +kernel
theorem dX11_mean_93 : decode cX11_mean 93 = .ok (.iload 4, 2) := by decide +kernel
theorem dX11_mean_95 : decode cX11_mean 95 = .ok (.iadd, 1) := by decide +kernel
theorem dX11_mean_96 : decode cX11_mean 96 = .ok (.aload_n 0, 1) := by decide +kernel
theorem dX11_mean_97 : decode cX11_mean 97 = .ok (.getfield 67, 3) := by decide +kernel
theorem dX11_mean_100 : decode cX11_mean 100 = .ok (.invokevirtual 419, 3) := by decide +kernel
theorem dX11_mean_103 : decode cX11_mean 103 = .ok (.iload_n 3, 1) := by decide +kernel
theorem dX11_mean_104 : decode cX11_mean 104 = .ok (.aload_n 0, 1) := by decide +kernel
theorem dX11_mean_105 : decode cX11_mean 105 = .ok (.getfield 40, 3) := by decide +kernel
theorem dX11_mean_108 : decode cX11_mean 108 = .ok (.getfield 213, 3) := by decide +kernel
theorem dX11_mean_111 : decode cX11_mean 111 = .ok (.invokestatic 325, 3) := by decide +kernel
theorem dX11_mean_114 : decode cX11_mean 114 = .ok (.iadd, 1) := by decide +kernel
theorem dX11_mean_115 : decode cX11_mean 115 = .ok (.istore_n 3, 1) := by decide +kernel
theorem dX11_mean_116 : decode cX11_mean 116 = .ok (.iinc 4 1, 3) := by decide +kernel
theorem dX11_mean_119 : decode cX11_mean 119 = .ok (.goto (-56), 3) := by decide +kernel
theorem dX11_mean_122 : decode cX11_mean 122 = .ok (.aload_n 0, 1) := by decide +kernel
theorem dX11_mean_123 : decode cX11_mean 123 = .ok (.iload_n 3, 1) := by decide +kernel
theorem dX11_mean_124 : decode cX11_mean 124 = .ok (.i2l, 1) := by decide +kernel
theorem dX11_mean_125 : decode cX11_mean 125 = .ok (.iload_n 2, 1) := by decide +kernel
theorem dX11_mean_126 : decode cX11_mean 126 = .ok (.i2l, 1) := by decide +kernel
theorem dX11_mean_127 : decode cX11_mean 127 = .ok (.invokevirtual 304, 3) := by decide +kernel
theorem dX11_mean_130 : decode cX11_mean 130 = .ok (.ireturn, 1) := by decide +kernel
noncomputable def RC_mean_L63 (l1 : Int32) (l2 : Int32) (σ : St) (x3 : Int32) (x4 : Int32) : Option ((Int32 × Int32 × St) ⊕ (Int32 × St)) :=
  if l2 ≤ x4 then (some (.inr (x3, σ))) else (bd (Cl_copyFrom σ 11 7) (fun σ14 => bd (Li_run σ14 49 11 15 (l1 + x4)) (fun σ16 => bd (JI_bitCount_0f7a4 (σ16.1 11 4)) (fun r18 => bnd ((x3 + r18)) (fun v19 => bnd (x4 + 1) (fun v20 => some (.inl (v19, v20, σ16))))))))
set_option maxRecDepth 100000 in
set_option maxHeartbeats 4000000 in
theorem tb_RC_mean_L63 {V : Ev} {Γ : Cn} {fin : Option Value × St} {l1 : Int32} {l2 : Int32} {σ : St} {x3 : Int32} {x4 : Int32} {o : ((Int32 × Int32 × St) ⊕ (Int32 × St))} (X : Cx V Γ M_X11_mean) {A : ((Int32 × Int32 × St) ⊕ (Int32 × St)) → Prop}  (hb63 : ∀ (x3 : Int32) (x4 : Int32) (σ9 : St), A (.inl (x3, x4, σ9)) → Go V Γ M_X11_mean (Zm V Γ 7 fin) 63 [(0, .ref (V.2.2.1 + 0)), (1, .int l1), (2, .int l2), (3, .int x3), (4, .int x4)] [] σ9) (hx63 : ∀ (x3 : Int32) (σ9 : St), A (.inr (x3, σ9)) → Go V Γ M_X11_mean (Zm V Γ 7 fin) 122 [(0, .ref (V.2.2.1 + 0)), (2, .int l2), (3, .int x3)] [] σ9) (h : RC_mean_L63 l1 l2 σ x3 x4 = some o) (hA : A o) : Go V Γ M_X11_mean (Zm V Γ 7 fin) 63 [(0, .ref (V.2.2.1 + 0)), (1, .int l1), (2, .int l2), (3, .int x3), (4, .int x4)] [] σ := by
  unfold RC_mean_L63 at h
  refine g_iload (pc := 63) X 4 rfl dX11_mean_63 ?_
  refine g_iload_n (pc := 65) X 2 rfl dX11_mean_65 ?_
  refine g_icmp_ge (pc := 66) (tgt := 122) X dX11_mean_66 rfl (fun c21 => ?_) (fun c21 => ?_)
  · replace h := if_t c21 h
    refine g_sub [0, 2, 3] rfl ?_
    cases h
    exact hx63 _ _ hA
  · replace h := if_f c21 h
    refine g_aload_n (pc := 69) X 0 rfl dX11_mean_69 ?_
    refine g_getR (r := 11) (pc := 70) X k_fl_X11_40 s_0 rfl dX11_mean_70 ?_
    refine g_aload_n (pc := 73) X 0 rfl dX11_mean_73 ?_
    refine g_getR (r := 7) (pc := 74) X k_fl_X11_36 s_0 rfl dX11_mean_74 ?_
    obtain ⟨σ14, hc13, h⟩ := bd_e h
    refine g_callV (pc := 77) X k_ml_X11_175 (run_Cl_copyFrom (oknCl_11) (oknCl_7) hc13) s_11 rfl (room_ok (Nat.le_of_ble_eq_true rfl) (Nat.le_of_ble_eq_true rfl)) ⟨Nat.le_refl _, Nat.le_refl _⟩ _ rfl (Nat.le_of_ble_eq_true rfl) dX11_mean_77 ?_
    show Go V Γ M_X11_mean (Zm V Γ 7 fin) 80 [(0, .ref (V.2.2.1 + 0)), (1, .int l1), (2, .int l2), (3, .int x3), (4, .int x4)] [] σ14
    refine g_aload_n (pc := 80) X 0 rfl dX11_mean_80 ?_
    refine g_getR (r := 49) (pc := 81) X k_fl_X11_92 s_0 rfl dX11_mean_81 ?_
    refine g_aload_n (pc := 84) X 0 rfl dX11_mean_84 ?_
    refine g_getR (r := 11) (pc := 85) X k_fl_X11_40 s_0 rfl dX11_mean_85 ?_
    refine g_aload_n (pc := 88) X 0 rfl dX11_mean_88 ?_
    refine g_getR (r := 15) (pc := 89) X k_fl_X11_46 s_0 rfl dX11_mean_89 ?_
    refine g_iload_n (pc := 92) X 1 rfl dX11_mean_92 ?_
    refine g_iload (pc := 93) X 4 rfl dX11_mean_93 ?_
    refine g_iadd (pc := 95) X dX11_mean_95 ?_
    refine g_aload_n (pc := 96) X 0 rfl dX11_mean_96 ?_
    refine g_getR (r := 31) (pc := 97) X k_fl_X11_67 s_0 rfl dX11_mean_97 ?_
    obtain ⟨σ16, hc15, h⟩ := bd_e h
    refine g_callV (pc := 100) X k_ml_X11_419 (run_Li_run (oknLi_49) (oknCl_11) (oknDa_15) hc15) s_49 rfl (room_ok (Nat.le_of_ble_eq_true rfl) (Nat.le_of_ble_eq_true rfl)) ⟨Nat.le_refl _, Nat.le_refl _⟩ _ rfl (Nat.le_of_ble_eq_true rfl) dX11_mean_100 ?_
    show Go V Γ M_X11_mean (Zm V Γ 7 fin) 103 [(0, .ref (V.2.2.1 + 0)), (1, .int l1), (2, .int l2), (3, .int x3), (4, .int x4)] [] σ16
    refine g_iload_n (pc := 103) X 3 rfl dX11_mean_103 ?_
    refine g_aload_n (pc := 104) X 0 rfl dX11_mean_104 ?_
    refine g_getR (r := 11) (pc := 105) X k_fl_X11_40 s_0 rfl dX11_mean_105 ?_
    refine g_getI (pc := 108) X k_fl_X11_213 s_11 rfl dX11_mean_108 ?_
    obtain ⟨r18, hc17, h⟩ := bd_e h
    refine g_callS (pc := 111) X k_ml_X11_325 (run_JI_bitCount_0f7a4  hc17) rfl (room_ok (Nat.le_of_ble_eq_true rfl) (Nat.le_of_ble_eq_true rfl)) ⟨Nat.le_refl _, Nat.le_refl _⟩ _ rfl (Nat.le_of_ble_eq_true rfl) dX11_mean_111 ?_
    show Go V Γ M_X11_mean (Zm V Γ 7 fin) 114 [(0, .ref (V.2.2.1 + 0)), (1, .int l1), (2, .int l2), (3, .int x3), (4, .int x4)] [.int r18, .int x3] σ16
    refine g_iadd (pc := 114) X dX11_mean_114 ?_
    obtain ⟨v19, e_v19, h⟩ := bnd_e h
    refine g_nmI e_v19 ?_
    refine g_istore_n (pc := 115) X [(3, .int v19), (0, .ref (V.2.2.1 + 0)), (1, .int l1), (2, .int l2), (4, .int x4)] rfl (Nat.le_of_ble_eq_true rfl) rfl dX11_mean_115 ?_
    obtain ⟨v20, e_v20, h⟩ := bnd_e h
    refine g_iinc (pc := 116) (v := v20) X [(4, .int v20), (3, .int v19), (0, .ref (V.2.2.1 + 0)), (1, .int l1), (2, .int l2)] 4 rfl (by rw [e_v20]; rfl) (Nat.le_of_ble_eq_true rfl) rfl dX11_mean_116 ?_
    refine g_goto (pc := 119) (tgt := 63) X dX11_mean_119 rfl ?_
    refine g_sub [2, 3, 4, 1, 0] rfl ?_
    cases h
    exact hb63 _ _ _ hA
set_option maxRecDepth 100000 in
theorem tl_RC_mean_L63 {V : Ev} {Γ : Cn} {fin : Option Value × St} {l1 : Int32} {l2 : Int32} {x3 : Int32} {x4 : Int32} {σ9 : St} (X : Cx V Γ M_X11_mean)  {y3 : Int32} {σ8 : St} {n : Nat} (h : iter (fun s : (Int32 × Int32 × St) => RC_mean_L63 l1 l2 s.2.2 s.1 s.2.1) n (x3, x4, σ9) = some (y3, σ8)) (hK : Go V Γ M_X11_mean (Zm V Γ 7 fin) 122 [(0, .ref (V.2.2.1 + 0)), (2, .int l2), (3, .int y3)] [] σ8) : Go V Γ M_X11_mean (Zm V Γ 7 fin) 63 [(0, .ref (V.2.2.1 + 0)), (1, .int l1), (2, .int l2), (3, .int x3), (4, .int x4)] [] σ9 := by
  refine iter_go (G := (fun s : (Int32 × Int32 × St) => Go V Γ M_X11_mean (Zm V Γ 7 fin) 63 [(0, .ref (V.2.2.1 + 0)), (1, .int l1), (2, .int l2), (3, .int s.1), (4, .int s.2.1)] [] s.2.2)) (fun s o ho hS => ?_) n (x3, x4, σ9) h
  exact tb_RC_mean_L63 X  (fun _ _ _ h9 => h9) (fun _ _ he => by cases he; exact hK) ho hS
noncomputable def RC_mean (σ : St) (p1 : Int32) (p2 : Int32) : Option (Int32 × St) :=
  bd (RC_within p1.toInt64 0 9999) (fun r2 => if r2 = 0 then (bd2 (RC_deny σ 1) (fun r4 σ5 => chk (ckz r4) (some (r4, σ5)))) else (bd (RC_within p2.toInt64 1 20) (fun r8 => if r8 = 0 then (bd2 (RC_deny σ 1) (fun r10 σ11 => chk (ckz r10) (some (r10, σ11)))) else (if ((p1 + p2) - 1) ≤ 9999 then (if (σ.1 15 8) = 0 then (bd2 (RC_deny σ 6) (fun r30 σ31 => chk (ckz r30) (some (r30, σ31)))) else (bd2 (iter (fun s : (Int32 × Int32 × St) => RC_mean_L63 p1 p2 s.2.2 s.1 s.2.1) FUEL (0, 0, σ)) (fun v22 σ23 => bd2 (RC_tell σ23 v22.toInt64 p2.toInt64) (fun r26 σ27 => chk (ckz r26) (some (r26, σ27)))))) else (bd2 (RC_deny σ 1) (fun r35 σ36 => chk (ckz r35) (some (r35, σ36))))))))
set_option maxRecDepth 100000 in
set_option maxHeartbeats 4000000 in
theorem tm_RC_mean {V : Ev} {Γ : Cn} {fin : Option Value × St} {σ : St} {p1 : Int32} {p2 : Int32} {o : (Int32 × St)} (X : Cx V Γ M_X11_mean) {A : (Int32 × St) → Prop}  (hr : ∀ (r : Int32) (σ9 : St), A (r, σ9) → (some (.int r), σ9) = fin) (h : RC_mean σ p1 p2 = some o) (hA : A o) : Go V Γ M_X11_mean (Zm V Γ 7 fin) 0 [(0, .ref (V.2.2.1 + 0)), (1, .int p1), (2, .int p2)] [] σ := by
  unfold RC_mean at h
  refine g_iload_n (pc := 0) X 1 rfl dX11_mean_0 ?_
  refine g_i2l (pc := 1) X dX11_mean_1 ?_
  refine g_lconst (v := 0) (pc := 2) X rfl dX11_mean_2 ?_
  refine g_ldc2 (v := 9999) (pc := 3) X k_constl_X11_248 dX11_mean_3 ?_
  obtain ⟨r2, hc1, h⟩ := bd_e h
  refine g_callS (pc := 6) X k_ml_X11_98 (run_RC_within  hc1) rfl (room_ok (Nat.le_of_ble_eq_true rfl) (Nat.le_of_ble_eq_true rfl)) ⟨Nat.le_refl _, Nat.le_refl _⟩ _ rfl (Nat.le_of_ble_eq_true rfl) dX11_mean_6 ?_
  show Go V Γ M_X11_mean (Zm V Γ 7 fin) 9 [(0, .ref (V.2.2.1 + 0)), (1, .int p1), (2, .int p2)] [.int r2] σ
  refine g_if_eq (pc := 9) (tgt := 35) X dX11_mean_9 rfl (fun c40 => ?_) (fun c40 => ?_)
  · replace h := if_t c40 h
    refine g_aload_n (pc := 35) X 0 rfl dX11_mean_35 ?_
    refine g_iconst (v := 1) (pc := 36) X rfl dX11_mean_36 ?_
    obtain ⟨r4, σ5, hc3, h⟩ := bd2_e h
    refine g_callV (pc := 37) X k_ml_X11_104 (run_RC_deny  hc3) s_0 rfl (room_ok (Nat.le_of_ble_eq_true rfl) (Nat.le_of_ble_eq_true rfl)) ⟨Nat.le_refl _, Nat.le_refl _⟩ _ rfl (Nat.le_of_ble_eq_true rfl) dX11_mean_37 ?_
    show Go V Γ M_X11_mean (Zm V Γ 7 fin) 40 [(0, .ref (V.2.2.1 + 0)), (1, .int p1), (2, .int p2)] [.int r4] σ5
    obtain ⟨c6, h⟩ := chk_e h
    cases h
    exact g_iret (pc := 40) X rfl (ckz_e c6).1 (hr _ _ hA) dX11_mean_40
  · replace h := if_f c40 h
    refine g_iload_n (pc := 12) X 2 rfl dX11_mean_12 ?_
    refine g_i2l (pc := 13) X dX11_mean_13 ?_
    refine g_lconst (v := 1) (pc := 14) X rfl dX11_mean_14 ?_
    refine g_ldc2 (v := 20) (pc := 15) X k_constl_X11_446 dX11_mean_15 ?_
    obtain ⟨r8, hc7, h⟩ := bd_e h
    refine g_callS (pc := 18) X k_ml_X11_98 (run_RC_within  hc7) rfl (room_ok (Nat.le_of_ble_eq_true rfl) (Nat.le_of_ble_eq_true rfl)) ⟨Nat.le_refl _, Nat.le_refl _⟩ _ rfl (Nat.le_of_ble_eq_true rfl) dX11_mean_18 ?_
    show Go V Γ M_X11_mean (Zm V Γ 7 fin) 21 [(0, .ref (V.2.2.1 + 0)), (1, .int p1), (2, .int p2)] [.int r8] σ
    refine g_if_eq (pc := 21) (tgt := 35) X dX11_mean_21 rfl (fun c39 => ?_) (fun c39 => ?_)
    · replace h := if_t c39 h
      refine g_aload_n (pc := 35) X 0 rfl dX11_mean_35 ?_
      refine g_iconst (v := 1) (pc := 36) X rfl dX11_mean_36 ?_
      obtain ⟨r10, σ11, hc9, h⟩ := bd2_e h
      refine g_callV (pc := 37) X k_ml_X11_104 (run_RC_deny  hc9) s_0 rfl (room_ok (Nat.le_of_ble_eq_true rfl) (Nat.le_of_ble_eq_true rfl)) ⟨Nat.le_refl _, Nat.le_refl _⟩ _ rfl (Nat.le_of_ble_eq_true rfl) dX11_mean_37 ?_
      show Go V Γ M_X11_mean (Zm V Γ 7 fin) 40 [(0, .ref (V.2.2.1 + 0)), (1, .int p1), (2, .int p2)] [.int r10] σ11
      obtain ⟨c12, h⟩ := chk_e h
      cases h
      exact g_iret (pc := 40) X rfl (ckz_e c12).1 (hr _ _ hA) dX11_mean_40
    · replace h := if_f c39 h
      refine g_iload_n (pc := 24) X 1 rfl dX11_mean_24 ?_
      refine g_iload_n (pc := 25) X 2 rfl dX11_mean_25 ?_
      refine g_iadd (pc := 26) X dX11_mean_26 ?_
      refine g_iconst (v := 1) (pc := 27) X rfl dX11_mean_27 ?_
      refine g_isub (pc := 28) X dX11_mean_28 ?_
      refine g_sipush (v := 9999) (pc := 29) X (by decide) dX11_mean_29 ?_
      refine g_icmp_le (pc := 32) (tgt := 41) X dX11_mean_32 rfl (fun c38 => ?_) (fun c38 => ?_)
      · replace h := if_t c38 h
        refine g_aload_n (pc := 41) X 0 rfl dX11_mean_41 ?_
        refine g_getR (r := 15) (pc := 42) X k_fl_X11_46 s_0 rfl dX11_mean_42 ?_
        refine g_getI (pc := 45) X k_fl_X11_415 s_15 rfl dX11_mean_45 ?_
        refine g_if_ne (pc := 48) (tgt := 58) X dX11_mean_48 rfl (fun c33 => ?_) (fun c33 => ?_)
        · replace h := if_f c33 h
          refine g_iconst (v := 0) (pc := 58) X rfl dX11_mean_58 ?_
          refine g_istore_n (pc := 59) X [(3, .int 0), (0, .ref (V.2.2.1 + 0)), (1, .int p1), (2, .int p2)] rfl (Nat.le_of_ble_eq_true rfl) rfl dX11_mean_59 ?_
          refine g_iconst (v := 0) (pc := 60) X rfl dX11_mean_60 ?_
          refine g_istore (pc := 61) X [(4, .int 0), (3, .int 0), (0, .ref (V.2.2.1 + 0)), (1, .int p1), (2, .int p2)] (Nat.le_of_ble_eq_true rfl) rfl dX11_mean_61 ?_
          refine g_sub [2, 3, 4, 1, 0] rfl ?_
          obtain ⟨v22, σ23, hi24, h⟩ := bd2_e h
          refine tl_RC_mean_L63 X  hi24 ?_
          refine g_aload_n (pc := 122) X 0 rfl dX11_mean_122 ?_
          refine g_iload_n (pc := 123) X 2 rfl dX11_mean_123 ?_
          refine g_i2l (pc := 124) X dX11_mean_124 ?_
          refine g_iload_n (pc := 125) X 1 rfl dX11_mean_125 ?_
          refine g_i2l (pc := 126) X dX11_mean_126 ?_
          obtain ⟨r26, σ27, hc25, h⟩ := bd2_e h
          refine g_callV (pc := 127) X k_ml_X11_304 (run_RC_tell  hc25) s_0 rfl (room_ok (Nat.le_of_ble_eq_true rfl) (Nat.le_of_ble_eq_true rfl)) ⟨Nat.le_refl _, Nat.le_refl _⟩ _ rfl (Nat.le_of_ble_eq_true rfl) dX11_mean_127 ?_
          show Go V Γ M_X11_mean (Zm V Γ 7 fin) 130 [(0, .ref (V.2.2.1 + 0)), (2, .int p2), (3, .int v22)] [.int r26] σ27
          obtain ⟨c28, h⟩ := chk_e h
          cases h
          exact g_iret (pc := 130) X rfl (ckz_e c28).1 (hr _ _ hA) dX11_mean_130
        · replace h := if_t c33 h
          refine g_aload_n (pc := 51) X 0 rfl dX11_mean_51 ?_
          refine g_bipush (v := 6) (pc := 52) X (by decide) dX11_mean_52 ?_
          obtain ⟨r30, σ31, hc29, h⟩ := bd2_e h
          refine g_callV (pc := 54) X k_ml_X11_104 (run_RC_deny  hc29) s_0 rfl (room_ok (Nat.le_of_ble_eq_true rfl) (Nat.le_of_ble_eq_true rfl)) ⟨Nat.le_refl _, Nat.le_refl _⟩ _ rfl (Nat.le_of_ble_eq_true rfl) dX11_mean_54 ?_
          show Go V Γ M_X11_mean (Zm V Γ 7 fin) 57 [(0, .ref (V.2.2.1 + 0)), (1, .int p1), (2, .int p2)] [.int r30] σ31
          obtain ⟨c32, h⟩ := chk_e h
          cases h
          exact g_iret (pc := 57) X rfl (ckz_e c32).1 (hr _ _ hA) dX11_mean_57
      · replace h := if_f c38 h
        refine g_aload_n (pc := 35) X 0 rfl dX11_mean_35 ?_
        refine g_iconst (v := 1) (pc := 36) X rfl dX11_mean_36 ?_
        obtain ⟨r35, σ36, hc34, h⟩ := bd2_e h
        refine g_callV (pc := 37) X k_ml_X11_104 (run_RC_deny  hc34) s_0 rfl (room_ok (Nat.le_of_ble_eq_true rfl) (Nat.le_of_ble_eq_true rfl)) ⟨Nat.le_refl _, Nat.le_refl _⟩ _ rfl (Nat.le_of_ble_eq_true rfl) dX11_mean_37 ?_
        show Go V Γ M_X11_mean (Zm V Γ 7 fin) 40 [(0, .ref (V.2.2.1 + 0)), (1, .int p1), (2, .int p2)] [.int r35] σ36
        obtain ⟨c37, h⟩ := chk_e h
        cases h
        exact g_iret (pc := 40) X rfl (ckz_e c37).1 (hr _ _ hA) dX11_mean_40
set_option maxRecDepth 100000 in
theorem run_RC_mean {V : Ev} {σ : St} {p1 : Int32} {p2 : Int32} {o : (Int32 × St)}   (h : RC_mean σ p1 p2 = some o) : Rs V 7 M_X11_mean [.ref (V.2.2.1 + 0), .int p1, .int p2] σ (some (.int o.1), o.2) := by
  refine Rs.of (by decide +kernel) (Nat.le_of_ble_eq_true rfl) (fun Γ X => ?_)
  exact tm_RC_mean X (A := fun o1 => o1 = o)  (fun _ _ e => by rw [← e]) h rfl
theorem dX11_mark_0 : decode cX11_mark 0 = .ok (.aload_n 0, 1) := by decide +kernel
theorem dX11_mark_1 : decode cX11_mark 1 = .ok (.getfield 61, 3) := by decide +kernel
theorem dX11_mark_4 : decode cX11_mark 4 = .ok (.iconst 3, 1) := by decide +kernel
theorem dX11_mark_5 : decode cX11_mark 5 = .ok (.if_icmp .lt 9, 3) := by decide +kernel
theorem dX11_mark_8 : decode cX11_mark 8 = .ok (.aload_n 0, 1) := by decide +kernel
theorem dX11_mark_9 : decode cX11_mark 9 = .ok (.iconst 4, 1) := by decide +kernel
theorem dX11_mark_10 : decode cX11_mark 10 = .ok (.invokevirtual 124, 3) := by decide +kernel
theorem dX11_mark_13 : decode cX11_mark 13 = .ok (.ireturn, 1) := by decide +kernel
theorem dX11_mark_14 : decode cX11_mark 14 = .ok (.aload_n 0, 1) := by decide +kernel
theorem dX11_mark_15 : decode cX11_mark 15 = .ok (.getfield 53, 3) := by decide +kernel
theorem dX11_mark_18 : decode cX11_mark 18 = .ok (.aload_n 0, 1) := by decide +kernel
theorem dX11_mark_19 : decode cX11_mark 19 = .ok (.getfield 61, 3) := by decide +kernel
theorem dX11_mark_22 : decode cX11_mark 22 = .ok (.aaload, 1) := by decide +kernel
theorem dX11_mark_23 : decode cX11_mark 23 = .ok (.aload_n 0, 1) := by decide +kernel
theorem dX11_mark_24 : decode cX11_mark 24 = .ok (.getfield 36, 3) := by decide +kernel
theorem dX11_mark_27 : decode cX11_mark 27 = .ok (.invokevirtual 175, 3) := by decide +kernel
theorem dX11_mark_30 : decode cX11_mark 30 = .ok (.aload_n 0, 1) := by decide +kernel
theorem dX11_mark_31 : decode cX11_mark 31 = .ok (.getfield 57, 3) := by decide +kernel
theorem dX11_mark_34 : decode cX11_mark 34 = .ok (.aload_n 0, 1) := by decide +kernel
theorem dX11_mark_35 : decode cX11_mark 35 = .ok (.getfield 61, 3) := by decide +kernel
theorem dX11_mark_38 : decode cX11_mark 38 = .ok (.aaload, 1) := by decide +kernel
theorem dX11_mark_39 : decode cX11_mark 39 = .ok (.aload_n 0, 1) := by decide +kernel
theorem dX11_mark_40 : decode cX11_mark 40 = .ok (.getfield 46, 3) := by decide +kernel
theorem dX11_mark_43 : decode cX11_mark 43 = .ok (.invokevirtual 198, 3) := by decide +kernel
theorem dX11_mark_46 : decode cX11_mark 46 = .ok (.aload_n 0, 1) := by decide +kernel
theorem dX11_mark_47 : decode cX11_mark 47 = .ok (.dup, 1) := by decide +kernel
theorem dX11_mark_48 : decode cX11_mark 48 = .ok (.getfield 61, 3) := by decide +kernel
theorem dX11_mark_51 : decode cX11_mark 51 = .ok (.iconst 1, 1) := by decide +kernel
theorem dX11_mark_52 : decode cX11_mark 52 = .ok (.iadd, 1) := by decide +kernel
theorem dX11_mark_53 : decode cX11_mark 53 = .ok (.putfield 61, 3) := by decide +kernel
theorem dX11_mark_56 : decode cX11_mark 56 = .ok (.aload_n 0, 1) := by decide +kernel
theorem dX11_mark_57 : decode cX11_mark 57 = .ok (.aload_n 0, 1) := by decide +kernel
theorem dX11_mark_58 : decode cX11_mark 58 = .ok (.getfield 61, 3) := by decide +kernel
theorem dX11_mark_61 : decode cX11_mark 61 = .ok (.invokevirtual 185, 3) := by decide +kernel
theorem dX11_mark_64 : decode cX11_mark 64 = .ok (.ireturn, 1) := by decide +kernel
noncomputable def RC_mark (σ : St) : Option (Int32 × St) :=
  if (σ.1 0 11) < 3 then (chk (ix (σ.1 0 11) 3) (bd (Cl_copyFrom σ (rfs 29 (tn (σ.1 0 11))) 7) (fun σ3 => chk (ix (σ3.1 0 11) 3) (bd (Da_copyFrom σ3 (rfs 30 (tn (σ3.1 0 11))) 15) (fun σ6 => bnd (wI σ6 0 11 ((σ6.1 0 11) + 1)) (fun σ7 => bd2 (RC_answer σ7 (σ7.1 0 11)) (fun r9 σ10 => some (r9, σ10)))))))) else (bd2 (RC_refuse σ 4) (fun r12 σ13 => some (r12, σ13)))
set_option maxRecDepth 100000 in
set_option maxHeartbeats 4000000 in
theorem tm_RC_mark {V : Ev} {Γ : Cn} {fin : Option Value × St} {σ : St} {o : (Int32 × St)} (X : Cx V Γ M_X11_mark) {A : (Int32 × St) → Prop}  (hr : ∀ (r : Int32) (σ9 : St), A (r, σ9) → (some (.int r), σ9) = fin) (h : RC_mark σ = some o) (hA : A o) : Go V Γ M_X11_mark (Zm V Γ 2 fin) 0 [(0, .ref (V.2.2.1 + 0))] [] σ := by
  unfold RC_mark at h
  refine g_aload_n (pc := 0) X 0 rfl dX11_mark_0 ?_
  refine g_getI (pc := 1) X k_fl_X11_61 s_0 rfl dX11_mark_1 ?_
  refine g_iconst (v := 3) (pc := 4) X rfl dX11_mark_4 ?_
  refine g_icmp_lt (pc := 5) (tgt := 14) X dX11_mark_5 rfl (fun c14 => ?_) (fun c14 => ?_)
  · replace h := if_t c14 h
    refine g_aload_n (pc := 14) X 0 rfl dX11_mark_14 ?_
    refine g_getR (r := 29) (pc := 15) X k_fl_X11_53 s_0 rfl dX11_mark_15 ?_
    refine g_aload_n (pc := 18) X 0 rfl dX11_mark_18 ?_
    refine g_getI (pc := 19) X k_fl_X11_61 s_0 rfl dX11_mark_19 ?_
    obtain ⟨c1, h⟩ := chk_e h
    refine g_aald (ak := 1) (pc := 22) X s_29 rfl rfl c1 dX11_mark_22 ?_
    refine g_aload_n (pc := 23) X 0 rfl dX11_mark_23 ?_
    refine g_getR (r := 7) (pc := 24) X k_fl_X11_36 s_0 rfl dX11_mark_24 ?_
    obtain ⟨σ3, hc2, h⟩ := bd_e h
    refine g_callV (pc := 27) X k_ml_X11_175 (run_Cl_copyFrom (okCl_of c1) (oknCl_7) hc2) (sCl_0 (okCl_of c1)) rfl (room_ok (Nat.le_of_ble_eq_true rfl) (Nat.le_of_ble_eq_true rfl)) ⟨Nat.le_refl _, Nat.le_refl _⟩ _ rfl (Nat.le_of_ble_eq_true rfl) dX11_mark_27 ?_
    show Go V Γ M_X11_mark (Zm V Γ 2 fin) 30 [(0, .ref (V.2.2.1 + 0))] [] σ3
    refine g_aload_n (pc := 30) X 0 rfl dX11_mark_30 ?_
    refine g_getR (r := 30) (pc := 31) X k_fl_X11_57 s_0 rfl dX11_mark_31 ?_
    refine g_aload_n (pc := 34) X 0 rfl dX11_mark_34 ?_
    refine g_getI (pc := 35) X k_fl_X11_61 s_0 rfl dX11_mark_35 ?_
    obtain ⟨c4, h⟩ := chk_e h
    refine g_aald (ak := 2) (pc := 38) X s_30 rfl rfl c4 dX11_mark_38 ?_
    refine g_aload_n (pc := 39) X 0 rfl dX11_mark_39 ?_
    refine g_getR (r := 15) (pc := 40) X k_fl_X11_46 s_0 rfl dX11_mark_40 ?_
    obtain ⟨σ6, hc5, h⟩ := bd_e h
    refine g_callV (pc := 43) X k_ml_X11_198 (run_Da_copyFrom (okDa_of c4) (oknDa_15) hc5) (sDa_0 (okDa_of c4)) rfl (room_ok (Nat.le_of_ble_eq_true rfl) (Nat.le_of_ble_eq_true rfl)) ⟨Nat.le_refl _, Nat.le_refl _⟩ _ rfl (Nat.le_of_ble_eq_true rfl) dX11_mark_43 ?_
    show Go V Γ M_X11_mark (Zm V Γ 2 fin) 46 [(0, .ref (V.2.2.1 + 0))] [] σ6
    refine g_aload_n (pc := 46) X 0 rfl dX11_mark_46 ?_
    refine g_dup (pc := 47) X rfl dX11_mark_47 ?_
    refine g_getI (pc := 48) X k_fl_X11_61 s_0 rfl dX11_mark_48 ?_
    refine g_iconst (v := 1) (pc := 51) X rfl dX11_mark_51 ?_
    refine g_iadd (pc := 52) X dX11_mark_52 ?_
    refine g_putI (pc := 53) X k_fl_X11_61 s_0 rfl rfl rfl dX11_mark_53 ?_
    obtain ⟨σ7, e_σ7, h⟩ := bnd_e h
    refine g_nmS e_σ7 ?_
    refine g_aload_n (pc := 56) X 0 rfl dX11_mark_56 ?_
    refine g_aload_n (pc := 57) X 0 rfl dX11_mark_57 ?_
    refine g_getI (pc := 58) X k_fl_X11_61 s_0 rfl dX11_mark_58 ?_
    obtain ⟨r9, σ10, hc8, h⟩ := bd2_e h
    refine g_callV (pc := 61) X k_ml_X11_185 (run_RC_answer  hc8) s_0 rfl (room_ok (Nat.le_of_ble_eq_true rfl) (Nat.le_of_ble_eq_true rfl)) ⟨Nat.le_refl _, Nat.le_refl _⟩ _ rfl (Nat.le_of_ble_eq_true rfl) dX11_mark_61 ?_
    show Go V Γ M_X11_mark (Zm V Γ 2 fin) 64 [(0, .ref (V.2.2.1 + 0))] [.int r9] σ10
    cases h
    exact g_iret (pc := 64) X rfl rfl (hr _ _ hA) dX11_mark_64
  · replace h := if_f c14 h
    refine g_aload_n (pc := 8) X 0 rfl dX11_mark_8 ?_
    refine g_iconst (v := 4) (pc := 9) X rfl dX11_mark_9 ?_
    obtain ⟨r12, σ13, hc11, h⟩ := bd2_e h
    refine g_callV (pc := 10) X k_ml_X11_124 (run_RC_refuse  hc11) s_0 rfl (room_ok (Nat.le_of_ble_eq_true rfl) (Nat.le_of_ble_eq_true rfl)) ⟨Nat.le_refl _, Nat.le_refl _⟩ _ rfl (Nat.le_of_ble_eq_true rfl) dX11_mark_10 ?_
    show Go V Γ M_X11_mark (Zm V Γ 2 fin) 13 [(0, .ref (V.2.2.1 + 0))] [.int r12] σ13
    cases h
    exact g_iret (pc := 13) X rfl rfl (hr _ _ hA) dX11_mark_13
set_option maxRecDepth 100000 in
theorem run_RC_mark {V : Ev} {σ : St} {o : (Int32 × St)}   (h : RC_mark σ = some o) : Rs V 2 M_X11_mark [.ref (V.2.2.1 + 0)] σ (some (.int o.1), o.2) := by
  refine Rs.of (by decide +kernel) (Nat.le_of_ble_eq_true rfl) (fun Γ X => ?_)
  exact tm_RC_mark X (A := fun o1 => o1 = o)  (fun _ _ e => by rw [← e]) h rfl
theorem dX11_undo_0 : decode cX11_undo 0 = .ok (.aload_n 0, 1) := by decide +kernel
theorem dX11_undo_1 : decode cX11_undo 1 = .ok (.getfield 61, 3) := by decide +kernel
theorem dX11_undo_4 : decode cX11_undo 4 = .ok (.iconst 1, 1) := by decide +kernel
theorem dX11_undo_5 : decode cX11_undo 5 = .ok (.if_icmp .ge 10, 3) := by decide +kernel
theorem dX11_undo_8 : decode cX11_undo 8 = .ok (.aload_n 0, 1) := by decide +kernel
theorem dX11_undo_9 : decode cX11_undo 9 = .ok (.bipush 6, 2) := by decide +kernel
theorem dX11_undo_11 : decode cX11_undo 11 = .ok (.invokevirtual 124, 3) := by decide +kernel
theorem dX11_undo_14 : decode cX11_undo 14 = .ok (.ireturn, 1) := by decide +kernel
theorem dX11_undo_15 : decode cX11_undo 15 = .ok (.aload_n 0, 1) := by decide +kernel
theorem dX11_undo_16 : decode cX11_undo 16 = .ok (.dup, 1) := by decide +kernel
theorem dX11_undo_17 : decode cX11_undo 17 = .ok (.getfield 61, 3) := by decide +kernel
theorem dX11_undo_20 : decode cX11_undo 20 = .ok (.iconst 1, 1) := by decide +kernel
theorem dX11_undo_21 : decode cX11_undo 21 = .ok (.isub, 1) := by decide +kernel
theorem dX11_undo_22 : decode cX11_undo 22 = .ok (.putfield 61, 3) := by decide +kernel
theorem dX11_undo_25 : decode cX11_undo 25 = .ok (.aload_n 0, 1) := by decide +kernel
theorem dX11_undo_26 : decode cX11_undo 26 = .ok (.getfield 36, 3) := by decide +kernel
theorem dX11_undo_29 : decode cX11_undo 29 = .ok (.aload_n 0, 1) := by decide +kernel
theorem dX11_undo_30 : decode cX11_undo 30 = .ok (.getfield 53, 3) := by decide +kernel
theorem dX11_undo_33 : decode cX11_undo 33 = .ok (.aload_n 0, 1) := by decide +kernel
theorem dX11_undo_34 : decode cX11_undo 34 = .ok (.getfield 61, 3) := by decide +kernel
theorem dX11_undo_37 : decode cX11_undo 37 = .ok (.aaload, 1) := by decide +kernel
theorem dX11_undo_38 : decode cX11_undo 38 = .ok (.invokevirtual 175, 3) := by decide +kernel
theorem dX11_undo_41 : decode cX11_undo 41 = .ok (.aload_n 0, 1) := by decide +kernel
theorem dX11_undo_42 : decode cX11_undo 42 = .ok (.getfield 46, 3) := by decide +kernel
theorem dX11_undo_45 : decode cX11_undo 45 = .ok (.aload_n 0, 1) := by decide +kernel
theorem dX11_undo_46 : decode cX11_undo 46 = .ok (.getfield 57, 3) := by decide +kernel
theorem dX11_undo_49 : decode cX11_undo 49 = .ok (.aload_n 0, 1) := by decide +kernel
theorem dX11_undo_50 : decode cX11_undo 50 = .ok (.getfield 61, 3) := by decide +kernel
theorem dX11_undo_53 : decode cX11_undo 53 = .ok (.aaload, 1) := by decide +kernel
theorem dX11_undo_54 : decode cX11_undo 54 = .ok (.invokevirtual 198, 3) := by decide +kernel
theorem dX11_undo_57 : decode cX11_undo 57 = .ok (.aload_n 0, 1) := by decide +kernel
theorem dX11_undo_58 : decode cX11_undo 58 = .ok (.aload_n 0, 1) := by decide +kernel
theorem dX11_undo_59 : decode cX11_undo 59 = .ok (.getfield 61, 3) := by decide +kernel
theorem dX11_undo_62 : decode cX11_undo 62 = .ok (.invokevirtual 185, 3) := by decide +kernel
theorem dX11_undo_65 : decode cX11_undo 65 = .ok (.ireturn, 1) := by decide +kernel
noncomputable def RC_undo (σ : St) : Option (Int32 × St) :=
  if 1 ≤ (σ.1 0 11) then (bnd (wI σ 0 11 ((σ.1 0 11) - 1)) (fun σ1 => chk (ix (σ1.1 0 11) 3) (bd (Cl_copyFrom σ1 7 (rfs 29 (tn (σ1.1 0 11)))) (fun σ4 => chk (ix (σ4.1 0 11) 3) (bd (Da_copyFrom σ4 15 (rfs 30 (tn (σ4.1 0 11)))) (fun σ7 => bd2 (RC_answer σ7 (σ7.1 0 11)) (fun r9 σ10 => some (r9, σ10)))))))) else (bd2 (RC_refuse σ 6) (fun r12 σ13 => some (r12, σ13)))
set_option maxRecDepth 100000 in
set_option maxHeartbeats 4000000 in
theorem tm_RC_undo {V : Ev} {Γ : Cn} {fin : Option Value × St} {σ : St} {o : (Int32 × St)} (X : Cx V Γ M_X11_undo) {A : (Int32 × St) → Prop}  (hr : ∀ (r : Int32) (σ9 : St), A (r, σ9) → (some (.int r), σ9) = fin) (h : RC_undo σ = some o) (hA : A o) : Go V Γ M_X11_undo (Zm V Γ 2 fin) 0 [(0, .ref (V.2.2.1 + 0))] [] σ := by
  unfold RC_undo at h
  refine g_aload_n (pc := 0) X 0 rfl dX11_undo_0 ?_
  refine g_getI (pc := 1) X k_fl_X11_61 s_0 rfl dX11_undo_1 ?_
  refine g_iconst (v := 1) (pc := 4) X rfl dX11_undo_4 ?_
  refine g_icmp_ge (pc := 5) (tgt := 15) X dX11_undo_5 rfl (fun c14 => ?_) (fun c14 => ?_)
  · replace h := if_t c14 h
    refine g_aload_n (pc := 15) X 0 rfl dX11_undo_15 ?_
    refine g_dup (pc := 16) X rfl dX11_undo_16 ?_
    refine g_getI (pc := 17) X k_fl_X11_61 s_0 rfl dX11_undo_17 ?_
    refine g_iconst (v := 1) (pc := 20) X rfl dX11_undo_20 ?_
    refine g_isub (pc := 21) X dX11_undo_21 ?_
    refine g_putI (pc := 22) X k_fl_X11_61 s_0 rfl rfl rfl dX11_undo_22 ?_
    obtain ⟨σ1, e_σ1, h⟩ := bnd_e h
    refine g_nmS e_σ1 ?_
    refine g_aload_n (pc := 25) X 0 rfl dX11_undo_25 ?_
    refine g_getR (r := 7) (pc := 26) X k_fl_X11_36 s_0 rfl dX11_undo_26 ?_
    refine g_aload_n (pc := 29) X 0 rfl dX11_undo_29 ?_
    refine g_getR (r := 29) (pc := 30) X k_fl_X11_53 s_0 rfl dX11_undo_30 ?_
    refine g_aload_n (pc := 33) X 0 rfl dX11_undo_33 ?_
    refine g_getI (pc := 34) X k_fl_X11_61 s_0 rfl dX11_undo_34 ?_
    obtain ⟨c2, h⟩ := chk_e h
    refine g_aald (ak := 1) (pc := 37) X s_29 rfl rfl c2 dX11_undo_37 ?_
    obtain ⟨σ4, hc3, h⟩ := bd_e h
    refine g_callV (pc := 38) X k_ml_X11_175 (run_Cl_copyFrom (oknCl_7) (okCl_of c2) hc3) s_7 rfl (room_ok (Nat.le_of_ble_eq_true rfl) (Nat.le_of_ble_eq_true rfl)) ⟨Nat.le_refl _, Nat.le_refl _⟩ _ rfl (Nat.le_of_ble_eq_true rfl) dX11_undo_38 ?_
    show Go V Γ M_X11_undo (Zm V Γ 2 fin) 41 [(0, .ref (V.2.2.1 + 0))] [] σ4
    refine g_aload_n (pc := 41) X 0 rfl dX11_undo_41 ?_
    refine g_getR (r := 15) (pc := 42) X k_fl_X11_46 s_0 rfl dX11_undo_42 ?_
    refine g_aload_n (pc := 45) X 0 rfl dX11_undo_45 ?_
    refine g_getR (r := 30) (pc := 46) X k_fl_X11_57 s_0 rfl dX11_undo_46 ?_
    refine g_aload_n (pc := 49) X 0 rfl dX11_undo_49 ?_
    refine g_getI (pc := 50) X k_fl_X11_61 s_0 rfl dX11_undo_50 ?_
    obtain ⟨c5, h⟩ := chk_e h
    refine g_aald (ak := 2) (pc := 53) X s_30 rfl rfl c5 dX11_undo_53 ?_
    obtain ⟨σ7, hc6, h⟩ := bd_e h
    refine g_callV (pc := 54) X k_ml_X11_198 (run_Da_copyFrom (oknDa_15) (okDa_of c5) hc6) s_15 rfl (room_ok (Nat.le_of_ble_eq_true rfl) (Nat.le_of_ble_eq_true rfl)) ⟨Nat.le_refl _, Nat.le_refl _⟩ _ rfl (Nat.le_of_ble_eq_true rfl) dX11_undo_54 ?_
    show Go V Γ M_X11_undo (Zm V Γ 2 fin) 57 [(0, .ref (V.2.2.1 + 0))] [] σ7
    refine g_aload_n (pc := 57) X 0 rfl dX11_undo_57 ?_
    refine g_aload_n (pc := 58) X 0 rfl dX11_undo_58 ?_
    refine g_getI (pc := 59) X k_fl_X11_61 s_0 rfl dX11_undo_59 ?_
    obtain ⟨r9, σ10, hc8, h⟩ := bd2_e h
    refine g_callV (pc := 62) X k_ml_X11_185 (run_RC_answer  hc8) s_0 rfl (room_ok (Nat.le_of_ble_eq_true rfl) (Nat.le_of_ble_eq_true rfl)) ⟨Nat.le_refl _, Nat.le_refl _⟩ _ rfl (Nat.le_of_ble_eq_true rfl) dX11_undo_62 ?_
    show Go V Γ M_X11_undo (Zm V Γ 2 fin) 65 [(0, .ref (V.2.2.1 + 0))] [.int r9] σ10
    cases h
    exact g_iret (pc := 65) X rfl rfl (hr _ _ hA) dX11_undo_65
  · replace h := if_f c14 h
    refine g_aload_n (pc := 8) X 0 rfl dX11_undo_8 ?_
    refine g_bipush (v := 6) (pc := 9) X (by decide) dX11_undo_9 ?_
    obtain ⟨r12, σ13, hc11, h⟩ := bd2_e h
    refine g_callV (pc := 11) X k_ml_X11_124 (run_RC_refuse  hc11) s_0 rfl (room_ok (Nat.le_of_ble_eq_true rfl) (Nat.le_of_ble_eq_true rfl)) ⟨Nat.le_refl _, Nat.le_refl _⟩ _ rfl (Nat.le_of_ble_eq_true rfl) dX11_undo_11 ?_
    show Go V Γ M_X11_undo (Zm V Γ 2 fin) 14 [(0, .ref (V.2.2.1 + 0))] [.int r12] σ13
    cases h
    exact g_iret (pc := 14) X rfl rfl (hr _ _ hA) dX11_undo_14
set_option maxRecDepth 100000 in
theorem run_RC_undo {V : Ev} {σ : St} {o : (Int32 × St)}   (h : RC_undo σ = some o) : Rs V 2 M_X11_undo [.ref (V.2.2.1 + 0)] σ (some (.int o.1), o.2) := by
  refine Rs.of (by decide +kernel) (Nat.le_of_ble_eq_true rfl) (fun Γ X => ?_)
  exact tm_RC_undo X (A := fun o1 => o1 = o)  (fun _ _ e => by rw [← e]) h rfl
theorem dX12_plain_0 : decode cX12_plain 0 = .ok (.iconst 0, 1) := by decide +kernel
theorem dX12_plain_1 : decode cX12_plain 1 = .ok (.istore_n 2, 1) := by decide +kernel
theorem dX12_plain_2 : decode cX12_plain 2 = .ok (.iload_n 2, 1) := by decide +kernel
theorem dX12_plain_3 : decode cX12_plain 3 = .ok (.sipush 404, 3) := by decide +kernel
theorem dX12_plain_6 : decode cX12_plain 6 = .ok (.if_icmp .ge 18, 3) := by decide +kernel
theorem dX12_plain_9 : decode cX12_plain 9 = .ok (.aload_n 0, 1) := by decide +kernel
theorem dX12_plain_10 : decode cX12_plain 10 = .ok (.getfield 7, 3) := by decide +kernel
theorem dX12_plain_13 : decode cX12_plain 13 = .ok (.iload_n 1, 1) := by decide +kernel
theorem dX12_plain_14 : decode cX12_plain 14 = .ok (.iload_n 2, 1) := by decide +kernel
theorem dX12_plain_15 : decode cX12_plain 15 = .ok (.iadd, 1) := by decide +kernel
theorem dX12_plain_16 : decode cX12_plain 16 = .ok (.iconst 0, 1) := by decide +kernel
theorem dX12_plain_17 : decode cX12_plain 17 = .ok (.iastore, 1) := by decide +kernel
theorem dX12_plain_18 : decode cX12_plain 18 = .ok (.iinc 2 1, 3) := by decide +kernel
theorem dX12_plain_21 : decode cX12_plain 21 = .ok (.goto (-19), 3) := by decide +kernel
theorem dX12_plain_24 : decode cX12_plain 24 = .ok (.aload_n 0, 1) := by decide +kernel
theorem dX12_plain_25 : decode cX12_plain 25 = .ok (.getfield 7, 3) := by decide +kernel
theorem dX12_plain_28 : decode cX12_plain 28 = .ok (.iload_n 1, 1) := by decide +kernel
theorem dX12_plain_29 : decode cX12_plain 29 = .ok (.iconst 1, 1) := by decide +kernel
theorem dX12_plain_30 : decode cX12_plain 30 = .ok (.iadd, 1) := by decide +kernel
theorem dX12_plain_31 : decode cX12_plain 31 = .ok (.iconst 4, 1) := by decide +kernel
theorem dX12_plain_32 : decode cX12_plain 32 = .ok (.iastore, 1) := by decide +kernel
theorem dX12_plain_33 : decode cX12_plain 33 = .ok (.aload_n 0, 1) := by decide +kernel
theorem dX12_plain_34 : decode cX12_plain 34 = .ok (.getfield 7, 3) := by decide +kernel
theorem dX12_plain_37 : decode cX12_plain 37 = .ok (.iload_n 1, 1) := by decide +kernel
theorem dX12_plain_38 : decode cX12_plain 38 = .ok (.iconst 2, 1) := by decide +kernel
theorem dX12_plain_39 : decode cX12_plain 39 = .ok (.iadd, 1) := by decide +kernel
theorem dX12_plain_40 : decode cX12_plain 40 = .ok (.iconst (-1), 1) := by decide +kernel
theorem dX12_plain_41 : decode cX12_plain 41 = .ok (.iastore, 1) := by decide +kernel
theorem dX12_plain_42 : decode cX12_plain 42 = .ok (.return_, 1) := by decide +kernel
noncomputable def Mo_plain_L2 (l1 : Int32) (σ : St) (x2 : Int32) : Option ((Int32 × St) ⊕ St) :=
  if 404 ≤ x2 then (some (.inr σ)) else (chk (ix (l1 + x2) 2060) (bnd (wI σ 93 (tn (l1 + x2)) 0) (fun σ2 => bnd (x2 + 1) (fun v3 => some (.inl (v3, σ2))))))
set_option maxRecDepth 100000 in
set_option maxHeartbeats 4000000 in
theorem tb_Mo_plain_L2 {V : Ev} {Γ : Cn} {fin : Option Value × St} {l1 : Int32} {σ : St} {x2 : Int32} {o : ((Int32 × St) ⊕ St)} (X : Cx V Γ M_X12_plain) {A : ((Int32 × St) ⊕ St) → Prop}  (hb2 : ∀ (x2 : Int32) (σ9 : St), A (.inl (x2, σ9)) → Go V Γ M_X12_plain (Zm V Γ 0 fin) 2 [(0, .ref (V.2.2.1 + 92)), (1, .int l1), (2, .int x2)] [] σ9) (hx2 : ∀ (σ9 : St), A (.inr σ9) → Go V Γ M_X12_plain (Zm V Γ 0 fin) 24 [(0, .ref (V.2.2.1 + 92)), (1, .int l1)] [] σ9) (h : Mo_plain_L2 l1 σ x2 = some o) (hA : A o) : Go V Γ M_X12_plain (Zm V Γ 0 fin) 2 [(0, .ref (V.2.2.1 + 92)), (1, .int l1), (2, .int x2)] [] σ := by
  unfold Mo_plain_L2 at h
  refine g_iload_n (pc := 2) X 2 rfl dX12_plain_2 ?_
  refine g_sipush (v := 404) (pc := 3) X (by decide) dX12_plain_3 ?_
  refine g_icmp_ge (pc := 6) (tgt := 24) X dX12_plain_6 rfl (fun c4 => ?_) (fun c4 => ?_)
  · replace h := if_t c4 h
    refine g_sub [0, 1] rfl ?_
    cases h
    exact hx2 _ hA
  · replace h := if_f c4 h
    refine g_aload_n (pc := 9) X 0 rfl dX12_plain_9 ?_
    refine g_getR (r := 93) (pc := 10) X k_fl_X12_7 s_92 rfl dX12_plain_10 ?_
    refine g_iload_n (pc := 13) X 1 rfl dX12_plain_13 ?_
    refine g_iload_n (pc := 14) X 2 rfl dX12_plain_14 ?_
    refine g_iadd (pc := 15) X dX12_plain_15 ?_
    refine g_iconst (v := 0) (pc := 16) X rfl dX12_plain_16 ?_
    obtain ⟨c1, h⟩ := chk_e h
    refine g_iast (pc := 17) X s_93 c1 dX12_plain_17 ?_
    obtain ⟨σ2, e_σ2, h⟩ := bnd_e h
    refine g_nmS e_σ2 ?_
    obtain ⟨v3, e_v3, h⟩ := bnd_e h
    refine g_iinc (pc := 18) (v := v3) X [(2, .int v3), (0, .ref (V.2.2.1 + 92)), (1, .int l1)] 2 rfl (by rw [e_v3]; rfl) (Nat.le_of_ble_eq_true rfl) rfl dX12_plain_18 ?_
    refine g_goto (pc := 21) (tgt := 2) X dX12_plain_21 rfl ?_
    refine g_sub [1, 2, 0] rfl ?_
    cases h
    exact hb2 _ _ hA
set_option maxRecDepth 100000 in
theorem tl_Mo_plain_L2 {V : Ev} {Γ : Cn} {fin : Option Value × St} {l1 : Int32} {x2 : Int32} {σ9 : St} (X : Cx V Γ M_X12_plain)  {σ8 : St} {n : Nat} (h : iter (fun s : (Int32 × St) => Mo_plain_L2 l1 s.2 s.1) n (x2, σ9) = some σ8) (hK : Go V Γ M_X12_plain (Zm V Γ 0 fin) 24 [(0, .ref (V.2.2.1 + 92)), (1, .int l1)] [] σ8) : Go V Γ M_X12_plain (Zm V Γ 0 fin) 2 [(0, .ref (V.2.2.1 + 92)), (1, .int l1), (2, .int x2)] [] σ9 := by
  refine iter_go (G := (fun s : (Int32 × St) => Go V Γ M_X12_plain (Zm V Γ 0 fin) 2 [(0, .ref (V.2.2.1 + 92)), (1, .int l1), (2, .int s.1)] [] s.2)) (fun s o ho hS => ?_) n (x2, σ9) h
  exact tb_Mo_plain_L2 X  (fun _ _ h9 => h9) (fun _ he => by cases he; exact hK) ho hS
noncomputable def Mo_plain (σ : St) (p1 : Int32) : Option St :=
  bd (iter (fun s : (Int32 × St) => Mo_plain_L2 p1 s.2 s.1) FUEL (0, σ)) (fun σ5 => chk (ix (p1 + 1) 2060) (bnd (wI σ5 93 (tn (p1 + 1)) 4) (fun σ8 => chk (ix (p1 + 2) 2060) (bnd (wI σ8 93 (tn (p1 + 2)) (-1)) (fun σ10 => some σ10)))))
set_option maxRecDepth 100000 in
set_option maxHeartbeats 4000000 in
theorem tm_Mo_plain {V : Ev} {Γ : Cn} {fin : Option Value × St} {σ : St} {p1 : Int32} {o : St} (X : Cx V Γ M_X12_plain) {A : St → Prop}  (hr : ∀ (σ9 : St), A σ9 → (none, σ9) = fin) (h : Mo_plain σ p1 = some o) (hA : A o) : Go V Γ M_X12_plain (Zm V Γ 0 fin) 0 [(0, .ref (V.2.2.1 + 92)), (1, .int p1)] [] σ := by
  unfold Mo_plain at h
  refine g_iconst (v := 0) (pc := 0) X rfl dX12_plain_0 ?_
  refine g_istore_n (pc := 1) X [(2, .int 0), (0, .ref (V.2.2.1 + 92)), (1, .int p1)] rfl (Nat.le_of_ble_eq_true rfl) rfl dX12_plain_1 ?_
  refine g_sub [1, 2, 0] rfl ?_
  obtain ⟨σ5, hi6, h⟩ := bd_e h
  refine tl_Mo_plain_L2 X  hi6 ?_
  refine g_aload_n (pc := 24) X 0 rfl dX12_plain_24 ?_
  refine g_getR (r := 93) (pc := 25) X k_fl_X12_7 s_92 rfl dX12_plain_25 ?_
  refine g_iload_n (pc := 28) X 1 rfl dX12_plain_28 ?_
  refine g_iconst (v := 1) (pc := 29) X rfl dX12_plain_29 ?_
  refine g_iadd (pc := 30) X dX12_plain_30 ?_
  refine g_iconst (v := 4) (pc := 31) X rfl dX12_plain_31 ?_
  obtain ⟨c7, h⟩ := chk_e h
  refine g_iast (pc := 32) X s_93 c7 dX12_plain_32 ?_
  obtain ⟨σ8, e_σ8, h⟩ := bnd_e h
  refine g_nmS e_σ8 ?_
  refine g_aload_n (pc := 33) X 0 rfl dX12_plain_33 ?_
  refine g_getR (r := 93) (pc := 34) X k_fl_X12_7 s_92 rfl dX12_plain_34 ?_
  refine g_iload_n (pc := 37) X 1 rfl dX12_plain_37 ?_
  refine g_iconst (v := 2) (pc := 38) X rfl dX12_plain_38 ?_
  refine g_iadd (pc := 39) X dX12_plain_39 ?_
  refine g_iconst (v := (-1)) (pc := 40) X rfl dX12_plain_40 ?_
  obtain ⟨c9, h⟩ := chk_e h
  refine g_iast (pc := 41) X s_93 c9 dX12_plain_41 ?_
  obtain ⟨σ10, e_σ10, h⟩ := bnd_e h
  refine g_nmS e_σ10 ?_
  cases h
  exact g_vret (pc := 42) X rfl (hr _ hA) dX12_plain_42
set_option maxRecDepth 100000 in
theorem run_Mo_plain {V : Ev} {σ : St} {p1 : Int32} {o : St}   (h : Mo_plain σ p1 = some o) : Rs V 0 M_X12_plain [.ref (V.2.2.1 + 92), .int p1] σ (none, o) := by
  refine Rs.of (by decide +kernel) (Nat.le_of_ble_eq_true rfl) (fun Γ X => ?_)
  exact tm_Mo_plain X (A := fun o1 => o1 = o)  (fun _ e => by rw [e]) h rfl
theorem dX12_status_0 : decode cX12_status 0 = .ok (.aload_n 0, 1) := by decide +kernel
theorem dX12_status_1 : decode cX12_status 1 = .ok (.getfield 82, 3) := by decide +kernel
theorem dX12_status_4 : decode cX12_status 4 = .ok (.ireturn, 1) := by decide +kernel
noncomputable def Mo_status (σ : St) : Option Int32 :=
  some (σ.1 92 2)
set_option maxRecDepth 100000 in
set_option maxHeartbeats 4000000 in
theorem tm_Mo_status {V : Ev} {Γ : Cn} {fin : Option Value × St} {σ : St} {o : Int32} (X : Cx V Γ M_X12_status) {A : Int32 → Prop}  (hr : ∀ (r : Int32), A r → (some (.int r), σ) = fin) (h : Mo_status σ = some o) (hA : A o) : Go V Γ M_X12_status (Zm V Γ 0 fin) 0 [(0, .ref (V.2.2.1 + 92))] [] σ := by
  unfold Mo_status at h
  refine g_aload_n (pc := 0) X 0 rfl dX12_status_0 ?_
  refine g_getI (pc := 1) X k_fl_X12_82 s_92 rfl dX12_status_1 ?_
  cases h
  exact g_iret (pc := 4) X rfl rfl (hr _ hA) dX12_status_4
set_option maxRecDepth 100000 in
theorem run_Mo_status {V : Ev} {σ : St} {o : Int32}   (h : Mo_status σ = some o) : Rs V 0 M_X12_status [.ref (V.2.2.1 + 92)] σ (some (.int o), σ) := by
  refine Rs.of (by decide +kernel) (Nat.le_of_ble_eq_true rfl) (fun Γ X => ?_)
  exact tm_Mo_status X (A := fun o1 => o1 = o)  (fun _ e => by rw [e]) h rfl
theorem dX12_top_0 : decode cX12_top 0 = .ok (.aload_n 0, 1) := by decide +kernel
theorem dX12_top_1 : decode cX12_top 1 = .ok (.getfield 85, 3) := by decide +kernel
theorem dX12_top_4 : decode cX12_top 4 = .ok (.lreturn, 1) := by decide +kernel
noncomputable def Mo_top (σ : St) : Option Int64 :=
  some (σ.2 92 3)
set_option maxRecDepth 100000 in
set_option maxHeartbeats 4000000 in
theorem tm_Mo_top {V : Ev} {Γ : Cn} {fin : Option Value × St} {σ : St} {o : Int64} (X : Cx V Γ M_X12_top) {A : Int64 → Prop}  (hr : ∀ (r : Int64), A r → (some (.long r), σ) = fin) (h : Mo_top σ = some o) (hA : A o) : Go V Γ M_X12_top (Zm V Γ 0 fin) 0 [(0, .ref (V.2.2.1 + 92))] [] σ := by
  unfold Mo_top at h
  refine g_aload_n (pc := 0) X 0 rfl dX12_top_0 ?_
  refine g_getL (pc := 1) X k_fl_X12_85 s_92 rfl dX12_top_1 ?_
  cases h
  exact g_lret (pc := 4) X rfl (hr _ hA) dX12_top_4
set_option maxRecDepth 100000 in
theorem run_Mo_top {V : Ev} {σ : St} {o : Int64}   (h : Mo_top σ = some o) : Rs V 0 M_X12_top [.ref (V.2.2.1 + 92)] σ (some (.long o), σ) := by
  refine Rs.of (by decide +kernel) (Nat.le_of_ble_eq_true rfl) (fun Γ X => ?_)
  exact tm_Mo_top X (A := fun o1 => o1 = o)  (fun _ e => by rw [e]) h rfl
theorem dX12_bottom_0 : decode cX12_bottom 0 = .ok (.aload_n 0, 1) := by decide +kernel
theorem dX12_bottom_1 : decode cX12_bottom 1 = .ok (.getfield 17, 3) := by decide +kernel
theorem dX12_bottom_4 : decode cX12_bottom 4 = .ok (.lreturn, 1) := by decide +kernel
noncomputable def Mo_bottom (σ : St) : Option Int64 :=
  some (σ.2 92 4)
set_option maxRecDepth 100000 in
set_option maxHeartbeats 4000000 in
theorem tm_Mo_bottom {V : Ev} {Γ : Cn} {fin : Option Value × St} {σ : St} {o : Int64} (X : Cx V Γ M_X12_bottom) {A : Int64 → Prop}  (hr : ∀ (r : Int64), A r → (some (.long r), σ) = fin) (h : Mo_bottom σ = some o) (hA : A o) : Go V Γ M_X12_bottom (Zm V Γ 0 fin) 0 [(0, .ref (V.2.2.1 + 92))] [] σ := by
  unfold Mo_bottom at h
  refine g_aload_n (pc := 0) X 0 rfl dX12_bottom_0 ?_
  refine g_getL (pc := 1) X k_fl_X12_17 s_92 rfl dX12_bottom_1 ?_
  cases h
  exact g_lret (pc := 4) X rfl (hr _ hA) dX12_bottom_4
set_option maxRecDepth 100000 in
theorem run_Mo_bottom {V : Ev} {σ : St} {o : Int64}   (h : Mo_bottom σ = some o) : Rs V 0 M_X12_bottom [.ref (V.2.2.1 + 92)] σ (some (.long o), σ) := by
  refine Rs.of (by decide +kernel) (Nat.le_of_ble_eq_true rfl) (fun Γ X => ?_)
  exact tm_Mo_bottom X (A := fun o1 => o1 = o)  (fun _ e => by rw [e]) h rfl
theorem dX12_is_0 : decode cX12_is 0 = .ok (.aload_n 0, 1) := by decide +kernel
theorem dX12_is_1 : decode cX12_is 1 = .ok (.iload_n 1, 1) := by decide +kernel
theorem dX12_is_2 : decode cX12_is 2 = .ok (.putfield 82, 3) := by decide +kernel
theorem dX12_is_5 : decode cX12_is 5 = .ok (.iload_n 1, 1) := by decide +kernel
theorem dX12_is_6 : decode cX12_is 6 = .ok (.ifCond .ne 7, 3) := by decide +kernel
theorem dX12_is_9 : decode cX12_is 9 = .ok (.iconst 1, 1) := by decide +kernel
theorem dX12_is_10 : decode cX12_is 10 = .ok (.goto 4, 3) := by decide +kernel
theorem dX12_is_13 : decode cX12_is 13 = .ok (.iconst 0, 1) := by decide +kernel
theorem dX12_is_14 : decode cX12_is 14 = .ok (.ireturn, 1) := by decide +kernel
noncomputable def Mo_is (σ : St) (p1 : Int32) : Option (Int32 × St) :=
  bnd (wI σ 92 2 p1) (fun σ1 => if p1 = 0 then (some (1, σ1)) else (some (0, σ1)))
set_option maxRecDepth 100000 in
set_option maxHeartbeats 4000000 in
theorem tm_Mo_is {V : Ev} {Γ : Cn} {fin : Option Value × St} {σ : St} {p1 : Int32} {o : (Int32 × St)} (X : Cx V Γ M_X12_is) {A : (Int32 × St) → Prop}  (hr : ∀ (r : Int32) (σ9 : St), A (r, σ9) → (some (.int r), σ9) = fin) (h : Mo_is σ p1 = some o) (hA : A o) : Go V Γ M_X12_is (Zm V Γ 0 fin) 0 [(0, .ref (V.2.2.1 + 92)), (1, .int p1)] [] σ := by
  unfold Mo_is at h
  refine g_aload_n (pc := 0) X 0 rfl dX12_is_0 ?_
  refine g_iload_n (pc := 1) X 1 rfl dX12_is_1 ?_
  refine g_putI (pc := 2) X k_fl_X12_82 s_92 rfl rfl rfl dX12_is_2 ?_
  obtain ⟨σ1, e_σ1, h⟩ := bnd_e h
  refine g_nmS e_σ1 ?_
  refine g_iload_n (pc := 5) X 1 rfl dX12_is_5 ?_
  refine g_if_ne (pc := 6) (tgt := 13) X dX12_is_6 rfl (fun c2 => ?_) (fun c2 => ?_)
  · replace h := if_f c2 h
    refine g_iconst (v := 0) (pc := 13) X rfl dX12_is_13 ?_
    cases h
    exact g_iret (pc := 14) X rfl nz0.1 (hr _ _ hA) dX12_is_14
  · replace h := if_t c2 h
    refine g_iconst (v := 1) (pc := 9) X rfl dX12_is_9 ?_
    refine g_goto (pc := 10) (tgt := 14) X dX12_is_10 rfl ?_
    cases h
    exact g_iret (pc := 14) X rfl nz1.1 (hr _ _ hA) dX12_is_14
set_option maxRecDepth 100000 in
theorem run_Mo_is {V : Ev} {σ : St} {p1 : Int32} {o : (Int32 × St)}   (h : Mo_is σ p1 = some o) : Rs V 0 M_X12_is [.ref (V.2.2.1 + 92), .int p1] σ (some (.int o.1), o.2) := by
  refine Rs.of (by decide +kernel) (Nat.le_of_ble_eq_true rfl) (fun Γ X => ?_)
  exact tm_Mo_is X (A := fun o1 => o1 = o)  (fun _ _ e => by rw [← e]) h rfl
theorem dX12_refuse_0 : decode cX12_refuse 0 = .ok (.aload_n 0, 1) := by decide +kernel
theorem dX12_refuse_1 : decode cX12_refuse 1 = .ok (.iload_n 1, 1) := by decide +kernel
theorem dX12_refuse_2 : decode cX12_refuse 2 = .ok (.putfield 82, 3) := by decide +kernel
theorem dX12_refuse_5 : decode cX12_refuse 5 = .ok (.iconst (-1), 1) := by decide +kernel
theorem dX12_refuse_6 : decode cX12_refuse 6 = .ok (.ireturn, 1) := by decide +kernel
noncomputable def Mo_refuse (σ : St) (p1 : Int32) : Option (Int32 × St) :=
  bnd (wI σ 92 2 p1) (fun σ1 => some ((-1), σ1))
set_option maxRecDepth 100000 in
set_option maxHeartbeats 4000000 in
theorem tm_Mo_refuse {V : Ev} {Γ : Cn} {fin : Option Value × St} {σ : St} {p1 : Int32} {o : (Int32 × St)} (X : Cx V Γ M_X12_refuse) {A : (Int32 × St) → Prop}  (hr : ∀ (r : Int32) (σ9 : St), A (r, σ9) → (some (.int r), σ9) = fin) (h : Mo_refuse σ p1 = some o) (hA : A o) : Go V Γ M_X12_refuse (Zm V Γ 0 fin) 0 [(0, .ref (V.2.2.1 + 92)), (1, .int p1)] [] σ := by
  unfold Mo_refuse at h
  refine g_aload_n (pc := 0) X 0 rfl dX12_refuse_0 ?_
  refine g_iload_n (pc := 1) X 1 rfl dX12_refuse_1 ?_
  refine g_putI (pc := 2) X k_fl_X12_82 s_92 rfl rfl rfl dX12_refuse_2 ?_
  obtain ⟨σ1, e_σ1, h⟩ := bnd_e h
  refine g_nmS e_σ1 ?_
  refine g_iconst (v := (-1)) (pc := 5) X rfl dX12_refuse_5 ?_
  cases h
  exact g_iret (pc := 6) X rfl rfl (hr _ _ hA) dX12_refuse_6
set_option maxRecDepth 100000 in
theorem run_Mo_refuse {V : Ev} {σ : St} {p1 : Int32} {o : (Int32 × St)}   (h : Mo_refuse σ p1 = some o) : Rs V 0 M_X12_refuse [.ref (V.2.2.1 + 92), .int p1] σ (some (.int o.1), o.2) := by
  refine Rs.of (by decide +kernel) (Nat.le_of_ble_eq_true rfl) (fun Γ X => ?_)
  exact tm_Mo_refuse X (A := fun o1 => o1 = o)  (fun _ _ e => by rw [← e]) h rfl
theorem dX12_gives_0 : decode cX12_gives 0 = .ok (.aload_n 0, 1) := by decide +kernel
theorem dX12_gives_1 : decode cX12_gives 1 = .ok (.iconst 0, 1) := by decide +kernel
theorem dX12_gives_2 : decode cX12_gives 2 = .ok (.putfield 82, 3) := by decide +kernel
theorem dX12_gives_5 : decode cX12_gives 5 = .ok (.iload_n 1, 1) := by decide +kernel
theorem dX12_gives_6 : decode cX12_gives 6 = .ok (.ireturn, 1) := by decide +kernel
noncomputable def Mo_gives (σ : St) (p1 : Int32) : Option (Int32 × St) :=
  bnd (wI σ 92 2 0) (fun σ1 => some (p1, σ1))
set_option maxRecDepth 100000 in
set_option maxHeartbeats 4000000 in
theorem tm_Mo_gives {V : Ev} {Γ : Cn} {fin : Option Value × St} {σ : St} {p1 : Int32} {o : (Int32 × St)} (X : Cx V Γ M_X12_gives) {A : (Int32 × St) → Prop}  (hr : ∀ (r : Int32) (σ9 : St), A (r, σ9) → (some (.int r), σ9) = fin) (h : Mo_gives σ p1 = some o) (hA : A o) : Go V Γ M_X12_gives (Zm V Γ 0 fin) 0 [(0, .ref (V.2.2.1 + 92)), (1, .int p1)] [] σ := by
  unfold Mo_gives at h
  refine g_aload_n (pc := 0) X 0 rfl dX12_gives_0 ?_
  refine g_iconst (v := 0) (pc := 1) X rfl dX12_gives_1 ?_
  refine g_putI (pc := 2) X k_fl_X12_82 s_92 rfl rfl rfl dX12_gives_2 ?_
  obtain ⟨σ1, e_σ1, h⟩ := bnd_e h
  refine g_nmS e_σ1 ?_
  refine g_iload_n (pc := 5) X 1 rfl dX12_gives_5 ?_
  cases h
  exact g_iret (pc := 6) X rfl rfl (hr _ _ hA) dX12_gives_6
set_option maxRecDepth 100000 in
theorem run_Mo_gives {V : Ev} {σ : St} {p1 : Int32} {o : (Int32 × St)}   (h : Mo_gives σ p1 = some o) : Rs V 0 M_X12_gives [.ref (V.2.2.1 + 92), .int p1] σ (some (.int o.1), o.2) := by
  refine Rs.of (by decide +kernel) (Nat.le_of_ble_eq_true rfl) (fun Γ X => ?_)
  exact tm_Mo_gives X (A := fun o1 => o1 = o)  (fun _ _ e => by rw [← e]) h rfl
theorem dX12_orNone_0 : decode cX12_orNone 0 = .ok (.iload_n 1, 1) := by decide +kernel
theorem dX12_orNone_1 : decode cX12_orNone 1 = .ok (.iconst (-1), 1) := by decide +kernel
theorem dX12_orNone_2 : decode cX12_orNone 2 = .ok (.if_icmp .ne 10, 3) := by decide +kernel
theorem dX12_orNone_5 : decode cX12_orNone 5 = .ok (.aload_n 0, 1) := by decide +kernel
theorem dX12_orNone_6 : decode cX12_orNone 6 = .ok (.bipush 6, 2) := by decide +kernel
theorem dX12_orNone_8 : decode cX12_orNone 8 = .ok (.invokevirtual 88, 3) := by decide +kernel
theorem dX12_orNone_11 : decode cX12_orNone 11 = .ok (.ireturn, 1) := by decide +kernel
theorem dX12_orNone_12 : decode cX12_orNone 12 = .ok (.aload_n 0, 1) := by decide +kernel
theorem dX12_orNone_13 : decode cX12_orNone 13 = .ok (.iload_n 1, 1) := by decide +kernel
theorem dX12_orNone_14 : decode cX12_orNone 14 = .ok (.invokevirtual 92, 3) := by decide +kernel
theorem dX12_orNone_17 : decode cX12_orNone 17 = .ok (.ireturn, 1) := by decide +kernel
noncomputable def Mo_orNone (σ : St) (p1 : Int32) : Option (Int32 × St) :=
  if p1 = (-1) then (bd2 (Mo_refuse σ 6) (fun r5 σ6 => some (r5, σ6))) else (bd2 (Mo_gives σ p1) (fun r2 σ3 => some (r2, σ3)))
set_option maxRecDepth 100000 in
set_option maxHeartbeats 4000000 in
theorem tm_Mo_orNone {V : Ev} {Γ : Cn} {fin : Option Value × St} {σ : St} {p1 : Int32} {o : (Int32 × St)} (X : Cx V Γ M_X12_orNone) {A : (Int32 × St) → Prop}  (hr : ∀ (r : Int32) (σ9 : St), A (r, σ9) → (some (.int r), σ9) = fin) (h : Mo_orNone σ p1 = some o) (hA : A o) : Go V Γ M_X12_orNone (Zm V Γ 1 fin) 0 [(0, .ref (V.2.2.1 + 92)), (1, .int p1)] [] σ := by
  unfold Mo_orNone at h
  refine g_iload_n (pc := 0) X 1 rfl dX12_orNone_0 ?_
  refine g_iconst (v := (-1)) (pc := 1) X rfl dX12_orNone_1 ?_
  refine g_icmp_ne (pc := 2) (tgt := 12) X dX12_orNone_2 rfl (fun c7 => ?_) (fun c7 => ?_)
  · replace h := if_f c7 h
    refine g_aload_n (pc := 12) X 0 rfl dX12_orNone_12 ?_
    refine g_iload_n (pc := 13) X 1 rfl dX12_orNone_13 ?_
    obtain ⟨r2, σ3, hc1, h⟩ := bd2_e h
    refine g_callV (pc := 14) X k_ml_X12_92 (run_Mo_gives  hc1) s_92 rfl (room_ok (Nat.le_of_ble_eq_true rfl) (Nat.le_of_ble_eq_true rfl)) ⟨Nat.le_refl _, Nat.le_refl _⟩ _ rfl (Nat.le_of_ble_eq_true rfl) dX12_orNone_14 ?_
    show Go V Γ M_X12_orNone (Zm V Γ 1 fin) 17 [(0, .ref (V.2.2.1 + 92)), (1, .int p1)] [.int r2] σ3
    cases h
    exact g_iret (pc := 17) X rfl rfl (hr _ _ hA) dX12_orNone_17
  · replace h := if_t c7 h
    refine g_aload_n (pc := 5) X 0 rfl dX12_orNone_5 ?_
    refine g_bipush (v := 6) (pc := 6) X (by decide) dX12_orNone_6 ?_
    obtain ⟨r5, σ6, hc4, h⟩ := bd2_e h
    refine g_callV (pc := 8) X k_ml_X12_88 (run_Mo_refuse  hc4) s_92 rfl (room_ok (Nat.le_of_ble_eq_true rfl) (Nat.le_of_ble_eq_true rfl)) ⟨Nat.le_refl _, Nat.le_refl _⟩ _ rfl (Nat.le_of_ble_eq_true rfl) dX12_orNone_8 ?_
    show Go V Γ M_X12_orNone (Zm V Γ 1 fin) 11 [(0, .ref (V.2.2.1 + 92)), (1, .int p1)] [.int r5] σ6
    cases h
    exact g_iret (pc := 11) X rfl rfl (hr _ _ hA) dX12_orNone_11
set_option maxRecDepth 100000 in
theorem run_Mo_orNone {V : Ev} {σ : St} {p1 : Int32} {o : (Int32 × St)}   (h : Mo_orNone σ p1 = some o) : Rs V 1 M_X12_orNone [.ref (V.2.2.1 + 92), .int p1] σ (some (.int o.1), o.2) := by
  refine Rs.of (by decide +kernel) (Nat.le_of_ble_eq_true rfl) (fun Γ X => ?_)
  exact tm_Mo_orNone X (A := fun o1 => o1 = o)  (fun _ _ e => by rw [← e]) h rfl
theorem dX12_tellsBy_0 : decode cX12_tellsBy 0 = .ok (.lload_n 1, 1) := by decide +kernel
theorem dX12_tellsBy_1 : decode cX12_tellsBy 1 = .ok (.lstore 5, 2) := by decide +kernel
theorem dX12_tellsBy_3 : decode cX12_tellsBy 3 = .ok (.lload_n 3, 1) := by decide +kernel
theorem dX12_tellsBy_4 : decode cX12_tellsBy 4 = .ok (.lstore 7, 2) := by decide +kernel
theorem dX12_tellsBy_6 : decode cX12_tellsBy 6 = .ok (.lload 7, 2) := by decide +kernel
theorem dX12_tellsBy_8 : decode cX12_tellsBy 8 = .ok (.lconst 0, 1) := by decide +kernel
theorem dX12_tellsBy_9 : decode cX12_tellsBy 9 = .ok (.lcmp, 1) := by decide +kernel
theorem dX12_tellsBy_10 : decode cX12_tellsBy 10 = .ok (.ifCond .eq 21, 3) := by decide +kernel
theorem dX12_tellsBy_13 : decode cX12_tellsBy 13 = .ok (.lload 5, 2) := by decide +kernel
theorem dX12_tellsBy_15 : decode cX12_tellsBy 15 = .ok (.lload 7, 2) := by decide +kernel
theorem dX12_tellsBy_17 : decode cX12_tellsBy 17 = .ok (.lrem, 1) := by decide +kernel
theorem dX12_tellsBy_18 : decode cX12_tellsBy 18 = .ok (.lstore 9, 2) := by decide +kernel
theorem dX12_tellsBy_20 : decode cX12_tellsBy 20 = .ok (.lload 7, 2) := by decide +kernel
theorem dX12_tellsBy_22 : decode cX12_tellsBy 22 = .ok (.lstore 5, 2) := by decide +kernel
theorem dX12_tellsBy_24 : decode cX12_tellsBy 24 = .ok (.lload 9, 2) := by decide +kernel
theorem dX12_tellsBy_26 : decode cX12_tellsBy 26 = .ok (.lstore 7, 2) := by decide +kernel
theorem dX12_tellsBy_28 : decode cX12_tellsBy 28 = .ok (.goto (-22), 3) := by decide +kernel
theorem dX12_tellsBy_31 : decode cX12_tellsBy 31 = .ok (.aload_n 0, 1) := by decide +kernel
theorem dX12_tellsBy_32 : decode cX12_tellsBy 32 = .ok (.lload_n 1, 1) := by decide +kernel
theorem dX12_tellsBy_33 : decode cX12_tellsBy 33 = .ok (.lload 5, 2) := by decide +kernel
theorem dX12_tellsBy_35 : decode cX12_tellsBy 35 = .ok (.ldiv, 1) := by decide +kernel
theorem dX12_tellsBy_36 : decode cX12_tellsBy 36 = .ok (.putfield 85, 3) := by decide +kernel
theorem dX12_tellsBy_39 : decode cX12_tellsBy 39 = .ok (.aload_n 0, 1) := by decide +kernel
theorem dX12_tellsBy_40 : decode cX12_tellsBy 40 = .ok (.lload_n 3, 1) := by decide +kernel
theorem dX12_tellsBy_41 : decode cX12_tellsBy 41 = .ok (.lload 5, 2) := by decide +kernel
theorem dX12_tellsBy_43 : decode cX12_tellsBy 43 = .ok (.ldiv, 1) := by decide +kernel
theorem dX12_tellsBy_44 : decode cX12_tellsBy 44 = .ok (.putfield 17, 3) := by decide +kernel
theorem dX12_tellsBy_47 : decode cX12_tellsBy 47 = .ok (.aload_n 0, 1) := by decide +kernel
theorem dX12_tellsBy_48 : decode cX12_tellsBy 48 = .ok (.iconst 0, 1) := by decide +kernel
theorem dX12_tellsBy_49 : decode cX12_tellsBy 49 = .ok (.invokevirtual 95, 3) := by decide +kernel
theorem dX12_tellsBy_52 : decode cX12_tellsBy 52 = .ok (.ireturn, 1) := by decide +kernel
noncomputable def Mo_tellsBy_L6 (l1 : Int64) (l3 : Int64) (σ : St) (x5 : Int64) (x7 : Int64) : Option ((Int64 × Int64) ⊕ Int64) :=
  if x7 = 0 then (some (.inr x5)) else (chk (nzL x7) (bnd ((jreml x5 x7)) (fun v2 => some (.inl (x7, v2)))))
set_option maxRecDepth 100000 in
set_option maxHeartbeats 4000000 in
theorem tb_Mo_tellsBy_L6 {V : Ev} {Γ : Cn} {fin : Option Value × St} {l1 : Int64} {l3 : Int64} {σ : St} {x5 : Int64} {x7 : Int64} {o : ((Int64 × Int64) ⊕ Int64)} (X : Cx V Γ M_X12_tellsBy) {A : ((Int64 × Int64) ⊕ Int64) → Prop}  (hb6 : ∀ (x5 : Int64) (x7 : Int64), A (.inl (x5, x7)) → Go V Γ M_X12_tellsBy (Zm V Γ 1 fin) 6 [(0, .ref (V.2.2.1 + 92)), (1, .long l1), (3, .long l3), (5, .long x5), (7, .long x7)] [] σ) (hx6 : ∀ (x5 : Int64), A (.inr x5) → Go V Γ M_X12_tellsBy (Zm V Γ 1 fin) 31 [(0, .ref (V.2.2.1 + 92)), (1, .long l1), (3, .long l3), (5, .long x5)] [] σ) (h : Mo_tellsBy_L6 l1 l3 σ x5 x7 = some o) (hA : A o) : Go V Γ M_X12_tellsBy (Zm V Γ 1 fin) 6 [(0, .ref (V.2.2.1 + 92)), (1, .long l1), (3, .long l3), (5, .long x5), (7, .long x7)] [] σ := by
  unfold Mo_tellsBy_L6 at h
  refine g_lload (pc := 6) X 4 rfl dX12_tellsBy_6 ?_
  refine g_lconst (v := 0) (pc := 8) X rfl dX12_tellsBy_8 ?_
  refine g_lcmp_eq (pc := 9) (tgt := 31) X dX12_tellsBy_9 dX12_tellsBy_10 rfl (fun c3 => ?_) (fun c3 => ?_)
  · replace h := if_t c3 h
    refine g_sub [0, 1, 2, 3] rfl ?_
    cases h
    exact hx6 _ hA
  · replace h := if_f c3 h
    refine g_lload (pc := 13) X 3 rfl dX12_tellsBy_13 ?_
    refine g_lload (pc := 15) X 4 rfl dX12_tellsBy_15 ?_
    obtain ⟨c1, h⟩ := chk_e h
    refine g_lrem (pc := 17) X (nzL_e c1) dX12_tellsBy_17 ?_
    obtain ⟨v2, e_v2, h⟩ := bnd_e h
    refine g_nmL e_v2 ?_
    refine g_lstore (pc := 18) X [(9, .long v2), (0, .ref (V.2.2.1 + 92)), (1, .long l1), (3, .long l3), (5, .long x5), (7, .long x7)] (Nat.le_of_ble_eq_true rfl) rfl dX12_tellsBy_18 ?_
    refine g_lload (pc := 20) X 5 rfl dX12_tellsBy_20 ?_
    refine g_lstore (pc := 22) X [(5, .long x7), (9, .long v2), (0, .ref (V.2.2.1 + 92)), (1, .long l1), (3, .long l3), (7, .long x7)] (Nat.le_of_ble_eq_true rfl) rfl dX12_tellsBy_22 ?_
    refine g_lload (pc := 24) X 1 rfl dX12_tellsBy_24 ?_
    refine g_lstore (pc := 26) X [(7, .long v2), (5, .long x7), (9, .long v2), (0, .ref (V.2.2.1 + 92)), (1, .long l1), (3, .long l3)] (Nat.le_of_ble_eq_true rfl) rfl dX12_tellsBy_26 ?_
    refine g_goto (pc := 28) (tgt := 6) X dX12_tellsBy_28 rfl ?_
    refine g_sub [3, 4, 5, 1, 0] rfl ?_
    cases h
    exact hb6 _ _ hA
set_option maxRecDepth 100000 in
theorem tl_Mo_tellsBy_L6 {V : Ev} {Γ : Cn} {fin : Option Value × St} {l1 : Int64} {l3 : Int64} {σ : St} {x5 : Int64} {x7 : Int64} (X : Cx V Γ M_X12_tellsBy)  {y5 : Int64} {n : Nat} (h : iter (fun s : (Int64 × Int64) => Mo_tellsBy_L6 l1 l3 σ s.1 s.2) n (x5, x7) = some y5) (hK : Go V Γ M_X12_tellsBy (Zm V Γ 1 fin) 31 [(0, .ref (V.2.2.1 + 92)), (1, .long l1), (3, .long l3), (5, .long y5)] [] σ) : Go V Γ M_X12_tellsBy (Zm V Γ 1 fin) 6 [(0, .ref (V.2.2.1 + 92)), (1, .long l1), (3, .long l3), (5, .long x5), (7, .long x7)] [] σ := by
  refine iter_go (G := (fun s : (Int64 × Int64) => Go V Γ M_X12_tellsBy (Zm V Γ 1 fin) 6 [(0, .ref (V.2.2.1 + 92)), (1, .long l1), (3, .long l3), (5, .long s.1), (7, .long s.2)] [] σ)) (fun s o ho hS => ?_) n (x5, x7) h
  exact tb_Mo_tellsBy_L6 X  (fun _ _ h9 => h9) (fun _ he => by cases he; exact hK) ho hS
noncomputable def Mo_tellsBy (σ : St) (p1 : Int64) (p2 : Int64) : Option (Int32 × St) :=
  bd (iter (fun s : (Int64 × Int64) => Mo_tellsBy_L6 p1 p2 σ s.1 s.2) FUEL (p1, p2)) (fun v4 => chk (nzL v4) (bnd (wL σ 92 3 (p1 / v4)) (fun σ7 => chk (nzL v4) (bnd (wL σ7 92 4 (p2 / v4)) (fun σ9 => bd2 (Mo_is σ9 0) (fun r11 σ12 => chk (ckz r11) (some (r11, σ12))))))))
set_option maxRecDepth 100000 in
set_option maxHeartbeats 4000000 in
theorem tm_Mo_tellsBy {V : Ev} {Γ : Cn} {fin : Option Value × St} {σ : St} {p1 : Int64} {p2 : Int64} {o : (Int32 × St)} (X : Cx V Γ M_X12_tellsBy) {A : (Int32 × St) → Prop}  (hr : ∀ (r : Int32) (σ9 : St), A (r, σ9) → (some (.int r), σ9) = fin) (h : Mo_tellsBy σ p1 p2 = some o) (hA : A o) : Go V Γ M_X12_tellsBy (Zm V Γ 1 fin) 0 [(0, .ref (V.2.2.1 + 92)), (1, .long p1), (3, .long p2)] [] σ := by
  unfold Mo_tellsBy at h
  refine g_lload_n (pc := 0) X 1 rfl dX12_tellsBy_0 ?_
  refine g_lstore (pc := 1) X [(5, .long p1), (0, .ref (V.2.2.1 + 92)), (1, .long p1), (3, .long p2)] (Nat.le_of_ble_eq_true rfl) rfl dX12_tellsBy_1 ?_
  refine g_lload_n (pc := 3) X 3 rfl dX12_tellsBy_3 ?_
  refine g_lstore (pc := 4) X [(7, .long p2), (5, .long p1), (0, .ref (V.2.2.1 + 92)), (1, .long p1), (3, .long p2)] (Nat.le_of_ble_eq_true rfl) rfl dX12_tellsBy_4 ?_
  refine g_sub [2, 3, 4, 1, 0] rfl ?_
  obtain ⟨v4, hi5, h⟩ := bd_e h
  refine tl_Mo_tellsBy_L6 X  hi5 ?_
  refine g_aload_n (pc := 31) X 0 rfl dX12_tellsBy_31 ?_
  refine g_lload_n (pc := 32) X 1 rfl dX12_tellsBy_32 ?_
  refine g_lload (pc := 33) X 3 rfl dX12_tellsBy_33 ?_
  obtain ⟨c6, h⟩ := chk_e h
  refine g_ldiv (pc := 35) X (nzL_e c6) dX12_tellsBy_35 ?_
  refine g_putL (pc := 36) X k_fl_X12_85 s_92 rfl dX12_tellsBy_36 ?_
  obtain ⟨σ7, e_σ7, h⟩ := bnd_e h
  refine g_nmS e_σ7 ?_
  refine g_aload_n (pc := 39) X 0 rfl dX12_tellsBy_39 ?_
  refine g_lload_n (pc := 40) X 2 rfl dX12_tellsBy_40 ?_
  refine g_lload (pc := 41) X 3 rfl dX12_tellsBy_41 ?_
  obtain ⟨c8, h⟩ := chk_e h
  refine g_ldiv (pc := 43) X (nzL_e c8) dX12_tellsBy_43 ?_
  refine g_putL (pc := 44) X k_fl_X12_17 s_92 rfl dX12_tellsBy_44 ?_
  obtain ⟨σ9, e_σ9, h⟩ := bnd_e h
  refine g_nmS e_σ9 ?_
  refine g_aload_n (pc := 47) X 0 rfl dX12_tellsBy_47 ?_
  refine g_iconst (v := 0) (pc := 48) X rfl dX12_tellsBy_48 ?_
  obtain ⟨r11, σ12, hc10, h⟩ := bd2_e h
  refine g_callV (pc := 49) X k_ml_X12_95 (run_Mo_is  hc10) s_92 rfl (room_ok (Nat.le_of_ble_eq_true rfl) (Nat.le_of_ble_eq_true rfl)) ⟨Nat.le_refl _, Nat.le_refl _⟩ _ rfl (Nat.le_of_ble_eq_true rfl) dX12_tellsBy_49 ?_
  show Go V Γ M_X12_tellsBy (Zm V Γ 1 fin) 52 [(0, .ref (V.2.2.1 + 92)), (1, .long p1), (3, .long p2), (5, .long v4)] [.int r11] σ12
  obtain ⟨c13, h⟩ := chk_e h
  cases h
  exact g_iret (pc := 52) X rfl (ckz_e c13).1 (hr _ _ hA) dX12_tellsBy_52
set_option maxRecDepth 100000 in
theorem run_Mo_tellsBy {V : Ev} {σ : St} {p1 : Int64} {p2 : Int64} {o : (Int32 × St)}   (h : Mo_tellsBy σ p1 p2 = some o) : Rs V 1 M_X12_tellsBy [.ref (V.2.2.1 + 92), .long p1, .long p2] σ (some (.int o.1), o.2) := by
  refine Rs.of (by decide +kernel) (Nat.le_of_ble_eq_true rfl) (fun Γ X => ?_)
  exact tm_Mo_tellsBy X (A := fun o1 => o1 = o)  (fun _ _ e => by rw [← e]) h rfl
theorem dX12_isTray_0 : decode cX12_isTray 0 = .ok (.iload_n 0, 1) := by decide +kernel
theorem dX12_isTray_1 : decode cX12_isTray 1 = .ok (.ifCond .lt 12, 3) := by decide +kernel
theorem dX12_isTray_4 : decode cX12_isTray 4 = .ok (.iload_n 0, 1) := by decide +kernel
theorem dX12_isTray_5 : decode cX12_isTray 5 = .ok (.iconst 4, 1) := by decide +kernel
theorem dX12_isTray_6 : decode cX12_isTray 6 = .ok (.if_icmp .ge 7, 3) := by decide +kernel
theorem dX12_isTray_9 : decode cX12_isTray 9 = .ok (.iconst 1, 1) := by decide +kernel
theorem dX12_isTray_10 : decode cX12_isTray 10 = .ok (.goto 4, 3) := by decide +kernel
theorem dX12_isTray_13 : decode cX12_isTray 13 = .ok (.iconst 0, 1) := by decide +kernel
theorem dX12_isTray_14 : decode cX12_isTray 14 = .ok (.ireturn, 1) := by decide +kernel
noncomputable def Mo_isTray (p0 : Int32) : Option Int32 :=
  if p0 < 0 then (some 0) else (if 4 ≤ p0 then (some 0) else (some 1))
set_option maxRecDepth 100000 in
set_option maxHeartbeats 4000000 in
theorem tm_Mo_isTray {V : Ev} {Γ : Cn} {fin : Option Value × St} {σ : St} {p0 : Int32} {o : Int32} (X : Cx V Γ M_X12_isTray) {A : Int32 → Prop}  (hr : ∀ (r : Int32), A r → (some (.int r), σ) = fin) (h : Mo_isTray p0 = some o) (hA : A o) : Go V Γ M_X12_isTray (Zm V Γ 0 fin) 0 [(0, .int p0)] [] σ := by
  unfold Mo_isTray at h
  refine g_iload_n (pc := 0) X 0 rfl dX12_isTray_0 ?_
  refine g_if_lt (pc := 1) (tgt := 13) X dX12_isTray_1 rfl (fun c2 => ?_) (fun c2 => ?_)
  · replace h := if_t c2 h
    refine g_iconst (v := 0) (pc := 13) X rfl dX12_isTray_13 ?_
    cases h
    exact g_iret (pc := 14) X rfl nz0.1 (hr _ hA) dX12_isTray_14
  · replace h := if_f c2 h
    refine g_iload_n (pc := 4) X 0 rfl dX12_isTray_4 ?_
    refine g_iconst (v := 4) (pc := 5) X rfl dX12_isTray_5 ?_
    refine g_icmp_ge (pc := 6) (tgt := 13) X dX12_isTray_6 rfl (fun c1 => ?_) (fun c1 => ?_)
    · replace h := if_t c1 h
      refine g_iconst (v := 0) (pc := 13) X rfl dX12_isTray_13 ?_
      cases h
      exact g_iret (pc := 14) X rfl nz0.1 (hr _ hA) dX12_isTray_14
    · replace h := if_f c1 h
      refine g_iconst (v := 1) (pc := 9) X rfl dX12_isTray_9 ?_
      refine g_goto (pc := 10) (tgt := 14) X dX12_isTray_10 rfl ?_
      cases h
      exact g_iret (pc := 14) X rfl nz1.1 (hr _ hA) dX12_isTray_14
set_option maxRecDepth 100000 in
theorem run_Mo_isTray {V : Ev} {σ : St} {p0 : Int32} {o : Int32}   (h : Mo_isTray p0 = some o) : Rs V 0 M_X12_isTray [.int p0] σ (some (.int o), σ) := by
  refine Rs.of (by decide +kernel) (Nat.le_of_ble_eq_true rfl) (fun Γ X => ?_)
  exact tm_Mo_isTray X (A := fun o1 => o1 = o)  (fun _ e => by rw [e]) h rfl
theorem dX12_cut_0 : decode cX12_cut 0 = .ok (.iload_n 2, 1) := by decide +kernel
theorem dX12_cut_1 : decode cX12_cut 1 = .ok (.ifCond .ne 10, 3) := by decide +kernel
theorem dX12_cut_4 : decode cX12_cut 4 = .ok (.lload_n 0, 1) := by decide +kernel
theorem dX12_cut_5 : decode cX12_cut 5 = .ok (.l2i, 1) := by decide +kernel
theorem dX12_cut_6 : decode cX12_cut 6 = .ok (.i2b, 1) := by decide +kernel
theorem dX12_cut_7 : decode cX12_cut 7 = .ok (.i2l, 1) := by decide +kernel
theorem dX12_cut_8 : decode cX12_cut 8 = .ok (.goto 27, 3) := by decide +kernel
theorem dX12_cut_11 : decode cX12_cut 11 = .ok (.iload_n 2, 1) := by decide +kernel
theorem dX12_cut_12 : decode cX12_cut 12 = .ok (.iconst 1, 1) := by decide +kernel
theorem dX12_cut_13 : decode cX12_cut 13 = .ok (.if_icmp .ne 10, 3) := by decide +kernel
theorem dX12_cut_16 : decode cX12_cut 16 = .ok (.lload_n 0, 1) := by decide +kernel
theorem dX12_cut_17 : decode cX12_cut 17 = .ok (.l2i, 1) := by decide +kernel
theorem dX12_cut_18 : decode cX12_cut 18 = .ok (.i2s, 1) := by decide +kernel
theorem dX12_cut_19 : decode cX12_cut 19 = .ok (.i2l, 1) := by decide +kernel
theorem dX12_cut_20 : decode cX12_cut 20 = .ok (.goto 15, 3) := by decide +kernel
theorem dX12_cut_23 : decode cX12_cut 23 = .ok (.iload_n 2, 1) := by decide +kernel
theorem dX12_cut_24 : decode cX12_cut 24 = .ok (.iconst 2, 1) := by decide +kernel
theorem dX12_cut_25 : decode cX12_cut 25 = .ok (.if_icmp .ne 9, 3) := by decide +kernel
theorem dX12_cut_28 : decode cX12_cut 28 = .ok (.lload_n 0, 1) := by decide +kernel
theorem dX12_cut_29 : decode cX12_cut 29 = .ok (.l2i, 1) := by decide +kernel
theorem dX12_cut_30 : decode cX12_cut 30 = .ok (.i2l, 1) := by decide +kernel
theorem dX12_cut_31 : decode cX12_cut 31 = .ok (.goto 4, 3) := by decide +kernel
theorem dX12_cut_34 : decode cX12_cut 34 = .ok (.lload_n 0, 1) := by decide +kernel
theorem dX12_cut_35 : decode cX12_cut 35 = .ok (.lreturn, 1) := by decide +kernel
noncomputable def Mo_cut (p0 : Int64) (p1 : Int32) : Option Int64 :=
  if p1 = 0 then (some p0.toInt32.toInt8.toInt32.toInt64) else (if p1 = 1 then (some p0.toInt32.toInt16.toInt32.toInt64) else (if p1 = 2 then (some p0.toInt32.toInt64) else (some p0)))
set_option maxRecDepth 100000 in
set_option maxHeartbeats 4000000 in
theorem tm_Mo_cut {V : Ev} {Γ : Cn} {fin : Option Value × St} {σ : St} {p0 : Int64} {p1 : Int32} {o : Int64} (X : Cx V Γ M_X12_cut) {A : Int64 → Prop}  (hr : ∀ (r : Int64), A r → (some (.long r), σ) = fin) (h : Mo_cut p0 p1 = some o) (hA : A o) : Go V Γ M_X12_cut (Zm V Γ 0 fin) 0 [(0, .long p0), (2, .int p1)] [] σ := by
  unfold Mo_cut at h
  refine g_iload_n (pc := 0) X 1 rfl dX12_cut_0 ?_
  refine g_if_ne (pc := 1) (tgt := 11) X dX12_cut_1 rfl (fun c3 => ?_) (fun c3 => ?_)
  · replace h := if_f c3 h
    refine g_iload_n (pc := 11) X 1 rfl dX12_cut_11 ?_
    refine g_iconst (v := 1) (pc := 12) X rfl dX12_cut_12 ?_
    refine g_icmp_ne (pc := 13) (tgt := 23) X dX12_cut_13 rfl (fun c2 => ?_) (fun c2 => ?_)
    · replace h := if_f c2 h
      refine g_iload_n (pc := 23) X 1 rfl dX12_cut_23 ?_
      refine g_iconst (v := 2) (pc := 24) X rfl dX12_cut_24 ?_
      refine g_icmp_ne (pc := 25) (tgt := 34) X dX12_cut_25 rfl (fun c1 => ?_) (fun c1 => ?_)
      · replace h := if_f c1 h
        refine g_lload_n (pc := 34) X 0 rfl dX12_cut_34 ?_
        cases h
        exact g_lret (pc := 35) X rfl (hr _ hA) dX12_cut_35
      · replace h := if_t c1 h
        refine g_lload_n (pc := 28) X 0 rfl dX12_cut_28 ?_
        refine g_l2i (pc := 29) X dX12_cut_29 ?_
        refine g_i2l (pc := 30) X dX12_cut_30 ?_
        refine g_goto (pc := 31) (tgt := 35) X dX12_cut_31 rfl ?_
        cases h
        exact g_lret (pc := 35) X rfl (hr _ hA) dX12_cut_35
    · replace h := if_t c2 h
      refine g_lload_n (pc := 16) X 0 rfl dX12_cut_16 ?_
      refine g_l2i (pc := 17) X dX12_cut_17 ?_
      refine g_i2s (pc := 18) X dX12_cut_18 ?_
      refine g_i2l (pc := 19) X dX12_cut_19 ?_
      refine g_goto (pc := 20) (tgt := 35) X dX12_cut_20 rfl ?_
      cases h
      exact g_lret (pc := 35) X rfl (hr _ hA) dX12_cut_35
  · replace h := if_t c3 h
    refine g_lload_n (pc := 4) X 0 rfl dX12_cut_4 ?_
    refine g_l2i (pc := 5) X dX12_cut_5 ?_
    refine g_i2b (pc := 6) X dX12_cut_6 ?_
    refine g_i2l (pc := 7) X dX12_cut_7 ?_
    refine g_goto (pc := 8) (tgt := 35) X dX12_cut_8 rfl ?_
    cases h
    exact g_lret (pc := 35) X rfl (hr _ hA) dX12_cut_35
set_option maxRecDepth 100000 in
theorem run_Mo_cut {V : Ev} {σ : St} {p0 : Int64} {p1 : Int32} {o : Int64}   (h : Mo_cut p0 p1 = some o) : Rs V 0 M_X12_cut [.long p0, .int p1] σ (some (.long o), σ) := by
  refine Rs.of (by decide +kernel) (Nat.le_of_ble_eq_true rfl) (fun Γ X => ?_)
  exact tm_Mo_cut X (A := fun o1 => o1 = o)  (fun _ e => by rw [e]) h rfl
theorem dX12_tray_0 : decode cX12_tray 0 = .ok (.iload_n 1, 1) := by decide +kernel
theorem dX12_tray_1 : decode cX12_tray 1 = .ok (.invokestatic 99, 3) := by decide +kernel
theorem dX12_tray_4 : decode cX12_tray 4 = .ok (.ifCond .eq 22, 3) := by decide +kernel
theorem dX12_tray_7 : decode cX12_tray 7 = .ok (.iload_n 2, 1) := by decide +kernel
theorem dX12_tray_8 : decode cX12_tray 8 = .ok (.ifCond .lt 18, 3) := by decide +kernel
theorem dX12_tray_11 : decode cX12_tray 11 = .ok (.iload_n 2, 1) := by decide +kernel
theorem dX12_tray_12 : decode cX12_tray 12 = .ok (.iconst 3, 1) := by decide +kernel
theorem dX12_tray_13 : decode cX12_tray 13 = .ok (.if_icmp .gt 13, 3) := by decide +kernel
theorem dX12_tray_16 : decode cX12_tray 16 = .ok (.iload_n 3, 1) := by decide +kernel
theorem dX12_tray_17 : decode cX12_tray 17 = .ok (.ifCond .lt 9, 3) := by decide +kernel
theorem dX12_tray_20 : decode cX12_tray 20 = .ok (.iload_n 3, 1) := by decide +kernel
theorem dX12_tray_21 : decode cX12_tray 21 = .ok (.bipush 60, 2) := by decide +kernel
theorem dX12_tray_23 : decode cX12_tray 23 = .ok (.if_icmp .le 9, 3) := by decide +kernel
theorem dX12_tray_26 : decode cX12_tray 26 = .ok (.aload_n 0, 1) := by decide +kernel
theorem dX12_tray_27 : decode cX12_tray 27 = .ok (.iconst 1, 1) := by decide +kernel
theorem dX12_tray_28 : decode cX12_tray 28 = .ok (.invokevirtual 95, 3) := by decide +kernel
theorem dX12_tray_31 : decode cX12_tray 31 = .ok (.ireturn, 1) := by decide +kernel
theorem dX12_tray_32 : decode cX12_tray 32 = .ok (.aload_n 0, 1) := by decide +kernel
theorem dX12_tray_33 : decode cX12_tray 33 = .ok (.getfield 21, 3) := by decide +kernel
theorem dX12_tray_36 : decode cX12_tray 36 = .ok (.iload_n 1, 1) := by decide +kernel
theorem dX12_tray_37 : decode cX12_tray 37 = .ok (.iload_n 2, 1) := by decide +kernel
theorem dX12_tray_38 : decode cX12_tray 38 = .ok (.iastore, 1) := by decide +kernel
theorem dX12_tray_39 : decode cX12_tray 39 = .ok (.aload_n 0, 1) := by decide +kernel
theorem dX12_tray_40 : decode cX12_tray 40 = .ok (.getfield 24, 3) := by decide +kernel
theorem dX12_tray_43 : decode cX12_tray 43 = .ok (.iload_n 1, 1) := by decide +kernel
theorem dX12_tray_44 : decode cX12_tray 44 = .ok (.iload_n 3, 1) := by decide +kernel
theorem dX12_tray_45 : decode cX12_tray 45 = .ok (.iastore, 1) := by decide +kernel
theorem dX12_tray_46 : decode cX12_tray 46 = .ok (.iconst 0, 1) := by decide +kernel
theorem dX12_tray_47 : decode cX12_tray 47 = .ok (.istore 4, 2) := by decide +kernel
theorem dX12_tray_49 : decode cX12_tray 49 = .ok (.iload 4, 2) := by decide +kernel
theorem dX12_tray_51 : decode cX12_tray 51 = .ok (.iload_n 3, 1) := by decide +kernel
theorem dX12_tray_52 : decode cX12_tray 52 = .ok (.if_icmp .ge 22, 3) := by decide +kernel
theorem dX12_tray_55 : decode cX12_tray 55 = .ok (.aload_n 0, 1) := by decide +kernel
theorem dX12_tray_56 : decode cX12_tray 56 = .ok (.getfield 27, 3) := by decide +kernel
theorem dX12_tray_59 : decode cX12_tray 59 = .ok (.bipush 60, 2) := by decide +kernel
theorem dX12_tray_61 : decode cX12_tray 61 = .ok (.iload_n 1, 1) := by decide +kernel
theorem dX12_tray_62 : decode cX12_tray 62 = .ok (.imul, 1) := by decide +kernel
theorem dX12_tray_63 : decode cX12_tray 63 = .ok (.iload 4, 2) := by decide +kernel
theorem dX12_tray_65 : decode cX12_tray 65 = .ok (.iadd, 1) := by decide +kernel
theorem dX12_tray_66 : decode cX12_tray 66 = .ok (.lconst 0, 1) := by decide +kernel
theorem dX12_tray_67 : decode cX12_tray 67 = .ok (.lastore, 1) := by decide +kernel
theorem dX12_tray_68 : decode cX12_tray 68 = .ok (.iinc 4 1, 3) := by decide +kernel
theorem dX12_tray_71 : decode cX12_tray 71 = .ok (.goto (-22), 3) := by decide +kernel
theorem dX12_tray_74 : decode cX12_tray 74 = .ok (.aload_n 0, 1) := by decide +kernel
theorem dX12_tray_75 : decode cX12_tray 75 = .ok (.iconst 0, 1) := by decide +kernel
theorem dX12_tray_76 : decode cX12_tray 76 = .ok (.invokevirtual 95, 3) := by decide +kernel
theorem dX12_tray_79 : decode cX12_tray 79 = .ok (.ireturn, 1) := by decide +kernel
noncomputable def Mo_tray_L49 (l1 : Int32) (l3 : Int32) (σ : St) (x4 : Int32) : Option ((Int32 × St) ⊕ St) :=
  if l3 ≤ x4 then (some (.inr σ)) else (chk (ix ((60 * l1) + x4) 240) (bnd (wL σ 97 (tn ((60 * l1) + x4)) 0) (fun σ24 => bnd (x4 + 1) (fun v25 => some (.inl (v25, σ24))))))
set_option maxRecDepth 100000 in
set_option maxHeartbeats 4000000 in
theorem tb_Mo_tray_L49 {V : Ev} {Γ : Cn} {fin : Option Value × St} {l1 : Int32} {l3 : Int32} {σ : St} {x4 : Int32} {o : ((Int32 × St) ⊕ St)} (X : Cx V Γ M_X12_tray) {A : ((Int32 × St) ⊕ St) → Prop}  (hb49 : ∀ (x4 : Int32) (σ9 : St), A (.inl (x4, σ9)) → Go V Γ M_X12_tray (Zm V Γ 1 fin) 49 [(0, .ref (V.2.2.1 + 92)), (1, .int l1), (3, .int l3), (4, .int x4)] [] σ9) (hx49 : ∀ (σ9 : St), A (.inr σ9) → Go V Γ M_X12_tray (Zm V Γ 1 fin) 74 [(0, .ref (V.2.2.1 + 92))] [] σ9) (h : Mo_tray_L49 l1 l3 σ x4 = some o) (hA : A o) : Go V Γ M_X12_tray (Zm V Γ 1 fin) 49 [(0, .ref (V.2.2.1 + 92)), (1, .int l1), (3, .int l3), (4, .int x4)] [] σ := by
  unfold Mo_tray_L49 at h
  refine g_iload (pc := 49) X 3 rfl dX12_tray_49 ?_
  refine g_iload_n (pc := 51) X 2 rfl dX12_tray_51 ?_
  refine g_icmp_ge (pc := 52) (tgt := 74) X dX12_tray_52 rfl (fun c26 => ?_) (fun c26 => ?_)
  · replace h := if_t c26 h
    refine g_sub [0] rfl ?_
    cases h
    exact hx49 _ hA
  · replace h := if_f c26 h
    refine g_aload_n (pc := 55) X 0 rfl dX12_tray_55 ?_
    refine g_getR (r := 97) (pc := 56) X k_fl_X12_27 s_92 rfl dX12_tray_56 ?_
    refine g_bipush (v := 60) (pc := 59) X (by decide) dX12_tray_59 ?_
    refine g_iload_n (pc := 61) X 1 rfl dX12_tray_61 ?_
    refine g_imul (pc := 62) X dX12_tray_62 ?_
    refine g_iload (pc := 63) X 3 rfl dX12_tray_63 ?_
    refine g_iadd (pc := 65) X dX12_tray_65 ?_
    refine g_lconst (v := 0) (pc := 66) X rfl dX12_tray_66 ?_
    obtain ⟨c23, h⟩ := chk_e h
    refine g_last (pc := 67) X s_97 c23 dX12_tray_67 ?_
    obtain ⟨σ24, e_σ24, h⟩ := bnd_e h
    refine g_nmS e_σ24 ?_
    obtain ⟨v25, e_v25, h⟩ := bnd_e h
    refine g_iinc (pc := 68) (v := v25) X [(4, .int v25), (0, .ref (V.2.2.1 + 92)), (1, .int l1), (3, .int l3)] 3 rfl (by rw [e_v25]; rfl) (Nat.le_of_ble_eq_true rfl) rfl dX12_tray_68 ?_
    refine g_goto (pc := 71) (tgt := 49) X dX12_tray_71 rfl ?_
    refine g_sub [1, 2, 3, 0] rfl ?_
    cases h
    exact hb49 _ _ hA
set_option maxRecDepth 100000 in
theorem tl_Mo_tray_L49 {V : Ev} {Γ : Cn} {fin : Option Value × St} {l1 : Int32} {l3 : Int32} {x4 : Int32} {σ9 : St} (X : Cx V Γ M_X12_tray)  {σ8 : St} {n : Nat} (h : iter (fun s : (Int32 × St) => Mo_tray_L49 l1 l3 s.2 s.1) n (x4, σ9) = some σ8) (hK : Go V Γ M_X12_tray (Zm V Γ 1 fin) 74 [(0, .ref (V.2.2.1 + 92))] [] σ8) : Go V Γ M_X12_tray (Zm V Γ 1 fin) 49 [(0, .ref (V.2.2.1 + 92)), (1, .int l1), (3, .int l3), (4, .int x4)] [] σ9 := by
  refine iter_go (G := (fun s : (Int32 × St) => Go V Γ M_X12_tray (Zm V Γ 1 fin) 49 [(0, .ref (V.2.2.1 + 92)), (1, .int l1), (3, .int l3), (4, .int s.1)] [] s.2)) (fun s o ho hS => ?_) n (x4, σ9) h
  exact tb_Mo_tray_L49 X  (fun _ _ h9 => h9) (fun _ he => by cases he; exact hK) ho hS
noncomputable def Mo_tray (σ : St) (p1 : Int32) (p2 : Int32) (p3 : Int32) : Option (Int32 × St) :=
  bd (Mo_isTray p1) (fun r2 => if r2 = 0 then (bd2 (Mo_is σ 1) (fun r4 σ5 => chk (ckz r4) (some (r4, σ5)))) else (if p2 < 0 then (bd2 (Mo_is σ 1) (fun r8 σ9 => chk (ckz r8) (some (r8, σ9)))) else (if 3 < p2 then (bd2 (Mo_is σ 1) (fun r12 σ13 => chk (ckz r12) (some (r12, σ13)))) else (if p3 < 0 then (bd2 (Mo_is σ 1) (fun r16 σ17 => chk (ckz r16) (some (r16, σ17)))) else (if p3 ≤ 60 then (chk (ix p1 4) (bnd (wI σ 95 (tn p1) p2) (fun σ20 => chk (ix p1 4) (bnd (wI σ20 96 (tn p1) p3) (fun σ22 => bd (iter (fun s : (Int32 × St) => Mo_tray_L49 p1 p3 s.2 s.1) FUEL (0, σ22)) (fun σ27 => bd2 (Mo_is σ27 0) (fun r30 σ31 => chk (ckz r30) (some (r30, σ31))))))))) else (bd2 (Mo_is σ 1) (fun r34 σ35 => chk (ckz r34) (some (r34, σ35)))))))))
set_option maxRecDepth 100000 in
set_option maxHeartbeats 4000000 in
theorem tm_Mo_tray {V : Ev} {Γ : Cn} {fin : Option Value × St} {σ : St} {p1 : Int32} {p2 : Int32} {p3 : Int32} {o : (Int32 × St)} (X : Cx V Γ M_X12_tray) {A : (Int32 × St) → Prop}  (hr : ∀ (r : Int32) (σ9 : St), A (r, σ9) → (some (.int r), σ9) = fin) (h : Mo_tray σ p1 p2 p3 = some o) (hA : A o) : Go V Γ M_X12_tray (Zm V Γ 1 fin) 0 [(0, .ref (V.2.2.1 + 92)), (1, .int p1), (2, .int p2), (3, .int p3)] [] σ := by
  unfold Mo_tray at h
  refine g_iload_n (pc := 0) X 1 rfl dX12_tray_0 ?_
  obtain ⟨r2, hc1, h⟩ := bd_e h
  refine g_callS (pc := 1) X k_ml_X12_99 (run_Mo_isTray  hc1) rfl (room_ok (Nat.le_of_ble_eq_true rfl) (Nat.le_of_ble_eq_true rfl)) ⟨Nat.le_refl _, Nat.le_refl _⟩ _ rfl (Nat.le_of_ble_eq_true rfl) dX12_tray_1 ?_
  show Go V Γ M_X12_tray (Zm V Γ 1 fin) 4 [(0, .ref (V.2.2.1 + 92)), (1, .int p1), (2, .int p2), (3, .int p3)] [.int r2] σ
  refine g_if_eq (pc := 4) (tgt := 26) X dX12_tray_4 rfl (fun c41 => ?_) (fun c41 => ?_)
  · replace h := if_t c41 h
    refine g_aload_n (pc := 26) X 0 rfl dX12_tray_26 ?_
    refine g_iconst (v := 1) (pc := 27) X rfl dX12_tray_27 ?_
    obtain ⟨r4, σ5, hc3, h⟩ := bd2_e h
    refine g_callV (pc := 28) X k_ml_X12_95 (run_Mo_is  hc3) s_92 rfl (room_ok (Nat.le_of_ble_eq_true rfl) (Nat.le_of_ble_eq_true rfl)) ⟨Nat.le_refl _, Nat.le_refl _⟩ _ rfl (Nat.le_of_ble_eq_true rfl) dX12_tray_28 ?_
    show Go V Γ M_X12_tray (Zm V Γ 1 fin) 31 [(0, .ref (V.2.2.1 + 92)), (1, .int p1), (2, .int p2), (3, .int p3)] [.int r4] σ5
    obtain ⟨c6, h⟩ := chk_e h
    cases h
    exact g_iret (pc := 31) X rfl (ckz_e c6).1 (hr _ _ hA) dX12_tray_31
  · replace h := if_f c41 h
    refine g_iload_n (pc := 7) X 2 rfl dX12_tray_7 ?_
    refine g_if_lt (pc := 8) (tgt := 26) X dX12_tray_8 rfl (fun c40 => ?_) (fun c40 => ?_)
    · replace h := if_t c40 h
      refine g_aload_n (pc := 26) X 0 rfl dX12_tray_26 ?_
      refine g_iconst (v := 1) (pc := 27) X rfl dX12_tray_27 ?_
      obtain ⟨r8, σ9, hc7, h⟩ := bd2_e h
      refine g_callV (pc := 28) X k_ml_X12_95 (run_Mo_is  hc7) s_92 rfl (room_ok (Nat.le_of_ble_eq_true rfl) (Nat.le_of_ble_eq_true rfl)) ⟨Nat.le_refl _, Nat.le_refl _⟩ _ rfl (Nat.le_of_ble_eq_true rfl) dX12_tray_28 ?_
      show Go V Γ M_X12_tray (Zm V Γ 1 fin) 31 [(0, .ref (V.2.2.1 + 92)), (1, .int p1), (2, .int p2), (3, .int p3)] [.int r8] σ9
      obtain ⟨c10, h⟩ := chk_e h
      cases h
      exact g_iret (pc := 31) X rfl (ckz_e c10).1 (hr _ _ hA) dX12_tray_31
    · replace h := if_f c40 h
      refine g_iload_n (pc := 11) X 2 rfl dX12_tray_11 ?_
      refine g_iconst (v := 3) (pc := 12) X rfl dX12_tray_12 ?_
      refine g_icmp_gt (pc := 13) (tgt := 26) X dX12_tray_13 rfl (fun c39 => ?_) (fun c39 => ?_)
      · replace h := if_t c39 h
        refine g_aload_n (pc := 26) X 0 rfl dX12_tray_26 ?_
        refine g_iconst (v := 1) (pc := 27) X rfl dX12_tray_27 ?_
        obtain ⟨r12, σ13, hc11, h⟩ := bd2_e h
        refine g_callV (pc := 28) X k_ml_X12_95 (run_Mo_is  hc11) s_92 rfl (room_ok (Nat.le_of_ble_eq_true rfl) (Nat.le_of_ble_eq_true rfl)) ⟨Nat.le_refl _, Nat.le_refl _⟩ _ rfl (Nat.le_of_ble_eq_true rfl) dX12_tray_28 ?_
        show Go V Γ M_X12_tray (Zm V Γ 1 fin) 31 [(0, .ref (V.2.2.1 + 92)), (1, .int p1), (2, .int p2), (3, .int p3)] [.int r12] σ13
        obtain ⟨c14, h⟩ := chk_e h
        cases h
        exact g_iret (pc := 31) X rfl (ckz_e c14).1 (hr _ _ hA) dX12_tray_31
      · replace h := if_f c39 h
        refine g_iload_n (pc := 16) X 3 rfl dX12_tray_16 ?_
        refine g_if_lt (pc := 17) (tgt := 26) X dX12_tray_17 rfl (fun c38 => ?_) (fun c38 => ?_)
        · replace h := if_t c38 h
          refine g_aload_n (pc := 26) X 0 rfl dX12_tray_26 ?_
          refine g_iconst (v := 1) (pc := 27) X rfl dX12_tray_27 ?_
          obtain ⟨r16, σ17, hc15, h⟩ := bd2_e h
          refine g_callV (pc := 28) X k_ml_X12_95 (run_Mo_is  hc15) s_92 rfl (room_ok (Nat.le_of_ble_eq_true rfl) (Nat.le_of_ble_eq_true rfl)) ⟨Nat.le_refl _, Nat.le_refl _⟩ _ rfl (Nat.le_of_ble_eq_true rfl) dX12_tray_28 ?_
          show Go V Γ M_X12_tray (Zm V Γ 1 fin) 31 [(0, .ref (V.2.2.1 + 92)), (1, .int p1), (2, .int p2), (3, .int p3)] [.int r16] σ17
          obtain ⟨c18, h⟩ := chk_e h
          cases h
          exact g_iret (pc := 31) X rfl (ckz_e c18).1 (hr _ _ hA) dX12_tray_31
        · replace h := if_f c38 h
          refine g_iload_n (pc := 20) X 3 rfl dX12_tray_20 ?_
          refine g_bipush (v := 60) (pc := 21) X (by decide) dX12_tray_21 ?_
          refine g_icmp_le (pc := 23) (tgt := 32) X dX12_tray_23 rfl (fun c37 => ?_) (fun c37 => ?_)
          · replace h := if_t c37 h
            refine g_aload_n (pc := 32) X 0 rfl dX12_tray_32 ?_
            refine g_getR (r := 95) (pc := 33) X k_fl_X12_21 s_92 rfl dX12_tray_33 ?_
            refine g_iload_n (pc := 36) X 1 rfl dX12_tray_36 ?_
            refine g_iload_n (pc := 37) X 2 rfl dX12_tray_37 ?_
            obtain ⟨c19, h⟩ := chk_e h
            refine g_iast (pc := 38) X s_95 c19 dX12_tray_38 ?_
            obtain ⟨σ20, e_σ20, h⟩ := bnd_e h
            refine g_nmS e_σ20 ?_
            refine g_aload_n (pc := 39) X 0 rfl dX12_tray_39 ?_
            refine g_getR (r := 96) (pc := 40) X k_fl_X12_24 s_92 rfl dX12_tray_40 ?_
            refine g_iload_n (pc := 43) X 1 rfl dX12_tray_43 ?_
            refine g_iload_n (pc := 44) X 3 rfl dX12_tray_44 ?_
            obtain ⟨c21, h⟩ := chk_e h
            refine g_iast (pc := 45) X s_96 c21 dX12_tray_45 ?_
            obtain ⟨σ22, e_σ22, h⟩ := bnd_e h
            refine g_nmS e_σ22 ?_
            refine g_iconst (v := 0) (pc := 46) X rfl dX12_tray_46 ?_
            refine g_istore (pc := 47) X [(4, .int 0), (0, .ref (V.2.2.1 + 92)), (1, .int p1), (2, .int p2), (3, .int p3)] (Nat.le_of_ble_eq_true rfl) rfl dX12_tray_47 ?_
            refine g_sub [1, 2, 4, 0] rfl ?_
            obtain ⟨σ27, hi28, h⟩ := bd_e h
            refine tl_Mo_tray_L49 X  hi28 ?_
            refine g_aload_n (pc := 74) X 0 rfl dX12_tray_74 ?_
            refine g_iconst (v := 0) (pc := 75) X rfl dX12_tray_75 ?_
            obtain ⟨r30, σ31, hc29, h⟩ := bd2_e h
            refine g_callV (pc := 76) X k_ml_X12_95 (run_Mo_is  hc29) s_92 rfl (room_ok (Nat.le_of_ble_eq_true rfl) (Nat.le_of_ble_eq_true rfl)) ⟨Nat.le_refl _, Nat.le_refl _⟩ _ rfl (Nat.le_of_ble_eq_true rfl) dX12_tray_76 ?_
            show Go V Γ M_X12_tray (Zm V Γ 1 fin) 79 [(0, .ref (V.2.2.1 + 92))] [.int r30] σ31
            obtain ⟨c32, h⟩ := chk_e h
            cases h
            exact g_iret (pc := 79) X rfl (ckz_e c32).1 (hr _ _ hA) dX12_tray_79
          · replace h := if_f c37 h
            refine g_aload_n (pc := 26) X 0 rfl dX12_tray_26 ?_
            refine g_iconst (v := 1) (pc := 27) X rfl dX12_tray_27 ?_
            obtain ⟨r34, σ35, hc33, h⟩ := bd2_e h
            refine g_callV (pc := 28) X k_ml_X12_95 (run_Mo_is  hc33) s_92 rfl (room_ok (Nat.le_of_ble_eq_true rfl) (Nat.le_of_ble_eq_true rfl)) ⟨Nat.le_refl _, Nat.le_refl _⟩ _ rfl (Nat.le_of_ble_eq_true rfl) dX12_tray_28 ?_
            show Go V Γ M_X12_tray (Zm V Γ 1 fin) 31 [(0, .ref (V.2.2.1 + 92)), (1, .int p1), (2, .int p2), (3, .int p3)] [.int r34] σ35
            obtain ⟨c36, h⟩ := chk_e h
            cases h
            exact g_iret (pc := 31) X rfl (ckz_e c36).1 (hr _ _ hA) dX12_tray_31
set_option maxRecDepth 100000 in
theorem run_Mo_tray {V : Ev} {σ : St} {p1 : Int32} {p2 : Int32} {p3 : Int32} {o : (Int32 × St)}   (h : Mo_tray σ p1 p2 p3 = some o) : Rs V 1 M_X12_tray [.ref (V.2.2.1 + 92), .int p1, .int p2, .int p3] σ (some (.int o.1), o.2) := by
  refine Rs.of (by decide +kernel) (Nat.le_of_ble_eq_true rfl) (fun Γ X => ?_)
  exact tm_Mo_tray X (A := fun o1 => o1 = o)  (fun _ _ e => by rw [← e]) h rfl
theorem dX12_wrongPlace_0 : decode cX12_wrongPlace 0 = .ok (.iload_n 1, 1) := by decide +kernel
theorem dX12_wrongPlace_1 : decode cX12_wrongPlace 1 = .ok (.invokestatic 99, 3) := by decide +kernel
theorem dX12_wrongPlace_4 : decode cX12_wrongPlace 4 = .ok (.ifCond .ne 7, 3) := by decide +kernel
theorem dX12_wrongPlace_7 : decode cX12_wrongPlace 7 = .ok (.iconst 1, 1) := by decide +kernel
theorem dX12_wrongPlace_8 : decode cX12_wrongPlace 8 = .ok (.goto 36, 3) := by decide +kernel
theorem dX12_wrongPlace_11 : decode cX12_wrongPlace 11 = .ok (.aload_n 0, 1) := by decide +kernel
theorem dX12_wrongPlace_12 : decode cX12_wrongPlace 12 = .ok (.getfield 24, 3) := by decide +kernel
theorem dX12_wrongPlace_15 : decode cX12_wrongPlace 15 = .ok (.iload_n 1, 1) := by decide +kernel
theorem dX12_wrongPlace_16 : decode cX12_wrongPlace 16 = .ok (.iaload, 1) := by decide +kernel
theorem dX12_wrongPlace_17 : decode cX12_wrongPlace 17 = .ok (.iconst (-1), 1) := by decide +kernel
theorem dX12_wrongPlace_18 : decode cX12_wrongPlace 18 = .ok (.if_icmp .ne 7, 3) := by decide +kernel
theorem dX12_wrongPlace_21 : decode cX12_wrongPlace 21 = .ok (.iconst 2, 1) := by decide +kernel
theorem dX12_wrongPlace_22 : decode cX12_wrongPlace 22 = .ok (.goto 22, 3) := by decide +kernel
theorem dX12_wrongPlace_25 : decode cX12_wrongPlace 25 = .ok (.iload_n 2, 1) := by decide +kernel
theorem dX12_wrongPlace_26 : decode cX12_wrongPlace 26 = .ok (.ifCond .lt 13, 3) := by decide +kernel
theorem dX12_wrongPlace_29 : decode cX12_wrongPlace 29 = .ok (.iload_n 2, 1) := by decide +kernel
theorem dX12_wrongPlace_30 : decode cX12_wrongPlace 30 = .ok (.aload_n 0, 1) := by decide +kernel
theorem dX12_wrongPlace_31 : decode cX12_wrongPlace 31 = .ok (.getfield 24, 3) := by decide +kernel
theorem dX12_wrongPlace_34 : decode cX12_wrongPlace 34 = .ok (.iload_n 1, 1) := by decide +kernel
theorem dX12_wrongPlace_35 : decode cX12_wrongPlace 35 = .ok (.iaload, 1) := by decide +kernel
theorem dX12_wrongPlace_36 : decode cX12_wrongPlace 36 = .ok (.if_icmp .lt 7, 3) := by decide +kernel
theorem dX12_wrongPlace_39 : decode cX12_wrongPlace 39 = .ok (.iconst 3, 1) := by decide +kernel
theorem dX12_wrongPlace_40 : decode cX12_wrongPlace 40 = .ok (.goto 4, 3) := by decide +kernel
theorem dX12_wrongPlace_43 : decode cX12_wrongPlace 43 = .ok (.iconst 0, 1) := by decide +kernel
theorem dX12_wrongPlace_44 : decode cX12_wrongPlace 44 = .ok (.ireturn, 1) := by decide +kernel
noncomputable def Mo_wrongPlace (σ : St) (p1 : Int32) (p2 : Int32) : Option Int32 :=
  bd (Mo_isTray p1) (fun r2 => if r2 = 0 then (some 1) else (chk (ix p1 4) (if (σ.1 96 (tn p1)) = (-1) then (some 2) else (if p2 < 0 then (some 3) else (chk (ix p1 4) (if p2 < (σ.1 96 (tn p1)) then (some 0) else (some 3)))))))
set_option maxRecDepth 100000 in
set_option maxHeartbeats 4000000 in
theorem tm_Mo_wrongPlace {V : Ev} {Γ : Cn} {fin : Option Value × St} {σ : St} {p1 : Int32} {p2 : Int32} {o : Int32} (X : Cx V Γ M_X12_wrongPlace) {A : Int32 → Prop}  (hr : ∀ (r : Int32), A r → (some (.int r), σ) = fin) (h : Mo_wrongPlace σ p1 p2 = some o) (hA : A o) : Go V Γ M_X12_wrongPlace (Zm V Γ 1 fin) 0 [(0, .ref (V.2.2.1 + 92)), (1, .int p1), (2, .int p2)] [] σ := by
  unfold Mo_wrongPlace at h
  refine g_iload_n (pc := 0) X 1 rfl dX12_wrongPlace_0 ?_
  obtain ⟨r2, hc1, h⟩ := bd_e h
  refine g_callS (pc := 1) X k_ml_X12_99 (run_Mo_isTray  hc1) rfl (room_ok (Nat.le_of_ble_eq_true rfl) (Nat.le_of_ble_eq_true rfl)) ⟨Nat.le_refl _, Nat.le_refl _⟩ _ rfl (Nat.le_of_ble_eq_true rfl) dX12_wrongPlace_1 ?_
  show Go V Γ M_X12_wrongPlace (Zm V Γ 1 fin) 4 [(0, .ref (V.2.2.1 + 92)), (1, .int p1), (2, .int p2)] [.int r2] σ
  refine g_if_ne (pc := 4) (tgt := 11) X dX12_wrongPlace_4 rfl (fun c8 => ?_) (fun c8 => ?_)
  · replace h := if_f c8 h
    refine g_aload_n (pc := 11) X 0 rfl dX12_wrongPlace_11 ?_
    refine g_getR (r := 96) (pc := 12) X k_fl_X12_24 s_92 rfl dX12_wrongPlace_12 ?_
    refine g_iload_n (pc := 15) X 1 rfl dX12_wrongPlace_15 ?_
    obtain ⟨c3, h⟩ := chk_e h
    refine g_iald (pc := 16) X s_96 c3 dX12_wrongPlace_16 ?_
    refine g_iconst (v := (-1)) (pc := 17) X rfl dX12_wrongPlace_17 ?_
    refine g_icmp_ne (pc := 18) (tgt := 25) X dX12_wrongPlace_18 rfl (fun c7 => ?_) (fun c7 => ?_)
    · replace h := if_f c7 h
      refine g_iload_n (pc := 25) X 2 rfl dX12_wrongPlace_25 ?_
      refine g_if_lt (pc := 26) (tgt := 39) X dX12_wrongPlace_26 rfl (fun c6 => ?_) (fun c6 => ?_)
      · replace h := if_t c6 h
        refine g_iconst (v := 3) (pc := 39) X rfl dX12_wrongPlace_39 ?_
        refine g_goto (pc := 40) (tgt := 44) X dX12_wrongPlace_40 rfl ?_
        cases h
        exact g_iret (pc := 44) X rfl rfl (hr _ hA) dX12_wrongPlace_44
      · replace h := if_f c6 h
        refine g_iload_n (pc := 29) X 2 rfl dX12_wrongPlace_29 ?_
        refine g_aload_n (pc := 30) X 0 rfl dX12_wrongPlace_30 ?_
        refine g_getR (r := 96) (pc := 31) X k_fl_X12_24 s_92 rfl dX12_wrongPlace_31 ?_
        refine g_iload_n (pc := 34) X 1 rfl dX12_wrongPlace_34 ?_
        obtain ⟨c4, h⟩ := chk_e h
        refine g_iald (pc := 35) X s_96 c4 dX12_wrongPlace_35 ?_
        refine g_icmp_lt (pc := 36) (tgt := 43) X dX12_wrongPlace_36 rfl (fun c5 => ?_) (fun c5 => ?_)
        · replace h := if_t c5 h
          refine g_iconst (v := 0) (pc := 43) X rfl dX12_wrongPlace_43 ?_
          cases h
          exact g_iret (pc := 44) X rfl rfl (hr _ hA) dX12_wrongPlace_44
        · replace h := if_f c5 h
          refine g_iconst (v := 3) (pc := 39) X rfl dX12_wrongPlace_39 ?_
          refine g_goto (pc := 40) (tgt := 44) X dX12_wrongPlace_40 rfl ?_
          cases h
          exact g_iret (pc := 44) X rfl rfl (hr _ hA) dX12_wrongPlace_44
    · replace h := if_t c7 h
      refine g_iconst (v := 2) (pc := 21) X rfl dX12_wrongPlace_21 ?_
      refine g_goto (pc := 22) (tgt := 44) X dX12_wrongPlace_22 rfl ?_
      cases h
      exact g_iret (pc := 44) X rfl rfl (hr _ hA) dX12_wrongPlace_44
  · replace h := if_t c8 h
    refine g_iconst (v := 1) (pc := 7) X rfl dX12_wrongPlace_7 ?_
    refine g_goto (pc := 8) (tgt := 44) X dX12_wrongPlace_8 rfl ?_
    cases h
    exact g_iret (pc := 44) X rfl rfl (hr _ hA) dX12_wrongPlace_44
set_option maxRecDepth 100000 in
theorem run_Mo_wrongPlace {V : Ev} {σ : St} {p1 : Int32} {p2 : Int32} {o : Int32}   (h : Mo_wrongPlace σ p1 p2 = some o) : Rs V 1 M_X12_wrongPlace [.ref (V.2.2.1 + 92), .int p1, .int p2] σ (some (.int o), σ) := by
  refine Rs.of (by decide +kernel) (Nat.le_of_ble_eq_true rfl) (fun Γ X => ?_)
  exact tm_Mo_wrongPlace X (A := fun o1 => o1 = o)  (fun _ e => by rw [e]) h rfl
theorem dX12_write_0 : decode cX12_write 0 = .ok (.aload_n 0, 1) := by decide +kernel
theorem dX12_write_1 : decode cX12_write 1 = .ok (.iload_n 1, 1) := by decide +kernel
theorem dX12_write_2 : decode cX12_write 2 = .ok (.iload_n 2, 1) := by decide +kernel
theorem dX12_write_3 : decode cX12_write 3 = .ok (.invokevirtual 102, 3) := by decide +kernel
theorem dX12_write_6 : decode cX12_write 6 = .ok (.istore 5, 2) := by decide +kernel
theorem dX12_write_8 : decode cX12_write 8 = .ok (.iload 5, 2) := by decide +kernel
theorem dX12_write_10 : decode cX12_write 10 = .ok (.ifCond .ne 24, 3) := by decide +kernel
theorem dX12_write_13 : decode cX12_write 13 = .ok (.aload_n 0, 1) := by decide +kernel
theorem dX12_write_14 : decode cX12_write 14 = .ok (.getfield 27, 3) := by decide +kernel
theorem dX12_write_17 : decode cX12_write 17 = .ok (.bipush 60, 2) := by decide +kernel
theorem dX12_write_19 : decode cX12_write 19 = .ok (.iload_n 1, 1) := by decide +kernel
theorem dX12_write_20 : decode cX12_write 20 = .ok (.imul, 1) := by decide +kernel
theorem dX12_write_21 : decode cX12_write 21 = .ok (.iload_n 2, 1) := by decide +kernel
theorem dX12_write_22 : decode cX12_write 22 = .ok (.iadd, 1) := by decide +kernel
theorem dX12_write_23 : decode cX12_write 23 = .ok (.lload_n 3, 1) := by decide +kernel
theorem dX12_write_24 : decode cX12_write 24 = .ok (.aload_n 0, 1) := by decide +kernel
theorem dX12_write_25 : decode cX12_write 25 = .ok (.getfield 21, 3) := by decide +kernel
theorem dX12_write_28 : decode cX12_write 28 = .ok (.iload_n 1, 1) := by decide +kernel
theorem dX12_write_29 : decode cX12_write 29 = .ok (.iaload, 1) := by decide +kernel
theorem dX12_write_30 : decode cX12_write 30 = .ok (.invokestatic 106, 3) := by decide +kernel
theorem dX12_write_33 : decode cX12_write 33 = .ok (.lastore, 1) := by decide +kernel
theorem dX12_write_34 : decode cX12_write 34 = .ok (.aload_n 0, 1) := by decide +kernel
theorem dX12_write_35 : decode cX12_write 35 = .ok (.iload 5, 2) := by decide +kernel
theorem dX12_write_37 : decode cX12_write 37 = .ok (.invokevirtual 95, 3) := by decide +kernel
theorem dX12_write_40 : decode cX12_write 40 = .ok (.ireturn, 1) := by decide +kernel
noncomputable def Mo_write (σ : St) (p1 : Int32) (p2 : Int32) (p3 : Int64) : Option (Int32 × St) :=
  bd (Mo_wrongPlace σ p1 p2) (fun r2 => if r2 = 0 then (chk (ix p1 4) (bd (Mo_cut p3 (σ.1 95 (tn p1))) (fun r9 => chk (ix ((60 * p1) + p2) 240) (bnd (wL σ 97 (tn ((60 * p1) + p2)) r9) (fun σ11 => bd2 (Mo_is σ11 r2) (fun r13 σ14 => chk (ckz r13) (some (r13, σ14)))))))) else (bd2 (Mo_is σ r2) (fun r4 σ5 => chk (ckz r4) (some (r4, σ5)))))
set_option maxRecDepth 100000 in
set_option maxHeartbeats 4000000 in
theorem tm_Mo_write {V : Ev} {Γ : Cn} {fin : Option Value × St} {σ : St} {p1 : Int32} {p2 : Int32} {p3 : Int64} {o : (Int32 × St)} (X : Cx V Γ M_X12_write) {A : (Int32 × St) → Prop}  (hr : ∀ (r : Int32) (σ9 : St), A (r, σ9) → (some (.int r), σ9) = fin) (h : Mo_write σ p1 p2 p3 = some o) (hA : A o) : Go V Γ M_X12_write (Zm V Γ 2 fin) 0 [(0, .ref (V.2.2.1 + 92)), (1, .int p1), (2, .int p2), (3, .long p3)] [] σ := by
  unfold Mo_write at h
  refine g_aload_n (pc := 0) X 0 rfl dX12_write_0 ?_
  refine g_iload_n (pc := 1) X 1 rfl dX12_write_1 ?_
  refine g_iload_n (pc := 2) X 2 rfl dX12_write_2 ?_
  obtain ⟨r2, hc1, h⟩ := bd_e h
  refine g_callV (pc := 3) X k_ml_X12_102 (run_Mo_wrongPlace  hc1) s_92 rfl (room_ok (Nat.le_of_ble_eq_true rfl) (Nat.le_of_ble_eq_true rfl)) ⟨Nat.le_refl _, Nat.le_refl _⟩ _ rfl (Nat.le_of_ble_eq_true rfl) dX12_write_3 ?_
  show Go V Γ M_X12_write (Zm V Γ 2 fin) 6 [(0, .ref (V.2.2.1 + 92)), (1, .int p1), (2, .int p2), (3, .long p3)] [.int r2] σ
  refine g_istore (pc := 6) X [(5, .int r2), (0, .ref (V.2.2.1 + 92)), (1, .int p1), (2, .int p2), (3, .long p3)] (Nat.le_of_ble_eq_true rfl) rfl dX12_write_6 ?_
  refine g_iload (pc := 8) X 0 rfl dX12_write_8 ?_
  refine g_if_ne (pc := 10) (tgt := 34) X dX12_write_10 rfl (fun c16 => ?_) (fun c16 => ?_)
  · replace h := if_f c16 h
    refine g_aload_n (pc := 34) X 1 rfl dX12_write_34 ?_
    refine g_iload (pc := 35) X 0 rfl dX12_write_35 ?_
    obtain ⟨r4, σ5, hc3, h⟩ := bd2_e h
    refine g_callV (pc := 37) X k_ml_X12_95 (run_Mo_is  hc3) s_92 rfl (room_ok (Nat.le_of_ble_eq_true rfl) (Nat.le_of_ble_eq_true rfl)) ⟨Nat.le_refl _, Nat.le_refl _⟩ _ rfl (Nat.le_of_ble_eq_true rfl) dX12_write_37 ?_
    show Go V Γ M_X12_write (Zm V Γ 2 fin) 40 [(5, .int r2), (0, .ref (V.2.2.1 + 92)), (1, .int p1), (2, .int p2), (3, .long p3)] [.int r4] σ5
    obtain ⟨c6, h⟩ := chk_e h
    cases h
    exact g_iret (pc := 40) X rfl (ckz_e c6).1 (hr _ _ hA) dX12_write_40
  · replace h := if_t c16 h
    refine g_aload_n (pc := 13) X 1 rfl dX12_write_13 ?_
    refine g_getR (r := 97) (pc := 14) X k_fl_X12_27 s_92 rfl dX12_write_14 ?_
    refine g_bipush (v := 60) (pc := 17) X (by decide) dX12_write_17 ?_
    refine g_iload_n (pc := 19) X 2 rfl dX12_write_19 ?_
    refine g_imul (pc := 20) X dX12_write_20 ?_
    refine g_iload_n (pc := 21) X 3 rfl dX12_write_21 ?_
    refine g_iadd (pc := 22) X dX12_write_22 ?_
    refine g_lload_n (pc := 23) X 4 rfl dX12_write_23 ?_
    refine g_aload_n (pc := 24) X 1 rfl dX12_write_24 ?_
    refine g_getR (r := 95) (pc := 25) X k_fl_X12_21 s_92 rfl dX12_write_25 ?_
    refine g_iload_n (pc := 28) X 2 rfl dX12_write_28 ?_
    obtain ⟨c7, h⟩ := chk_e h
    refine g_iald (pc := 29) X s_95 c7 dX12_write_29 ?_
    obtain ⟨r9, hc8, h⟩ := bd_e h
    refine g_callS (pc := 30) X k_ml_X12_106 (run_Mo_cut  hc8) rfl (room_ok (Nat.le_of_ble_eq_true rfl) (Nat.le_of_ble_eq_true rfl)) ⟨Nat.le_refl _, Nat.le_refl _⟩ _ rfl (Nat.le_of_ble_eq_true rfl) dX12_write_30 ?_
    show Go V Γ M_X12_write (Zm V Γ 2 fin) 33 [(5, .int r2), (0, .ref (V.2.2.1 + 92)), (1, .int p1), (2, .int p2), (3, .long p3)] [.long r9, .int ((60 * p1) + p2), .ref (V.2.2.1 + 97)] σ
    obtain ⟨c10, h⟩ := chk_e h
    refine g_last (pc := 33) X s_97 c10 dX12_write_33 ?_
    obtain ⟨σ11, e_σ11, h⟩ := bnd_e h
    refine g_nmS e_σ11 ?_
    refine g_aload_n (pc := 34) X 1 rfl dX12_write_34 ?_
    refine g_iload (pc := 35) X 0 rfl dX12_write_35 ?_
    obtain ⟨r13, σ14, hc12, h⟩ := bd2_e h
    refine g_callV (pc := 37) X k_ml_X12_95 (run_Mo_is  hc12) s_92 rfl (room_ok (Nat.le_of_ble_eq_true rfl) (Nat.le_of_ble_eq_true rfl)) ⟨Nat.le_refl _, Nat.le_refl _⟩ _ rfl (Nat.le_of_ble_eq_true rfl) dX12_write_37 ?_
    show Go V Γ M_X12_write (Zm V Γ 2 fin) 40 [(5, .int r2), (0, .ref (V.2.2.1 + 92)), (1, .int p1), (2, .int p2), (3, .long p3)] [.int r13] σ14
    obtain ⟨c15, h⟩ := chk_e h
    cases h
    exact g_iret (pc := 40) X rfl (ckz_e c15).1 (hr _ _ hA) dX12_write_40
set_option maxRecDepth 100000 in
theorem run_Mo_write {V : Ev} {σ : St} {p1 : Int32} {p2 : Int32} {p3 : Int64} {o : (Int32 × St)}   (h : Mo_write σ p1 p2 p3 = some o) : Rs V 2 M_X12_write [.ref (V.2.2.1 + 92), .int p1, .int p2, .long p3] σ (some (.int o.1), o.2) := by
  refine Rs.of (by decide +kernel) (Nat.le_of_ble_eq_true rfl) (fun Γ X => ?_)
  exact tm_Mo_write X (A := fun o1 => o1 = o)  (fun _ _ e => by rw [← e]) h rfl
theorem dX12_read_0 : decode cX12_read 0 = .ok (.aload_n 0, 1) := by decide +kernel
theorem dX12_read_1 : decode cX12_read 1 = .ok (.aload_n 0, 1) := by decide +kernel
theorem dX12_read_2 : decode cX12_read 2 = .ok (.iload_n 1, 1) := by decide +kernel
theorem dX12_read_3 : decode cX12_read 3 = .ok (.iload_n 2, 1) := by decide +kernel
theorem dX12_read_4 : decode cX12_read 4 = .ok (.invokevirtual 102, 3) := by decide +kernel
theorem dX12_read_7 : decode cX12_read 7 = .ok (.putfield 82, 3) := by decide +kernel
theorem dX12_read_10 : decode cX12_read 10 = .ok (.aload_n 0, 1) := by decide +kernel
theorem dX12_read_11 : decode cX12_read 11 = .ok (.getfield 82, 3) := by decide +kernel
theorem dX12_read_14 : decode cX12_read 14 = .ok (.ifCond .le 9, 3) := by decide +kernel
theorem dX12_read_17 : decode cX12_read 17 = .ok (.ldc2_w 110, 3) := by decide +kernel
theorem dX12_read_20 : decode cX12_read 20 = .ok (.goto 14, 3) := by decide +kernel
theorem dX12_read_23 : decode cX12_read 23 = .ok (.aload_n 0, 1) := by decide +kernel
theorem dX12_read_24 : decode cX12_read 24 = .ok (.getfield 27, 3) := by decide +kernel
theorem dX12_read_27 : decode cX12_read 27 = .ok (.bipush 60, 2) := by decide +kernel
theorem dX12_read_29 : decode cX12_read 29 = .ok (.iload_n 1, 1) := by decide +kernel
theorem dX12_read_30 : decode cX12_read 30 = .ok (.imul, 1) := by decide +kernel
theorem dX12_read_31 : decode cX12_read 31 = .ok (.iload_n 2, 1) := by decide +kernel
theorem dX12_read_32 : decode cX12_read 32 = .ok (.iadd, 1) := by decide +kernel
theorem dX12_read_33 : decode cX12_read 33 = .ok (.laload, 1) := by decide +kernel
theorem dX12_read_34 : decode cX12_read 34 = .ok (.lreturn, 1) := by decide +kernel
noncomputable def Mo_read (σ : St) (p1 : Int32) (p2 : Int32) : Option (Int64 × St) :=
  bd (Mo_wrongPlace σ p1 p2) (fun r2 => bnd (wI σ 92 2 r2) (fun σ3 => if (σ3.1 92 2) ≤ 0 then (chk (ix ((60 * p1) + p2) 240) (some ((σ3.2 97 (tn ((60 * p1) + p2))), σ3))) else (some ((-1), σ3))))
set_option maxRecDepth 100000 in
set_option maxHeartbeats 4000000 in
theorem tm_Mo_read {V : Ev} {Γ : Cn} {fin : Option Value × St} {σ : St} {p1 : Int32} {p2 : Int32} {o : (Int64 × St)} (X : Cx V Γ M_X12_read) {A : (Int64 × St) → Prop}  (hr : ∀ (r : Int64) (σ9 : St), A (r, σ9) → (some (.long r), σ9) = fin) (h : Mo_read σ p1 p2 = some o) (hA : A o) : Go V Γ M_X12_read (Zm V Γ 2 fin) 0 [(0, .ref (V.2.2.1 + 92)), (1, .int p1), (2, .int p2)] [] σ := by
  unfold Mo_read at h
  refine g_aload_n (pc := 0) X 0 rfl dX12_read_0 ?_
  refine g_aload_n (pc := 1) X 0 rfl dX12_read_1 ?_
  refine g_iload_n (pc := 2) X 1 rfl dX12_read_2 ?_
  refine g_iload_n (pc := 3) X 2 rfl dX12_read_3 ?_
  obtain ⟨r2, hc1, h⟩ := bd_e h
  refine g_callV (pc := 4) X k_ml_X12_102 (run_Mo_wrongPlace  hc1) s_92 rfl (room_ok (Nat.le_of_ble_eq_true rfl) (Nat.le_of_ble_eq_true rfl)) ⟨Nat.le_refl _, Nat.le_refl _⟩ _ rfl (Nat.le_of_ble_eq_true rfl) dX12_read_4 ?_
  show Go V Γ M_X12_read (Zm V Γ 2 fin) 7 [(0, .ref (V.2.2.1 + 92)), (1, .int p1), (2, .int p2)] [.int r2, .ref (V.2.2.1 + 92)] σ
  refine g_putI (pc := 7) X k_fl_X12_82 s_92 rfl rfl rfl dX12_read_7 ?_
  obtain ⟨σ3, e_σ3, h⟩ := bnd_e h
  refine g_nmS e_σ3 ?_
  refine g_aload_n (pc := 10) X 0 rfl dX12_read_10 ?_
  refine g_getI (pc := 11) X k_fl_X12_82 s_92 rfl dX12_read_11 ?_
  refine g_if_le (pc := 14) (tgt := 23) X dX12_read_14 rfl (fun c5 => ?_) (fun c5 => ?_)
  · replace h := if_t c5 h
    refine g_aload_n (pc := 23) X 0 rfl dX12_read_23 ?_
    refine g_getR (r := 97) (pc := 24) X k_fl_X12_27 s_92 rfl dX12_read_24 ?_
    refine g_bipush (v := 60) (pc := 27) X (by decide) dX12_read_27 ?_
    refine g_iload_n (pc := 29) X 1 rfl dX12_read_29 ?_
    refine g_imul (pc := 30) X dX12_read_30 ?_
    refine g_iload_n (pc := 31) X 2 rfl dX12_read_31 ?_
    refine g_iadd (pc := 32) X dX12_read_32 ?_
    obtain ⟨c4, h⟩ := chk_e h
    refine g_lald (pc := 33) X s_97 c4 dX12_read_33 ?_
    cases h
    exact g_lret (pc := 34) X rfl (hr _ _ hA) dX12_read_34
  · replace h := if_f c5 h
    refine g_ldc2 (v := (-1)) (pc := 17) X k_constl_X12_110 dX12_read_17 ?_
    refine g_goto (pc := 20) (tgt := 34) X dX12_read_20 rfl ?_
    cases h
    exact g_lret (pc := 34) X rfl (hr _ _ hA) dX12_read_34
set_option maxRecDepth 100000 in
theorem run_Mo_read {V : Ev} {σ : St} {p1 : Int32} {p2 : Int32} {o : (Int64 × St)}   (h : Mo_read σ p1 p2 = some o) : Rs V 2 M_X12_read [.ref (V.2.2.1 + 92), .int p1, .int p2] σ (some (.long o.1), o.2) := by
  refine Rs.of (by decide +kernel) (Nat.le_of_ble_eq_true rfl) (fun Γ X => ?_)
  exact tm_Mo_read X (A := fun o1 => o1 = o)  (fun _ _ e => by rw [← e]) h rfl
theorem dX12_pour_0 : decode cX12_pour 0 = .ok (.iload_n 1, 1) := by decide +kernel
theorem dX12_pour_1 : decode cX12_pour 1 = .ok (.invokestatic 99, 3) := by decide +kernel
theorem dX12_pour_4 : decode cX12_pour 4 = .ok (.ifCond .eq 24, 3) := by decide +kernel
theorem dX12_pour_7 : decode cX12_pour 7 = .ok (.iload_n 3, 1) := by decide +kernel
theorem dX12_pour_8 : decode cX12_pour 8 = .ok (.invokestatic 99, 3) := by decide +kernel
theorem dX12_pour_11 : decode cX12_pour 11 = .ok (.ifCond .eq 17, 3) := by decide +kernel
theorem dX12_pour_14 : decode cX12_pour 14 = .ok (.iload_n 2, 1) := by decide +kernel
theorem dX12_pour_15 : decode cX12_pour 15 = .ok (.ifCond .lt 13, 3) := by decide +kernel
theorem dX12_pour_18 : decode cX12_pour 18 = .ok (.iload 4, 2) := by decide +kernel
theorem dX12_pour_20 : decode cX12_pour 20 = .ok (.ifCond .lt 8, 3) := by decide +kernel
theorem dX12_pour_23 : decode cX12_pour 23 = .ok (.iload 5, 2) := by decide +kernel
theorem dX12_pour_25 : decode cX12_pour 25 = .ok (.ifCond .ge 9, 3) := by decide +kernel
theorem dX12_pour_28 : decode cX12_pour 28 = .ok (.aload_n 0, 1) := by decide +kernel
theorem dX12_pour_29 : decode cX12_pour 29 = .ok (.iconst 1, 1) := by decide +kernel
theorem dX12_pour_30 : decode cX12_pour 30 = .ok (.invokevirtual 95, 3) := by decide +kernel
theorem dX12_pour_33 : decode cX12_pour 33 = .ok (.ireturn, 1) := by decide +kernel
theorem dX12_pour_34 : decode cX12_pour 34 = .ok (.aload_n 0, 1) := by decide +kernel
theorem dX12_pour_35 : decode cX12_pour 35 = .ok (.getfield 24, 3) := by decide +kernel
theorem dX12_pour_38 : decode cX12_pour 38 = .ok (.iload_n 1, 1) := by decide +kernel
theorem dX12_pour_39 : decode cX12_pour 39 = .ok (.iaload, 1) := by decide +kernel
theorem dX12_pour_40 : decode cX12_pour 40 = .ok (.iconst (-1), 1) := by decide +kernel
theorem dX12_pour_41 : decode cX12_pour 41 = .ok (.if_icmp .eq 13, 3) := by decide +kernel
theorem dX12_pour_44 : decode cX12_pour 44 = .ok (.aload_n 0, 1) := by decide +kernel
theorem dX12_pour_45 : decode cX12_pour 45 = .ok (.getfield 24, 3) := by decide +kernel
theorem dX12_pour_48 : decode cX12_pour 48 = .ok (.iload_n 3, 1) := by decide +kernel
theorem dX12_pour_49 : decode cX12_pour 49 = .ok (.iaload, 1) := by decide +kernel
theorem dX12_pour_50 : decode cX12_pour 50 = .ok (.iconst (-1), 1) := by decide +kernel
theorem dX12_pour_51 : decode cX12_pour 51 = .ok (.if_icmp .ne 9, 3) := by decide +kernel
theorem dX12_pour_54 : decode cX12_pour 54 = .ok (.aload_n 0, 1) := by decide +kernel
theorem dX12_pour_55 : decode cX12_pour 55 = .ok (.iconst 2, 1) := by decide +kernel
theorem dX12_pour_56 : decode cX12_pour 56 = .ok (.invokevirtual 95, 3) := by decide +kernel
theorem dX12_pour_59 : decode cX12_pour 59 = .ok (.ireturn, 1) := by decide +kernel
theorem dX12_pour_60 : decode cX12_pour 60 = .ok (.aload_n 0, 1) := by decide +kernel
theorem dX12_pour_61 : decode cX12_pour 61 = .ok (.getfield 21, 3) := by decide +kernel
theorem dX12_pour_64 : decode cX12_pour 64 = .ok (.iload_n 1, 1) := by decide +kernel
theorem dX12_pour_65 : decode cX12_pour 65 = .ok (.iaload, 1) := by decide +kernel
theorem dX12_pour_66 : decode cX12_pour 66 = .ok (.aload_n 0, 1) := by decide +kernel
theorem dX12_pour_67 : decode cX12_pour 67 = .ok (.getfield 21, 3) := by decide +kernel
theorem dX12_pour_70 : decode cX12_pour 70 = .ok (.iload_n 3, 1) := by decide +kernel
theorem dX12_pour_71 : decode cX12_pour 71 = .ok (.iaload, 1) := by decide +kernel
theorem dX12_pour_72 : decode cX12_pour 72 = .ok (.if_icmp .eq 10, 3) := by decide +kernel
theorem dX12_pour_75 : decode cX12_pour 75 = .ok (.aload_n 0, 1) := by decide +kernel
theorem dX12_pour_76 : decode cX12_pour 76 = .ok (.bipush 8, 2) := by decide +kernel
theorem dX12_pour_78 : decode cX12_pour 78 = .ok (.invokevirtual 95, 3) := by decide +kernel
theorem dX12_pour_81 : decode cX12_pour 81 = .ok (.ireturn, 1) := by decide +kernel
theorem dX12_pour_82 : decode cX12_pour 82 = .ok (.iload 5, 2) := by decide +kernel
theorem dX12_pour_84 : decode cX12_pour 84 = .ok (.aload_n 0, 1) := by decide +kernel
theorem dX12_pour_85 : decode cX12_pour 85 = .ok (.getfield 24, 3) := by decide +kernel
theorem dX12_pour_88 : decode cX12_pour 88 = .ok (.iload_n 1, 1) := by decide +kernel
theorem dX12_pour_89 : decode cX12_pour 89 = .ok (.iaload, 1) := by decide +kernel
theorem dX12_pour_90 : decode cX12_pour 90 = .ok (.iload_n 2, 1) := by decide +kernel
theorem dX12_pour_91 : decode cX12_pour 91 = .ok (.isub, 1) := by decide +kernel
theorem dX12_pour_92 : decode cX12_pour 92 = .ok (.if_icmp .gt 17, 3) := by decide +kernel
theorem dX12_pour_95 : decode cX12_pour 95 = .ok (.iload 5, 2) := by decide +kernel
theorem dX12_pour_97 : decode cX12_pour 97 = .ok (.aload_n 0, 1) := by decide +kernel
theorem dX12_pour_98 : decode cX12_pour 98 = .ok (.getfield 24, 3) := by decide +kernel
theorem dX12_pour_101 : decode cX12_pour 101 = .ok (.iload_n 3, 1) := by decide +kernel
theorem dX12_pour_102 : decode cX12_pour 102 = .ok (.iaload, 1) := by decide +kernel
theorem dX12_pour_103 : decode cX12_pour 103 = .ok (.iload 4, 2) := by decide +kernel
theorem dX12_pour_105 : decode cX12_pour 105 = .ok (.isub, 1) := by decide +kernel
theorem dX12_pour_106 : decode cX12_pour 106 = .ok (.if_icmp .le 9, 3) := by decide +kernel
theorem dX12_pour_109 : decode cX12_pour 109 = .ok (.aload_n 0, 1) := by decide +kernel
theorem dX12_pour_110 : decode cX12_pour 110 = .ok (.iconst 3, 1) := by decide +kernel
theorem dX12_pour_111 : decode cX12_pour 111 = .ok (.invokevirtual 95, 3) := by decide +kernel
theorem dX12_pour_114 : decode cX12_pour 114 = .ok (.ireturn, 1) := by decide +kernel
theorem dX12_pour_115 : decode cX12_pour 115 = .ok (.iconst 0, 1) := by decide +kernel
theorem dX12_pour_116 : decode cX12_pour 116 = .ok (.istore 6, 2) := by decide +kernel
theorem dX12_pour_118 : decode cX12_pour 118 = .ok (.iload 6, 2) := by decide +kernel
theorem dX12_pour_120 : decode cX12_pour 120 = .ok (.iload 5, 2) := by decide +kernel
theorem dX12_pour_122 : decode cX12_pour 122 = .ok (.if_icmp .ge 58, 3) := by decide +kernel
theorem dX12_pour_125 : decode cX12_pour 125 = .ok (.iload_n 2, 1) := by decide +kernel
theorem dX12_pour_126 : decode cX12_pour 126 = .ok (.iload 4, 2) := by decide +kernel
theorem dX12_pour_128 : decode cX12_pour 128 = .ok (.if_icmp .ge 13, 3) := by decide +kernel
theorem dX12_pour_131 : decode cX12_pour 131 = .ok (.iload 5, 2) := by decide +kernel
theorem dX12_pour_133 : decode cX12_pour 133 = .ok (.iconst 1, 1) := by decide +kernel
theorem dX12_pour_134 : decode cX12_pour 134 = .ok (.isub, 1) := by decide +kernel
theorem dX12_pour_135 : decode cX12_pour 135 = .ok (.iload 6, 2) := by decide +kernel
theorem dX12_pour_137 : decode cX12_pour 137 = .ok (.isub, 1) := by decide +kernel
theorem dX12_pour_138 : decode cX12_pour 138 = .ok (.goto 5, 3) := by decide +kernel
theorem dX12_pour_141 : decode cX12_pour 141 = .ok (.iload 6, 2) := by decide +kernel
theorem dX12_pour_143 : decode cX12_pour 143 = .ok (.istore 7, 2) := by decide +kernel
theorem dX12_pour_145 : decode cX12_pour 145 = .ok (.aload_n 0, 1) := by decide +kernel
theorem dX12_pour_146 : decode cX12_pour 146 = .ok (.getfield 27, 3) := by decide +kernel
theorem dX12_pour_149 : decode cX12_pour 149 = .ok (.bipush 60, 2) := by decide +kernel
theorem dX12_pour_151 : decode cX12_pour 151 = .ok (.iload_n 3, 1) := by decide +kernel
theorem dX12_pour_152 : decode cX12_pour 152 = .ok (.imul, 1) := by decide +kernel
theorem dX12_pour_153 : decode cX12_pour 153 = .ok (.iload 4, 2) := by decide +kernel
theorem dX12_pour_155 : decode cX12_pour 155 = .ok (.iadd, 1) := by decide +kernel
theorem dX12_pour_156 : decode cX12_pour 156 = .ok (.iload 7, 2) := by decide +kernel
theorem dX12_pour_158 : decode cX12_pour 158 = .ok (.iadd, 1) := by decide +kernel
theorem dX12_pour_159 : decode cX12_pour 159 = .ok (.aload_n 0, 1) := by decide +kernel
theorem dX12_pour_160 : decode cX12_pour 160 = .ok (.getfield 27, 3) := by decide +kernel
theorem dX12_pour_163 : decode cX12_pour 163 = .ok (.bipush 60, 2) := by decide +kernel
theorem dX12_pour_165 : decode cX12_pour 165 = .ok (.iload_n 1, 1) := by decide +kernel
theorem dX12_pour_166 : decode cX12_pour 166 = .ok (.imul, 1) := by decide +kernel
theorem dX12_pour_167 : decode cX12_pour 167 = .ok (.iload_n 2, 1) := by decide +kernel
theorem dX12_pour_168 : decode cX12_pour 168 = .ok (.iadd, 1) := by decide +kernel
theorem dX12_pour_169 : decode cX12_pour 169 = .ok (.iload 7, 2) := by decide +kernel
theorem dX12_pour_171 : decode cX12_pour 171 = .ok (.iadd, 1) := by decide +kernel
theorem dX12_pour_172 : decode cX12_pour 172 = .ok (.laload, 1) := by decide +kernel
theorem dX12_pour_173 : decode cX12_pour 173 = .ok (.lastore, 1) := by decide +kernel
theorem dX12_pour_174 : decode cX12_pour 174 = .ok (.iinc 6 1, 3) := by decide +kernel
theorem dX12_pour_177 : decode cX12_pour 177 = .ok (.goto (-59), 3) := by decide +kernel
theorem dX12_pour_180 : decode cX12_pour 180 = .ok (.aload_n 0, 1) := by decide +kernel
theorem dX12_pour_181 : decode cX12_pour 181 = .ok (.iconst 0, 1) := by decide +kernel
theorem dX12_pour_182 : decode cX12_pour 182 = .ok (.invokevirtual 95, 3) := by decide +kernel
theorem dX12_pour_185 : decode cX12_pour 185 = .ok (.ireturn, 1) := by decide +kernel
noncomputable def Mo_pour_J143_118 (σ : St) (l1 : Int32) (l2 : Int32) (l3 : Int32) (l4 : Int32) (l5 : Int32) (l6 : Int32) (s0 : Int32) : Option (((Int32 × St) ⊕ St)) :=
  chk (ix (((60 * l1) + l2) + s0) 240) (chk (ix (((60 * l3) + l4) + s0) 240) (bnd (wL σ 97 (tn (((60 * l3) + l4) + s0)) (σ.2 97 (tn (((60 * l1) + l2) + s0)))) (fun σ37 => bnd (l6 + 1) (fun v38 => some (.inl (v38, σ37))))))
set_option maxRecDepth 100000 in
set_option maxHeartbeats 4000000 in
theorem tj_Mo_pour_J143_118 {V : Ev} {Γ : Cn} {fin : Option Value × St} {σ : St} {l1 : Int32} {l2 : Int32} {l3 : Int32} {l4 : Int32} {l5 : Int32} {l6 : Int32} {s0 : Int32} {o : ((Int32 × St) ⊕ St)} (X : Cx V Γ M_X12_pour) {A : ((Int32 × St) ⊕ St) → Prop}  (hb118 : ∀ (x6 : Int32) (σ9 : St), A (.inl (x6, σ9)) → Go V Γ M_X12_pour (Zm V Γ 1 fin) 118 [(0, .ref (V.2.2.1 + 92)), (1, .int l1), (2, .int l2), (3, .int l3), (4, .int l4), (5, .int l5), (6, .int x6)] [] σ9) (hx118 : ∀ (σ9 : St), A (.inr σ9) → Go V Γ M_X12_pour (Zm V Γ 1 fin) 180 [(0, .ref (V.2.2.1 + 92))] [] σ9) (h : Mo_pour_J143_118 σ l1 l2 l3 l4 l5 l6 s0 = some o) (hA : A o) : Go V Γ M_X12_pour (Zm V Γ 1 fin) 143 [(0, .ref (V.2.2.1 + 92)), (1, .int l1), (2, .int l2), (3, .int l3), (4, .int l4), (5, .int l5), (6, .int l6)] [.int s0] σ := by
  unfold Mo_pour_J143_118 at h
  refine g_istore (pc := 143) X [(7, .int s0), (0, .ref (V.2.2.1 + 92)), (1, .int l1), (2, .int l2), (3, .int l3), (4, .int l4), (5, .int l5), (6, .int l6)] (Nat.le_of_ble_eq_true rfl) rfl dX12_pour_143 ?_
  refine g_aload_n (pc := 145) X 1 rfl dX12_pour_145 ?_
  refine g_getR (r := 97) (pc := 146) X k_fl_X12_27 s_92 rfl dX12_pour_146 ?_
  refine g_bipush (v := 60) (pc := 149) X (by decide) dX12_pour_149 ?_
  refine g_iload_n (pc := 151) X 4 rfl dX12_pour_151 ?_
  refine g_imul (pc := 152) X dX12_pour_152 ?_
  refine g_iload (pc := 153) X 5 rfl dX12_pour_153 ?_
  refine g_iadd (pc := 155) X dX12_pour_155 ?_
  refine g_iload (pc := 156) X 0 rfl dX12_pour_156 ?_
  refine g_iadd (pc := 158) X dX12_pour_158 ?_
  refine g_aload_n (pc := 159) X 1 rfl dX12_pour_159 ?_
  refine g_getR (r := 97) (pc := 160) X k_fl_X12_27 s_92 rfl dX12_pour_160 ?_
  refine g_bipush (v := 60) (pc := 163) X (by decide) dX12_pour_163 ?_
  refine g_iload_n (pc := 165) X 2 rfl dX12_pour_165 ?_
  refine g_imul (pc := 166) X dX12_pour_166 ?_
  refine g_iload_n (pc := 167) X 3 rfl dX12_pour_167 ?_
  refine g_iadd (pc := 168) X dX12_pour_168 ?_
  refine g_iload (pc := 169) X 0 rfl dX12_pour_169 ?_
  refine g_iadd (pc := 171) X dX12_pour_171 ?_
  obtain ⟨c35, h⟩ := chk_e h
  refine g_lald (pc := 172) X s_97 c35 dX12_pour_172 ?_
  obtain ⟨c36, h⟩ := chk_e h
  refine g_last (pc := 173) X s_97 c36 dX12_pour_173 ?_
  obtain ⟨σ37, e_σ37, h⟩ := bnd_e h
  refine g_nmS e_σ37 ?_
  obtain ⟨v38, e_v38, h⟩ := bnd_e h
  refine g_iinc (pc := 174) (v := v38) X [(6, .int v38), (7, .int s0), (0, .ref (V.2.2.1 + 92)), (1, .int l1), (2, .int l2), (3, .int l3), (4, .int l4), (5, .int l5)] 7 rfl (by rw [e_v38]; rfl) (Nat.le_of_ble_eq_true rfl) rfl dX12_pour_174 ?_
  refine g_goto (pc := 177) (tgt := 118) X dX12_pour_177 rfl ?_
  refine g_sub [2, 3, 4, 5, 6, 7, 0] rfl ?_
  cases h
  exact hb118 _ _ hA
noncomputable def Mo_pour_L118 (l1 : Int32) (l2 : Int32) (l3 : Int32) (l4 : Int32) (l5 : Int32) (σ : St) (x6 : Int32) : Option ((Int32 × St) ⊕ St) :=
  if l5 ≤ x6 then (some (.inr σ)) else (if l4 ≤ l2 then (Mo_pour_J143_118 σ l1 l2 l3 l4 l5 x6 x6) else (Mo_pour_J143_118 σ l1 l2 l3 l4 l5 x6 ((l5 - 1) - x6)))
set_option maxRecDepth 100000 in
set_option maxHeartbeats 4000000 in
theorem tb_Mo_pour_L118 {V : Ev} {Γ : Cn} {fin : Option Value × St} {l1 : Int32} {l2 : Int32} {l3 : Int32} {l4 : Int32} {l5 : Int32} {σ : St} {x6 : Int32} {o : ((Int32 × St) ⊕ St)} (X : Cx V Γ M_X12_pour) {A : ((Int32 × St) ⊕ St) → Prop}  (hb118 : ∀ (x6 : Int32) (σ9 : St), A (.inl (x6, σ9)) → Go V Γ M_X12_pour (Zm V Γ 1 fin) 118 [(0, .ref (V.2.2.1 + 92)), (1, .int l1), (2, .int l2), (3, .int l3), (4, .int l4), (5, .int l5), (6, .int x6)] [] σ9) (hx118 : ∀ (σ9 : St), A (.inr σ9) → Go V Γ M_X12_pour (Zm V Γ 1 fin) 180 [(0, .ref (V.2.2.1 + 92))] [] σ9) (h : Mo_pour_L118 l1 l2 l3 l4 l5 σ x6 = some o) (hA : A o) : Go V Γ M_X12_pour (Zm V Γ 1 fin) 118 [(0, .ref (V.2.2.1 + 92)), (1, .int l1), (2, .int l2), (3, .int l3), (4, .int l4), (5, .int l5), (6, .int x6)] [] σ := by
  unfold Mo_pour_L118 at h
  refine g_iload (pc := 118) X 6 rfl dX12_pour_118 ?_
  refine g_iload (pc := 120) X 5 rfl dX12_pour_120 ?_
  refine g_icmp_ge (pc := 122) (tgt := 180) X dX12_pour_122 rfl (fun c40 => ?_) (fun c40 => ?_)
  · replace h := if_t c40 h
    refine g_sub [0] rfl ?_
    cases h
    exact hx118 _ hA
  · replace h := if_f c40 h
    refine g_iload_n (pc := 125) X 2 rfl dX12_pour_125 ?_
    refine g_iload (pc := 126) X 4 rfl dX12_pour_126 ?_
    refine g_icmp_ge (pc := 128) (tgt := 141) X dX12_pour_128 rfl (fun c39 => ?_) (fun c39 => ?_)
    · replace h := if_t c39 h
      refine g_iload (pc := 141) X 6 rfl dX12_pour_141 ?_
      refine g_sub [0, 1, 2, 3, 4, 5, 6] rfl ?_
      exact tj_Mo_pour_J143_118 X  hb118 hx118 h hA
    · replace h := if_f c39 h
      refine g_iload (pc := 131) X 5 rfl dX12_pour_131 ?_
      refine g_iconst (v := 1) (pc := 133) X rfl dX12_pour_133 ?_
      refine g_isub (pc := 134) X dX12_pour_134 ?_
      refine g_iload (pc := 135) X 6 rfl dX12_pour_135 ?_
      refine g_isub (pc := 137) X dX12_pour_137 ?_
      refine g_goto (pc := 138) (tgt := 143) X dX12_pour_138 rfl ?_
      refine g_sub [0, 1, 2, 3, 4, 5, 6] rfl ?_
      exact tj_Mo_pour_J143_118 X  hb118 hx118 h hA
set_option maxRecDepth 100000 in
theorem tl_Mo_pour_L118 {V : Ev} {Γ : Cn} {fin : Option Value × St} {l1 : Int32} {l2 : Int32} {l3 : Int32} {l4 : Int32} {l5 : Int32} {x6 : Int32} {σ9 : St} (X : Cx V Γ M_X12_pour)  {σ8 : St} {n : Nat} (h : iter (fun s : (Int32 × St) => Mo_pour_L118 l1 l2 l3 l4 l5 s.2 s.1) n (x6, σ9) = some σ8) (hK : Go V Γ M_X12_pour (Zm V Γ 1 fin) 180 [(0, .ref (V.2.2.1 + 92))] [] σ8) : Go V Γ M_X12_pour (Zm V Γ 1 fin) 118 [(0, .ref (V.2.2.1 + 92)), (1, .int l1), (2, .int l2), (3, .int l3), (4, .int l4), (5, .int l5), (6, .int x6)] [] σ9 := by
  refine iter_go (G := (fun s : (Int32 × St) => Go V Γ M_X12_pour (Zm V Γ 1 fin) 118 [(0, .ref (V.2.2.1 + 92)), (1, .int l1), (2, .int l2), (3, .int l3), (4, .int l4), (5, .int l5), (6, .int s.1)] [] s.2)) (fun s o ho hS => ?_) n (x6, σ9) h
  exact tb_Mo_pour_L118 X  (fun _ _ h9 => h9) (fun _ he => by cases he; exact hK) ho hS
noncomputable def Mo_pour (σ : St) (p1 : Int32) (p2 : Int32) (p3 : Int32) (p4 : Int32) (p5 : Int32) : Option (Int32 × St) :=
  bd (Mo_isTray p1) (fun r2 => if r2 = 0 then (bd2 (Mo_is σ 1) (fun r4 σ5 => chk (ckz r4) (some (r4, σ5)))) else (bd (Mo_isTray p3) (fun r8 => if r8 = 0 then (bd2 (Mo_is σ 1) (fun r10 σ11 => chk (ckz r10) (some (r10, σ11)))) else (if p2 < 0 then (bd2 (Mo_is σ 1) (fun r14 σ15 => chk (ckz r14) (some (r14, σ15)))) else (if p4 < 0 then (bd2 (Mo_is σ 1) (fun r18 σ19 => chk (ckz r18) (some (r18, σ19)))) else (if 0 ≤ p5 then (chk (ix p1 4) (if (σ.1 96 (tn p1)) = (-1) then (bd2 (Mo_is σ 2) (fun r23 σ24 => chk (ckz r23) (some (r23, σ24)))) else (chk (ix p3 4) (if (σ.1 96 (tn p3)) = (-1) then (bd2 (Mo_is σ 2) (fun r59 σ60 => chk (ckz r59) (some (r59, σ60)))) else (chk (ix p1 4) (chk (ix p3 4) (if (σ.1 95 (tn p1)) = (σ.1 95 (tn p3)) then (chk (ix p1 4) (if ((σ.1 96 (tn p1)) - p2) < p5 then (bd2 (Mo_is σ 3) (fun r31 σ32 => chk (ckz r31) (some (r31, σ32)))) else (chk (ix p3 4) (if p5 ≤ ((σ.1 96 (tn p3)) - p4) then (bd (iter (fun s : (Int32 × St) => Mo_pour_L118 p1 p2 p3 p4 p5 s.2 s.1) FUEL (0, σ)) (fun σ41 => bd2 (Mo_is σ41 0) (fun r44 σ45 => chk (ckz r44) (some (r44, σ45))))) else (bd2 (Mo_is σ 3) (fun r48 σ49 => chk (ckz r48) (some (r48, σ49)))))))) else (bd2 (Mo_is σ 8) (fun r54 σ55 => chk (ckz r54) (some (r54, σ55))))))))))) else (bd2 (Mo_is σ 1) (fun r65 σ66 => chk (ckz r65) (some (r65, σ66))))))))))
set_option maxRecDepth 100000 in
set_option maxHeartbeats 4000000 in
theorem tm_Mo_pour {V : Ev} {Γ : Cn} {fin : Option Value × St} {σ : St} {p1 : Int32} {p2 : Int32} {p3 : Int32} {p4 : Int32} {p5 : Int32} {o : (Int32 × St)} (X : Cx V Γ M_X12_pour) {A : (Int32 × St) → Prop}  (hr : ∀ (r : Int32) (σ9 : St), A (r, σ9) → (some (.int r), σ9) = fin) (h : Mo_pour σ p1 p2 p3 p4 p5 = some o) (hA : A o) : Go V Γ M_X12_pour (Zm V Γ 1 fin) 0 [(0, .ref (V.2.2.1 + 92)), (1, .int p1), (2, .int p2), (3, .int p3), (4, .int p4), (5, .int p5)] [] σ := by
  unfold Mo_pour at h
  refine g_iload_n (pc := 0) X 1 rfl dX12_pour_0 ?_
  obtain ⟨r2, hc1, h⟩ := bd_e h
  refine g_callS (pc := 1) X k_ml_X12_99 (run_Mo_isTray  hc1) rfl (room_ok (Nat.le_of_ble_eq_true rfl) (Nat.le_of_ble_eq_true rfl)) ⟨Nat.le_refl _, Nat.le_refl _⟩ _ rfl (Nat.le_of_ble_eq_true rfl) dX12_pour_1 ?_
  show Go V Γ M_X12_pour (Zm V Γ 1 fin) 4 [(0, .ref (V.2.2.1 + 92)), (1, .int p1), (2, .int p2), (3, .int p3), (4, .int p4), (5, .int p5)] [.int r2] σ
  refine g_if_eq (pc := 4) (tgt := 28) X dX12_pour_4 rfl (fun c72 => ?_) (fun c72 => ?_)
  · replace h := if_t c72 h
    refine g_aload_n (pc := 28) X 0 rfl dX12_pour_28 ?_
    refine g_iconst (v := 1) (pc := 29) X rfl dX12_pour_29 ?_
    obtain ⟨r4, σ5, hc3, h⟩ := bd2_e h
    refine g_callV (pc := 30) X k_ml_X12_95 (run_Mo_is  hc3) s_92 rfl (room_ok (Nat.le_of_ble_eq_true rfl) (Nat.le_of_ble_eq_true rfl)) ⟨Nat.le_refl _, Nat.le_refl _⟩ _ rfl (Nat.le_of_ble_eq_true rfl) dX12_pour_30 ?_
    show Go V Γ M_X12_pour (Zm V Γ 1 fin) 33 [(0, .ref (V.2.2.1 + 92)), (1, .int p1), (2, .int p2), (3, .int p3), (4, .int p4), (5, .int p5)] [.int r4] σ5
    obtain ⟨c6, h⟩ := chk_e h
    cases h
    exact g_iret (pc := 33) X rfl (ckz_e c6).1 (hr _ _ hA) dX12_pour_33
  · replace h := if_f c72 h
    refine g_iload_n (pc := 7) X 3 rfl dX12_pour_7 ?_
    obtain ⟨r8, hc7, h⟩ := bd_e h
    refine g_callS (pc := 8) X k_ml_X12_99 (run_Mo_isTray  hc7) rfl (room_ok (Nat.le_of_ble_eq_true rfl) (Nat.le_of_ble_eq_true rfl)) ⟨Nat.le_refl _, Nat.le_refl _⟩ _ rfl (Nat.le_of_ble_eq_true rfl) dX12_pour_8 ?_
    show Go V Γ M_X12_pour (Zm V Γ 1 fin) 11 [(0, .ref (V.2.2.1 + 92)), (1, .int p1), (2, .int p2), (3, .int p3), (4, .int p4), (5, .int p5)] [.int r8] σ
    refine g_if_eq (pc := 11) (tgt := 28) X dX12_pour_11 rfl (fun c71 => ?_) (fun c71 => ?_)
    · replace h := if_t c71 h
      refine g_aload_n (pc := 28) X 0 rfl dX12_pour_28 ?_
      refine g_iconst (v := 1) (pc := 29) X rfl dX12_pour_29 ?_
      obtain ⟨r10, σ11, hc9, h⟩ := bd2_e h
      refine g_callV (pc := 30) X k_ml_X12_95 (run_Mo_is  hc9) s_92 rfl (room_ok (Nat.le_of_ble_eq_true rfl) (Nat.le_of_ble_eq_true rfl)) ⟨Nat.le_refl _, Nat.le_refl _⟩ _ rfl (Nat.le_of_ble_eq_true rfl) dX12_pour_30 ?_
      show Go V Γ M_X12_pour (Zm V Γ 1 fin) 33 [(0, .ref (V.2.2.1 + 92)), (1, .int p1), (2, .int p2), (3, .int p3), (4, .int p4), (5, .int p5)] [.int r10] σ11
      obtain ⟨c12, h⟩ := chk_e h
      cases h
      exact g_iret (pc := 33) X rfl (ckz_e c12).1 (hr _ _ hA) dX12_pour_33
    · replace h := if_f c71 h
      refine g_iload_n (pc := 14) X 2 rfl dX12_pour_14 ?_
      refine g_if_lt (pc := 15) (tgt := 28) X dX12_pour_15 rfl (fun c70 => ?_) (fun c70 => ?_)
      · replace h := if_t c70 h
        refine g_aload_n (pc := 28) X 0 rfl dX12_pour_28 ?_
        refine g_iconst (v := 1) (pc := 29) X rfl dX12_pour_29 ?_
        obtain ⟨r14, σ15, hc13, h⟩ := bd2_e h
        refine g_callV (pc := 30) X k_ml_X12_95 (run_Mo_is  hc13) s_92 rfl (room_ok (Nat.le_of_ble_eq_true rfl) (Nat.le_of_ble_eq_true rfl)) ⟨Nat.le_refl _, Nat.le_refl _⟩ _ rfl (Nat.le_of_ble_eq_true rfl) dX12_pour_30 ?_
        show Go V Γ M_X12_pour (Zm V Γ 1 fin) 33 [(0, .ref (V.2.2.1 + 92)), (1, .int p1), (2, .int p2), (3, .int p3), (4, .int p4), (5, .int p5)] [.int r14] σ15
        obtain ⟨c16, h⟩ := chk_e h
        cases h
        exact g_iret (pc := 33) X rfl (ckz_e c16).1 (hr _ _ hA) dX12_pour_33
      · replace h := if_f c70 h
        refine g_iload (pc := 18) X 4 rfl dX12_pour_18 ?_
        refine g_if_lt (pc := 20) (tgt := 28) X dX12_pour_20 rfl (fun c69 => ?_) (fun c69 => ?_)
        · replace h := if_t c69 h
          refine g_aload_n (pc := 28) X 0 rfl dX12_pour_28 ?_
          refine g_iconst (v := 1) (pc := 29) X rfl dX12_pour_29 ?_
          obtain ⟨r18, σ19, hc17, h⟩ := bd2_e h
          refine g_callV (pc := 30) X k_ml_X12_95 (run_Mo_is  hc17) s_92 rfl (room_ok (Nat.le_of_ble_eq_true rfl) (Nat.le_of_ble_eq_true rfl)) ⟨Nat.le_refl _, Nat.le_refl _⟩ _ rfl (Nat.le_of_ble_eq_true rfl) dX12_pour_30 ?_
          show Go V Γ M_X12_pour (Zm V Γ 1 fin) 33 [(0, .ref (V.2.2.1 + 92)), (1, .int p1), (2, .int p2), (3, .int p3), (4, .int p4), (5, .int p5)] [.int r18] σ19
          obtain ⟨c20, h⟩ := chk_e h
          cases h
          exact g_iret (pc := 33) X rfl (ckz_e c20).1 (hr _ _ hA) dX12_pour_33
        · replace h := if_f c69 h
          refine g_iload (pc := 23) X 5 rfl dX12_pour_23 ?_
          refine g_if_ge (pc := 25) (tgt := 34) X dX12_pour_25 rfl (fun c68 => ?_) (fun c68 => ?_)
          · replace h := if_t c68 h
            refine g_aload_n (pc := 34) X 0 rfl dX12_pour_34 ?_
            refine g_getR (r := 96) (pc := 35) X k_fl_X12_24 s_92 rfl dX12_pour_35 ?_
            refine g_iload_n (pc := 38) X 1 rfl dX12_pour_38 ?_
            obtain ⟨c21, h⟩ := chk_e h
            refine g_iald (pc := 39) X s_96 c21 dX12_pour_39 ?_
            refine g_iconst (v := (-1)) (pc := 40) X rfl dX12_pour_40 ?_
            refine g_icmp_eq (pc := 41) (tgt := 54) X dX12_pour_41 rfl (fun c63 => ?_) (fun c63 => ?_)
            · replace h := if_t c63 h
              refine g_aload_n (pc := 54) X 0 rfl dX12_pour_54 ?_
              refine g_iconst (v := 2) (pc := 55) X rfl dX12_pour_55 ?_
              obtain ⟨r23, σ24, hc22, h⟩ := bd2_e h
              refine g_callV (pc := 56) X k_ml_X12_95 (run_Mo_is  hc22) s_92 rfl (room_ok (Nat.le_of_ble_eq_true rfl) (Nat.le_of_ble_eq_true rfl)) ⟨Nat.le_refl _, Nat.le_refl _⟩ _ rfl (Nat.le_of_ble_eq_true rfl) dX12_pour_56 ?_
              show Go V Γ M_X12_pour (Zm V Γ 1 fin) 59 [(0, .ref (V.2.2.1 + 92)), (1, .int p1), (2, .int p2), (3, .int p3), (4, .int p4), (5, .int p5)] [.int r23] σ24
              obtain ⟨c25, h⟩ := chk_e h
              cases h
              exact g_iret (pc := 59) X rfl (ckz_e c25).1 (hr _ _ hA) dX12_pour_59
            · replace h := if_f c63 h
              refine g_aload_n (pc := 44) X 0 rfl dX12_pour_44 ?_
              refine g_getR (r := 96) (pc := 45) X k_fl_X12_24 s_92 rfl dX12_pour_45 ?_
              refine g_iload_n (pc := 48) X 3 rfl dX12_pour_48 ?_
              obtain ⟨c26, h⟩ := chk_e h
              refine g_iald (pc := 49) X s_96 c26 dX12_pour_49 ?_
              refine g_iconst (v := (-1)) (pc := 50) X rfl dX12_pour_50 ?_
              refine g_icmp_ne (pc := 51) (tgt := 60) X dX12_pour_51 rfl (fun c62 => ?_) (fun c62 => ?_)
              · replace h := if_f c62 h
                refine g_aload_n (pc := 60) X 0 rfl dX12_pour_60 ?_
                refine g_getR (r := 95) (pc := 61) X k_fl_X12_21 s_92 rfl dX12_pour_61 ?_
                refine g_iload_n (pc := 64) X 1 rfl dX12_pour_64 ?_
                obtain ⟨c27, h⟩ := chk_e h
                refine g_iald (pc := 65) X s_95 c27 dX12_pour_65 ?_
                refine g_aload_n (pc := 66) X 0 rfl dX12_pour_66 ?_
                refine g_getR (r := 95) (pc := 67) X k_fl_X12_21 s_92 rfl dX12_pour_67 ?_
                refine g_iload_n (pc := 70) X 3 rfl dX12_pour_70 ?_
                obtain ⟨c28, h⟩ := chk_e h
                refine g_iald (pc := 71) X s_95 c28 dX12_pour_71 ?_
                refine g_icmp_eq (pc := 72) (tgt := 82) X dX12_pour_72 rfl (fun c57 => ?_) (fun c57 => ?_)
                · replace h := if_t c57 h
                  refine g_iload (pc := 82) X 5 rfl dX12_pour_82 ?_
                  refine g_aload_n (pc := 84) X 0 rfl dX12_pour_84 ?_
                  refine g_getR (r := 96) (pc := 85) X k_fl_X12_24 s_92 rfl dX12_pour_85 ?_
                  refine g_iload_n (pc := 88) X 1 rfl dX12_pour_88 ?_
                  obtain ⟨c29, h⟩ := chk_e h
                  refine g_iald (pc := 89) X s_96 c29 dX12_pour_89 ?_
                  refine g_iload_n (pc := 90) X 2 rfl dX12_pour_90 ?_
                  refine g_isub (pc := 91) X dX12_pour_91 ?_
                  refine g_icmp_gt (pc := 92) (tgt := 109) X dX12_pour_92 rfl (fun c52 => ?_) (fun c52 => ?_)
                  · replace h := if_t c52 h
                    refine g_aload_n (pc := 109) X 0 rfl dX12_pour_109 ?_
                    refine g_iconst (v := 3) (pc := 110) X rfl dX12_pour_110 ?_
                    obtain ⟨r31, σ32, hc30, h⟩ := bd2_e h
                    refine g_callV (pc := 111) X k_ml_X12_95 (run_Mo_is  hc30) s_92 rfl (room_ok (Nat.le_of_ble_eq_true rfl) (Nat.le_of_ble_eq_true rfl)) ⟨Nat.le_refl _, Nat.le_refl _⟩ _ rfl (Nat.le_of_ble_eq_true rfl) dX12_pour_111 ?_
                    show Go V Γ M_X12_pour (Zm V Γ 1 fin) 114 [(0, .ref (V.2.2.1 + 92)), (1, .int p1), (2, .int p2), (3, .int p3), (4, .int p4), (5, .int p5)] [.int r31] σ32
                    obtain ⟨c33, h⟩ := chk_e h
                    cases h
                    exact g_iret (pc := 114) X rfl (ckz_e c33).1 (hr _ _ hA) dX12_pour_114
                  · replace h := if_f c52 h
                    refine g_iload (pc := 95) X 5 rfl dX12_pour_95 ?_
                    refine g_aload_n (pc := 97) X 0 rfl dX12_pour_97 ?_
                    refine g_getR (r := 96) (pc := 98) X k_fl_X12_24 s_92 rfl dX12_pour_98 ?_
                    refine g_iload_n (pc := 101) X 3 rfl dX12_pour_101 ?_
                    obtain ⟨c34, h⟩ := chk_e h
                    refine g_iald (pc := 102) X s_96 c34 dX12_pour_102 ?_
                    refine g_iload (pc := 103) X 4 rfl dX12_pour_103 ?_
                    refine g_isub (pc := 105) X dX12_pour_105 ?_
                    refine g_icmp_le (pc := 106) (tgt := 115) X dX12_pour_106 rfl (fun c51 => ?_) (fun c51 => ?_)
                    · replace h := if_t c51 h
                      refine g_iconst (v := 0) (pc := 115) X rfl dX12_pour_115 ?_
                      refine g_istore (pc := 116) X [(6, .int 0), (0, .ref (V.2.2.1 + 92)), (1, .int p1), (2, .int p2), (3, .int p3), (4, .int p4), (5, .int p5)] (Nat.le_of_ble_eq_true rfl) rfl dX12_pour_116 ?_
                      refine g_sub [1, 2, 3, 4, 5, 6, 0] rfl ?_
                      obtain ⟨σ41, hi42, h⟩ := bd_e h
                      refine tl_Mo_pour_L118 X  hi42 ?_
                      refine g_aload_n (pc := 180) X 0 rfl dX12_pour_180 ?_
                      refine g_iconst (v := 0) (pc := 181) X rfl dX12_pour_181 ?_
                      obtain ⟨r44, σ45, hc43, h⟩ := bd2_e h
                      refine g_callV (pc := 182) X k_ml_X12_95 (run_Mo_is  hc43) s_92 rfl (room_ok (Nat.le_of_ble_eq_true rfl) (Nat.le_of_ble_eq_true rfl)) ⟨Nat.le_refl _, Nat.le_refl _⟩ _ rfl (Nat.le_of_ble_eq_true rfl) dX12_pour_182 ?_
                      show Go V Γ M_X12_pour (Zm V Γ 1 fin) 185 [(0, .ref (V.2.2.1 + 92))] [.int r44] σ45
                      obtain ⟨c46, h⟩ := chk_e h
                      cases h
                      exact g_iret (pc := 185) X rfl (ckz_e c46).1 (hr _ _ hA) dX12_pour_185
                    · replace h := if_f c51 h
                      refine g_aload_n (pc := 109) X 0 rfl dX12_pour_109 ?_
                      refine g_iconst (v := 3) (pc := 110) X rfl dX12_pour_110 ?_
                      obtain ⟨r48, σ49, hc47, h⟩ := bd2_e h
                      refine g_callV (pc := 111) X k_ml_X12_95 (run_Mo_is  hc47) s_92 rfl (room_ok (Nat.le_of_ble_eq_true rfl) (Nat.le_of_ble_eq_true rfl)) ⟨Nat.le_refl _, Nat.le_refl _⟩ _ rfl (Nat.le_of_ble_eq_true rfl) dX12_pour_111 ?_
                      show Go V Γ M_X12_pour (Zm V Γ 1 fin) 114 [(0, .ref (V.2.2.1 + 92)), (1, .int p1), (2, .int p2), (3, .int p3), (4, .int p4), (5, .int p5)] [.int r48] σ49
                      obtain ⟨c50, h⟩ := chk_e h
                      cases h
                      exact g_iret (pc := 114) X rfl (ckz_e c50).1 (hr _ _ hA) dX12_pour_114
                · replace h := if_f c57 h
                  refine g_aload_n (pc := 75) X 0 rfl dX12_pour_75 ?_
                  refine g_bipush (v := 8) (pc := 76) X (by decide) dX12_pour_76 ?_
                  obtain ⟨r54, σ55, hc53, h⟩ := bd2_e h
                  refine g_callV (pc := 78) X k_ml_X12_95 (run_Mo_is  hc53) s_92 rfl (room_ok (Nat.le_of_ble_eq_true rfl) (Nat.le_of_ble_eq_true rfl)) ⟨Nat.le_refl _, Nat.le_refl _⟩ _ rfl (Nat.le_of_ble_eq_true rfl) dX12_pour_78 ?_
                  show Go V Γ M_X12_pour (Zm V Γ 1 fin) 81 [(0, .ref (V.2.2.1 + 92)), (1, .int p1), (2, .int p2), (3, .int p3), (4, .int p4), (5, .int p5)] [.int r54] σ55
                  obtain ⟨c56, h⟩ := chk_e h
                  cases h
                  exact g_iret (pc := 81) X rfl (ckz_e c56).1 (hr _ _ hA) dX12_pour_81
              · replace h := if_t c62 h
                refine g_aload_n (pc := 54) X 0 rfl dX12_pour_54 ?_
                refine g_iconst (v := 2) (pc := 55) X rfl dX12_pour_55 ?_
                obtain ⟨r59, σ60, hc58, h⟩ := bd2_e h
                refine g_callV (pc := 56) X k_ml_X12_95 (run_Mo_is  hc58) s_92 rfl (room_ok (Nat.le_of_ble_eq_true rfl) (Nat.le_of_ble_eq_true rfl)) ⟨Nat.le_refl _, Nat.le_refl _⟩ _ rfl (Nat.le_of_ble_eq_true rfl) dX12_pour_56 ?_
                show Go V Γ M_X12_pour (Zm V Γ 1 fin) 59 [(0, .ref (V.2.2.1 + 92)), (1, .int p1), (2, .int p2), (3, .int p3), (4, .int p4), (5, .int p5)] [.int r59] σ60
                obtain ⟨c61, h⟩ := chk_e h
                cases h
                exact g_iret (pc := 59) X rfl (ckz_e c61).1 (hr _ _ hA) dX12_pour_59
          · replace h := if_f c68 h
            refine g_aload_n (pc := 28) X 0 rfl dX12_pour_28 ?_
            refine g_iconst (v := 1) (pc := 29) X rfl dX12_pour_29 ?_
            obtain ⟨r65, σ66, hc64, h⟩ := bd2_e h
            refine g_callV (pc := 30) X k_ml_X12_95 (run_Mo_is  hc64) s_92 rfl (room_ok (Nat.le_of_ble_eq_true rfl) (Nat.le_of_ble_eq_true rfl)) ⟨Nat.le_refl _, Nat.le_refl _⟩ _ rfl (Nat.le_of_ble_eq_true rfl) dX12_pour_30 ?_
            show Go V Γ M_X12_pour (Zm V Γ 1 fin) 33 [(0, .ref (V.2.2.1 + 92)), (1, .int p1), (2, .int p2), (3, .int p3), (4, .int p4), (5, .int p5)] [.int r65] σ66
            obtain ⟨c67, h⟩ := chk_e h
            cases h
            exact g_iret (pc := 33) X rfl (ckz_e c67).1 (hr _ _ hA) dX12_pour_33
set_option maxRecDepth 100000 in
theorem run_Mo_pour {V : Ev} {σ : St} {p1 : Int32} {p2 : Int32} {p3 : Int32} {p4 : Int32} {p5 : Int32} {o : (Int32 × St)}   (h : Mo_pour σ p1 p2 p3 p4 p5 = some o) : Rs V 1 M_X12_pour [.ref (V.2.2.1 + 92), .int p1, .int p2, .int p3, .int p4, .int p5] σ (some (.int o.1), o.2) := by
  refine Rs.of (by decide +kernel) (Nat.le_of_ble_eq_true rfl) (fun Γ X => ?_)
  exact tm_Mo_pour X (A := fun o1 => o1 = o)  (fun _ _ e => by rw [← e]) h rfl
theorem dX12_isFrom_0 : decode cX12_isFrom 0 = .ok (.lload_n 0, 1) := by decide +kernel
theorem dX12_isFrom_1 : decode cX12_isFrom 1 = .ok (.lload_n 2, 1) := by decide +kernel
theorem dX12_isFrom_2 : decode cX12_isFrom 2 = .ok (.lcmp, 1) := by decide +kernel
theorem dX12_isFrom_3 : decode cX12_isFrom 3 = .ok (.ifCond .lt 14, 3) := by decide +kernel
theorem dX12_isFrom_6 : decode cX12_isFrom 6 = .ok (.lload_n 0, 1) := by decide +kernel
theorem dX12_isFrom_7 : decode cX12_isFrom 7 = .ok (.lload 4, 2) := by decide +kernel
theorem dX12_isFrom_9 : decode cX12_isFrom 9 = .ok (.lcmp, 1) := by decide +kernel
theorem dX12_isFrom_10 : decode cX12_isFrom 10 = .ok (.ifCond .gt 7, 3) := by decide +kernel
theorem dX12_isFrom_13 : decode cX12_isFrom 13 = .ok (.iconst 1, 1) := by decide +kernel
theorem dX12_isFrom_14 : decode cX12_isFrom 14 = .ok (.goto 4, 3) := by decide +kernel
theorem dX12_isFrom_17 : decode cX12_isFrom 17 = .ok (.iconst 0, 1) := by decide +kernel
theorem dX12_isFrom_18 : decode cX12_isFrom 18 = .ok (.ireturn, 1) := by decide +kernel
noncomputable def Mo_isFrom (p0 : Int64) (p1 : Int64) (p2 : Int64) : Option Int32 :=
  if p0 < p1 then (some 0) else (if p2 < p0 then (some 0) else (some 1))
set_option maxRecDepth 100000 in
set_option maxHeartbeats 4000000 in
theorem tm_Mo_isFrom {V : Ev} {Γ : Cn} {fin : Option Value × St} {σ : St} {p0 : Int64} {p1 : Int64} {p2 : Int64} {o : Int32} (X : Cx V Γ M_X12_isFrom) {A : Int32 → Prop}  (hr : ∀ (r : Int32), A r → (some (.int r), σ) = fin) (h : Mo_isFrom p0 p1 p2 = some o) (hA : A o) : Go V Γ M_X12_isFrom (Zm V Γ 0 fin) 0 [(0, .long p0), (2, .long p1), (4, .long p2)] [] σ := by
  unfold Mo_isFrom at h
  refine g_lload_n (pc := 0) X 0 rfl dX12_isFrom_0 ?_
  refine g_lload_n (pc := 1) X 1 rfl dX12_isFrom_1 ?_
  refine g_lcmp_lt (pc := 2) (tgt := 17) X dX12_isFrom_2 dX12_isFrom_3 rfl (fun c2 => ?_) (fun c2 => ?_)
  · replace h := if_t c2 h
    refine g_iconst (v := 0) (pc := 17) X rfl dX12_isFrom_17 ?_
    cases h
    exact g_iret (pc := 18) X rfl nz0.1 (hr _ hA) dX12_isFrom_18
  · replace h := if_f c2 h
    refine g_lload_n (pc := 6) X 0 rfl dX12_isFrom_6 ?_
    refine g_lload (pc := 7) X 2 rfl dX12_isFrom_7 ?_
    refine g_lcmp_gt (pc := 9) (tgt := 17) X dX12_isFrom_9 dX12_isFrom_10 rfl (fun c1 => ?_) (fun c1 => ?_)
    · replace h := if_t c1 h
      refine g_iconst (v := 0) (pc := 17) X rfl dX12_isFrom_17 ?_
      cases h
      exact g_iret (pc := 18) X rfl nz0.1 (hr _ hA) dX12_isFrom_18
    · replace h := if_f c1 h
      refine g_iconst (v := 1) (pc := 13) X rfl dX12_isFrom_13 ?_
      refine g_goto (pc := 14) (tgt := 18) X dX12_isFrom_14 rfl ?_
      cases h
      exact g_iret (pc := 18) X rfl nz1.1 (hr _ hA) dX12_isFrom_18
set_option maxRecDepth 100000 in
theorem run_Mo_isFrom {V : Ev} {σ : St} {p0 : Int64} {p1 : Int64} {p2 : Int64} {o : Int32}   (h : Mo_isFrom p0 p1 p2 = some o) : Rs V 0 M_X12_isFrom [.long p0, .long p1, .long p2] σ (some (.int o), σ) := by
  refine Rs.of (by decide +kernel) (Nat.le_of_ble_eq_true rfl) (fun Γ X => ?_)
  exact tm_Mo_isFrom X (A := fun o1 => o1 = o)  (fun _ e => by rw [e]) h rfl
theorem dX12_four_0 : decode cX12_four 0 = .ok (.bipush 24, 2) := by decide +kernel
theorem dX12_four_2 : decode cX12_four 2 = .ok (.istore_n 2, 1) := by decide +kernel
theorem dX12_four_3 : decode cX12_four 3 = .ok (.iload_n 2, 1) := by decide +kernel
theorem dX12_four_4 : decode cX12_four 4 = .ok (.ifCond .lt 32, 3) := by decide +kernel
theorem dX12_four_7 : decode cX12_four 7 = .ok (.aload_n 0, 1) := by decide +kernel
theorem dX12_four_8 : decode cX12_four 8 = .ok (.getfield 30, 3) := by decide +kernel
theorem dX12_four_11 : decode cX12_four 11 = .ok (.aload_n 0, 1) := by decide +kernel
theorem dX12_four_12 : decode cX12_four 12 = .ok (.getfield 112, 3) := by decide +kernel
theorem dX12_four_15 : decode cX12_four 15 = .ok (.iload_n 1, 1) := by decide +kernel
theorem dX12_four_16 : decode cX12_four 16 = .ok (.iload_n 2, 1) := by decide +kernel
theorem dX12_four_17 : decode cX12_four 17 = .ok (.ishr, 1) := by decide +kernel
theorem dX12_four_18 : decode cX12_four 18 = .ok (.i2b, 1) := by decide +kernel
theorem dX12_four_19 : decode cX12_four 19 = .ok (.bastore, 1) := by decide +kernel
theorem dX12_four_20 : decode cX12_four 20 = .ok (.aload_n 0, 1) := by decide +kernel
theorem dX12_four_21 : decode cX12_four 21 = .ok (.dup, 1) := by decide +kernel
theorem dX12_four_22 : decode cX12_four 22 = .ok (.getfield 112, 3) := by decide +kernel
theorem dX12_four_25 : decode cX12_four 25 = .ok (.iconst 1, 1) := by decide +kernel
theorem dX12_four_26 : decode cX12_four 26 = .ok (.iadd, 1) := by decide +kernel
theorem dX12_four_27 : decode cX12_four 27 = .ok (.putfield 112, 3) := by decide +kernel
theorem dX12_four_30 : decode cX12_four 30 = .ok (.iinc 2 (-8), 3) := by decide +kernel
theorem dX12_four_33 : decode cX12_four 33 = .ok (.goto (-30), 3) := by decide +kernel
theorem dX12_four_36 : decode cX12_four 36 = .ok (.return_, 1) := by decide +kernel
noncomputable def Mo_four_L3 (l1 : Int32) (σ : St) (x2 : Int32) : Option ((Int32 × St) ⊕ St) :=
  if x2 < 0 then (some (.inr σ)) else (chk (ix (σ.1 92 10) 900) (bnd (wI σ 98 (tn (σ.1 92 10)) (vp_nar .byte ((l1 >>> (x2 &&& 31)).toInt8.toInt32))) (fun σ2 => bnd (wI σ2 92 10 ((σ2.1 92 10) + 1)) (fun σ3 => bnd (x2 + (-8)) (fun v4 => some (.inl (v4, σ3)))))))
set_option maxRecDepth 100000 in
set_option maxHeartbeats 4000000 in
theorem tb_Mo_four_L3 {V : Ev} {Γ : Cn} {fin : Option Value × St} {l1 : Int32} {σ : St} {x2 : Int32} {o : ((Int32 × St) ⊕ St)} (X : Cx V Γ M_X12_four) {A : ((Int32 × St) ⊕ St) → Prop}  (hb3 : ∀ (x2 : Int32) (σ9 : St), A (.inl (x2, σ9)) → Go V Γ M_X12_four (Zm V Γ 0 fin) 3 [(0, .ref (V.2.2.1 + 92)), (1, .int l1), (2, .int x2)] [] σ9) (hx3 : ∀ (σ9 : St), A (.inr σ9) → Go V Γ M_X12_four (Zm V Γ 0 fin) 36 [] [] σ9) (h : Mo_four_L3 l1 σ x2 = some o) (hA : A o) : Go V Γ M_X12_four (Zm V Γ 0 fin) 3 [(0, .ref (V.2.2.1 + 92)), (1, .int l1), (2, .int x2)] [] σ := by
  unfold Mo_four_L3 at h
  refine g_iload_n (pc := 3) X 2 rfl dX12_four_3 ?_
  refine g_if_lt (pc := 4) (tgt := 36) X dX12_four_4 rfl (fun c5 => ?_) (fun c5 => ?_)
  · replace h := if_t c5 h
    refine g_sub [] rfl ?_
    cases h
    exact hx3 _ hA
  · replace h := if_f c5 h
    refine g_aload_n (pc := 7) X 0 rfl dX12_four_7 ?_
    refine g_getR (r := 98) (pc := 8) X k_fl_X12_30 s_92 rfl dX12_four_8 ?_
    refine g_aload_n (pc := 11) X 0 rfl dX12_four_11 ?_
    refine g_getI (pc := 12) X k_fl_X12_112 s_92 rfl dX12_four_12 ?_
    refine g_iload_n (pc := 15) X 1 rfl dX12_four_15 ?_
    refine g_iload_n (pc := 16) X 2 rfl dX12_four_16 ?_
    refine g_ishr (pc := 17) X dX12_four_17 ?_
    refine g_i2b (pc := 18) X dX12_four_18 ?_
    obtain ⟨c1, h⟩ := chk_e h
    refine g_bast (pc := 19) X s_98 c1 dX12_four_19 ?_
    obtain ⟨σ2, e_σ2, h⟩ := bnd_e h
    refine g_nmS e_σ2 ?_
    refine g_aload_n (pc := 20) X 0 rfl dX12_four_20 ?_
    refine g_dup (pc := 21) X rfl dX12_four_21 ?_
    refine g_getI (pc := 22) X k_fl_X12_112 s_92 rfl dX12_four_22 ?_
    refine g_iconst (v := 1) (pc := 25) X rfl dX12_four_25 ?_
    refine g_iadd (pc := 26) X dX12_four_26 ?_
    refine g_putI (pc := 27) X k_fl_X12_112 s_92 rfl rfl rfl dX12_four_27 ?_
    obtain ⟨σ3, e_σ3, h⟩ := bnd_e h
    refine g_nmS e_σ3 ?_
    obtain ⟨v4, e_v4, h⟩ := bnd_e h
    refine g_iinc (pc := 30) (v := v4) X [(2, .int v4), (0, .ref (V.2.2.1 + 92)), (1, .int l1)] 2 rfl (by rw [e_v4]; rfl) (Nat.le_of_ble_eq_true rfl) rfl dX12_four_30 ?_
    refine g_goto (pc := 33) (tgt := 3) X dX12_four_33 rfl ?_
    refine g_sub [1, 2, 0] rfl ?_
    cases h
    exact hb3 _ _ hA
set_option maxRecDepth 100000 in
theorem tl_Mo_four_L3 {V : Ev} {Γ : Cn} {fin : Option Value × St} {l1 : Int32} {x2 : Int32} {σ9 : St} (X : Cx V Γ M_X12_four)  {σ8 : St} {n : Nat} (h : iter (fun s : (Int32 × St) => Mo_four_L3 l1 s.2 s.1) n (x2, σ9) = some σ8) (hK : Go V Γ M_X12_four (Zm V Γ 0 fin) 36 [] [] σ8) : Go V Γ M_X12_four (Zm V Γ 0 fin) 3 [(0, .ref (V.2.2.1 + 92)), (1, .int l1), (2, .int x2)] [] σ9 := by
  refine iter_go (G := (fun s : (Int32 × St) => Go V Γ M_X12_four (Zm V Γ 0 fin) 3 [(0, .ref (V.2.2.1 + 92)), (1, .int l1), (2, .int s.1)] [] s.2)) (fun s o ho hS => ?_) n (x2, σ9) h
  exact tb_Mo_four_L3 X  (fun _ _ h9 => h9) (fun _ he => by cases he; exact hK) ho hS
noncomputable def Mo_four (σ : St) (p1 : Int32) : Option St :=
  bd (iter (fun s : (Int32 × St) => Mo_four_L3 p1 s.2 s.1) FUEL (24, σ)) (fun σ6 => some σ6)
set_option maxRecDepth 100000 in
set_option maxHeartbeats 4000000 in
theorem tm_Mo_four {V : Ev} {Γ : Cn} {fin : Option Value × St} {σ : St} {p1 : Int32} {o : St} (X : Cx V Γ M_X12_four) {A : St → Prop}  (hr : ∀ (σ9 : St), A σ9 → (none, σ9) = fin) (h : Mo_four σ p1 = some o) (hA : A o) : Go V Γ M_X12_four (Zm V Γ 0 fin) 0 [(0, .ref (V.2.2.1 + 92)), (1, .int p1)] [] σ := by
  unfold Mo_four at h
  refine g_bipush (v := 24) (pc := 0) X (by decide) dX12_four_0 ?_
  refine g_istore_n (pc := 2) X [(2, .int 24), (0, .ref (V.2.2.1 + 92)), (1, .int p1)] rfl (Nat.le_of_ble_eq_true rfl) rfl dX12_four_2 ?_
  refine g_sub [1, 2, 0] rfl ?_
  obtain ⟨σ6, hi7, h⟩ := bd_e h
  refine tl_Mo_four_L3 X  hi7 ?_
  cases h
  exact g_vret (pc := 36) X rfl (hr _ hA) dX12_four_36
set_option maxRecDepth 100000 in
theorem run_Mo_four {V : Ev} {σ : St} {p1 : Int32} {o : St}   (h : Mo_four σ p1 = some o) : Rs V 0 M_X12_four [.ref (V.2.2.1 + 92), .int p1] σ (none, o) := by
  refine Rs.of (by decide +kernel) (Nat.le_of_ble_eq_true rfl) (fun Γ X => ?_)
  exact tm_Mo_four X (A := fun o1 => o1 = o)  (fun _ e => by rw [e]) h rfl
theorem dX12_feed_0 : decode cX12_feed 0 = .ok (.aload_n 0, 1) := by decide +kernel
theorem dX12_feed_1 : decode cX12_feed 1 = .ok (.getfield 112, 3) := by decide +kernel
theorem dX12_feed_4 : decode cX12_feed 4 = .ok (.bipush 20, 2) := by decide +kernel
theorem dX12_feed_6 : decode cX12_feed 6 = .ok (.iadd, 1) := by decide +kernel
theorem dX12_feed_7 : decode cX12_feed 7 = .ok (.sipush 900, 3) := by decide +kernel
theorem dX12_feed_10 : decode cX12_feed 10 = .ok (.if_icmp .le 5, 3) := by decide +kernel
theorem dX12_feed_13 : decode cX12_feed 13 = .ok (.iconst (-1), 1) := by decide +kernel
theorem dX12_feed_14 : decode cX12_feed 14 = .ok (.ireturn, 1) := by decide +kernel
theorem dX12_feed_15 : decode cX12_feed 15 = .ok (.aload_n 0, 1) := by decide +kernel
theorem dX12_feed_16 : decode cX12_feed 16 = .ok (.iload_n 1, 1) := by decide +kernel
theorem dX12_feed_17 : decode cX12_feed 17 = .ok (.invokevirtual 115, 3) := by decide +kernel
theorem dX12_feed_20 : decode cX12_feed 20 = .ok (.aload_n 0, 1) := by decide +kernel
theorem dX12_feed_21 : decode cX12_feed 21 = .ok (.iload_n 2, 1) := by decide +kernel
theorem dX12_feed_22 : decode cX12_feed 22 = .ok (.invokevirtual 115, 3) := by decide +kernel
theorem dX12_feed_25 : decode cX12_feed 25 = .ok (.aload_n 0, 1) := by decide +kernel
theorem dX12_feed_26 : decode cX12_feed 26 = .ok (.iload_n 3, 1) := by decide +kernel
theorem dX12_feed_27 : decode cX12_feed 27 = .ok (.invokevirtual 115, 3) := by decide +kernel
theorem dX12_feed_30 : decode cX12_feed 30 = .ok (.aload_n 0, 1) := by decide +kernel
theorem dX12_feed_31 : decode cX12_feed 31 = .ok (.iload 4, 2) := by decide +kernel
theorem dX12_feed_33 : decode cX12_feed 33 = .ok (.invokevirtual 115, 3) := by decide +kernel
theorem dX12_feed_36 : decode cX12_feed 36 = .ok (.aload_n 0, 1) := by decide +kernel
theorem dX12_feed_37 : decode cX12_feed 37 = .ok (.iload 5, 2) := by decide +kernel
theorem dX12_feed_39 : decode cX12_feed 39 = .ok (.invokevirtual 115, 3) := by decide +kernel
theorem dX12_feed_42 : decode cX12_feed 42 = .ok (.aload_n 0, 1) := by decide +kernel
theorem dX12_feed_43 : decode cX12_feed 43 = .ok (.getfield 112, 3) := by decide +kernel
theorem dX12_feed_46 : decode cX12_feed 46 = .ok (.ireturn, 1) := by decide +kernel
noncomputable def Mo_feed (σ : St) (p1 : Int32) (p2 : Int32) (p3 : Int32) (p4 : Int32) (p5 : Int32) : Option (Int32 × St) :=
  if ((σ.1 92 10) + 20) ≤ 900 then (bd (Mo_four σ p1) (fun σ2 => bd (Mo_four σ2 p2) (fun σ4 => bd (Mo_four σ4 p3) (fun σ6 => bd (Mo_four σ6 p4) (fun σ8 => bd (Mo_four σ8 p5) (fun σ10 => some ((σ10.1 92 10), σ10))))))) else (some ((-1), σ))
set_option maxRecDepth 100000 in
set_option maxHeartbeats 4000000 in
theorem tm_Mo_feed {V : Ev} {Γ : Cn} {fin : Option Value × St} {σ : St} {p1 : Int32} {p2 : Int32} {p3 : Int32} {p4 : Int32} {p5 : Int32} {o : (Int32 × St)} (X : Cx V Γ M_X12_feed) {A : (Int32 × St) → Prop}  (hr : ∀ (r : Int32) (σ9 : St), A (r, σ9) → (some (.int r), σ9) = fin) (h : Mo_feed σ p1 p2 p3 p4 p5 = some o) (hA : A o) : Go V Γ M_X12_feed (Zm V Γ 1 fin) 0 [(0, .ref (V.2.2.1 + 92)), (1, .int p1), (2, .int p2), (3, .int p3), (4, .int p4), (5, .int p5)] [] σ := by
  unfold Mo_feed at h
  refine g_aload_n (pc := 0) X 0 rfl dX12_feed_0 ?_
  refine g_getI (pc := 1) X k_fl_X12_112 s_92 rfl dX12_feed_1 ?_
  refine g_bipush (v := 20) (pc := 4) X (by decide) dX12_feed_4 ?_
  refine g_iadd (pc := 6) X dX12_feed_6 ?_
  refine g_sipush (v := 900) (pc := 7) X (by decide) dX12_feed_7 ?_
  refine g_icmp_le (pc := 10) (tgt := 15) X dX12_feed_10 rfl (fun c11 => ?_) (fun c11 => ?_)
  · replace h := if_t c11 h
    refine g_aload_n (pc := 15) X 0 rfl dX12_feed_15 ?_
    refine g_iload_n (pc := 16) X 1 rfl dX12_feed_16 ?_
    obtain ⟨σ2, hc1, h⟩ := bd_e h
    refine g_callV (pc := 17) X k_ml_X12_115 (run_Mo_four  hc1) s_92 rfl (room_ok (Nat.le_of_ble_eq_true rfl) (Nat.le_of_ble_eq_true rfl)) ⟨Nat.le_refl _, Nat.le_refl _⟩ _ rfl (Nat.le_of_ble_eq_true rfl) dX12_feed_17 ?_
    show Go V Γ M_X12_feed (Zm V Γ 1 fin) 20 [(0, .ref (V.2.2.1 + 92)), (1, .int p1), (2, .int p2), (3, .int p3), (4, .int p4), (5, .int p5)] [] σ2
    refine g_aload_n (pc := 20) X 0 rfl dX12_feed_20 ?_
    refine g_iload_n (pc := 21) X 2 rfl dX12_feed_21 ?_
    obtain ⟨σ4, hc3, h⟩ := bd_e h
    refine g_callV (pc := 22) X k_ml_X12_115 (run_Mo_four  hc3) s_92 rfl (room_ok (Nat.le_of_ble_eq_true rfl) (Nat.le_of_ble_eq_true rfl)) ⟨Nat.le_refl _, Nat.le_refl _⟩ _ rfl (Nat.le_of_ble_eq_true rfl) dX12_feed_22 ?_
    show Go V Γ M_X12_feed (Zm V Γ 1 fin) 25 [(0, .ref (V.2.2.1 + 92)), (1, .int p1), (2, .int p2), (3, .int p3), (4, .int p4), (5, .int p5)] [] σ4
    refine g_aload_n (pc := 25) X 0 rfl dX12_feed_25 ?_
    refine g_iload_n (pc := 26) X 3 rfl dX12_feed_26 ?_
    obtain ⟨σ6, hc5, h⟩ := bd_e h
    refine g_callV (pc := 27) X k_ml_X12_115 (run_Mo_four  hc5) s_92 rfl (room_ok (Nat.le_of_ble_eq_true rfl) (Nat.le_of_ble_eq_true rfl)) ⟨Nat.le_refl _, Nat.le_refl _⟩ _ rfl (Nat.le_of_ble_eq_true rfl) dX12_feed_27 ?_
    show Go V Γ M_X12_feed (Zm V Γ 1 fin) 30 [(0, .ref (V.2.2.1 + 92)), (1, .int p1), (2, .int p2), (3, .int p3), (4, .int p4), (5, .int p5)] [] σ6
    refine g_aload_n (pc := 30) X 0 rfl dX12_feed_30 ?_
    refine g_iload (pc := 31) X 4 rfl dX12_feed_31 ?_
    obtain ⟨σ8, hc7, h⟩ := bd_e h
    refine g_callV (pc := 33) X k_ml_X12_115 (run_Mo_four  hc7) s_92 rfl (room_ok (Nat.le_of_ble_eq_true rfl) (Nat.le_of_ble_eq_true rfl)) ⟨Nat.le_refl _, Nat.le_refl _⟩ _ rfl (Nat.le_of_ble_eq_true rfl) dX12_feed_33 ?_
    show Go V Γ M_X12_feed (Zm V Γ 1 fin) 36 [(0, .ref (V.2.2.1 + 92)), (1, .int p1), (2, .int p2), (3, .int p3), (4, .int p4), (5, .int p5)] [] σ8
    refine g_aload_n (pc := 36) X 0 rfl dX12_feed_36 ?_
    refine g_iload (pc := 37) X 5 rfl dX12_feed_37 ?_
    obtain ⟨σ10, hc9, h⟩ := bd_e h
    refine g_callV (pc := 39) X k_ml_X12_115 (run_Mo_four  hc9) s_92 rfl (room_ok (Nat.le_of_ble_eq_true rfl) (Nat.le_of_ble_eq_true rfl)) ⟨Nat.le_refl _, Nat.le_refl _⟩ _ rfl (Nat.le_of_ble_eq_true rfl) dX12_feed_39 ?_
    show Go V Γ M_X12_feed (Zm V Γ 1 fin) 42 [(0, .ref (V.2.2.1 + 92)), (1, .int p1), (2, .int p2), (3, .int p3), (4, .int p4), (5, .int p5)] [] σ10
    refine g_aload_n (pc := 42) X 0 rfl dX12_feed_42 ?_
    refine g_getI (pc := 43) X k_fl_X12_112 s_92 rfl dX12_feed_43 ?_
    cases h
    exact g_iret (pc := 46) X rfl rfl (hr _ _ hA) dX12_feed_46
  · replace h := if_f c11 h
    refine g_iconst (v := (-1)) (pc := 13) X rfl dX12_feed_13 ?_
    cases h
    exact g_iret (pc := 14) X rfl rfl (hr _ _ hA) dX12_feed_14
set_option maxRecDepth 100000 in
theorem run_Mo_feed {V : Ev} {σ : St} {p1 : Int32} {p2 : Int32} {p3 : Int32} {p4 : Int32} {p5 : Int32} {o : (Int32 × St)}   (h : Mo_feed σ p1 p2 p3 p4 p5 = some o) : Rs V 1 M_X12_feed [.ref (V.2.2.1 + 92), .int p1, .int p2, .int p3, .int p4, .int p5] σ (some (.int o.1), o.2) := by
  refine Rs.of (by decide +kernel) (Nat.le_of_ble_eq_true rfl) (fun Γ X => ?_)
  exact tm_Mo_feed X (A := fun o1 => o1 = o)  (fun _ _ e => by rw [← e]) h rfl
theorem dX12_byteAt_0 : decode cX12_byteAt 0 = .ok (.iload_n 1, 1) := by decide +kernel
theorem dX12_byteAt_1 : decode cX12_byteAt 1 = .ok (.aload_n 0, 1) := by decide +kernel
theorem dX12_byteAt_2 : decode cX12_byteAt 2 = .ok (.getfield 118, 3) := by decide +kernel
theorem dX12_byteAt_5 : decode cX12_byteAt 5 = .ok (.if_icmp .ge 16, 3) := by decide +kernel
theorem dX12_byteAt_8 : decode cX12_byteAt 8 = .ok (.aload_n 0, 1) := by decide +kernel
theorem dX12_byteAt_9 : decode cX12_byteAt 9 = .ok (.getfield 34, 3) := by decide +kernel
theorem dX12_byteAt_12 : decode cX12_byteAt 12 = .ok (.iload_n 1, 1) := by decide +kernel
theorem dX12_byteAt_13 : decode cX12_byteAt 13 = .ok (.baload, 1) := by decide +kernel
theorem dX12_byteAt_14 : decode cX12_byteAt 14 = .ok (.sipush 255, 3) := by decide +kernel
theorem dX12_byteAt_17 : decode cX12_byteAt 17 = .ok (.iand, 1) := by decide +kernel
theorem dX12_byteAt_18 : decode cX12_byteAt 18 = .ok (.goto 4, 3) := by decide +kernel
theorem dX12_byteAt_21 : decode cX12_byteAt 21 = .ok (.iconst (-1), 1) := by decide +kernel
theorem dX12_byteAt_22 : decode cX12_byteAt 22 = .ok (.ireturn, 1) := by decide +kernel
noncomputable def Mo_byteAt (σ : St) (p1 : Int32) : Option Int32 :=
  if (σ.1 92 11) ≤ p1 then (some (-1)) else (chk (ix p1 900) (some ((σ.1 99 (tn p1)) &&& 255)))
set_option maxRecDepth 100000 in
set_option maxHeartbeats 4000000 in
theorem tm_Mo_byteAt {V : Ev} {Γ : Cn} {fin : Option Value × St} {σ : St} {p1 : Int32} {o : Int32} (X : Cx V Γ M_X12_byteAt) {A : Int32 → Prop}  (hr : ∀ (r : Int32), A r → (some (.int r), σ) = fin) (h : Mo_byteAt σ p1 = some o) (hA : A o) : Go V Γ M_X12_byteAt (Zm V Γ 0 fin) 0 [(0, .ref (V.2.2.1 + 92)), (1, .int p1)] [] σ := by
  unfold Mo_byteAt at h
  refine g_iload_n (pc := 0) X 1 rfl dX12_byteAt_0 ?_
  refine g_aload_n (pc := 1) X 0 rfl dX12_byteAt_1 ?_
  refine g_getI (pc := 2) X k_fl_X12_118 s_92 rfl dX12_byteAt_2 ?_
  refine g_icmp_ge (pc := 5) (tgt := 21) X dX12_byteAt_5 rfl (fun c2 => ?_) (fun c2 => ?_)
  · replace h := if_t c2 h
    refine g_iconst (v := (-1)) (pc := 21) X rfl dX12_byteAt_21 ?_
    cases h
    exact g_iret (pc := 22) X rfl rfl (hr _ hA) dX12_byteAt_22
  · replace h := if_f c2 h
    refine g_aload_n (pc := 8) X 0 rfl dX12_byteAt_8 ?_
    refine g_getR (r := 99) (pc := 9) X k_fl_X12_34 s_92 rfl dX12_byteAt_9 ?_
    refine g_iload_n (pc := 12) X 1 rfl dX12_byteAt_12 ?_
    obtain ⟨c1, h⟩ := chk_e h
    refine g_bald (pc := 13) X s_99 c1 dX12_byteAt_13 ?_
    refine g_sipush (v := 255) (pc := 14) X (by decide) dX12_byteAt_14 ?_
    refine g_iand (pc := 17) X dX12_byteAt_17 ?_
    refine g_goto (pc := 18) (tgt := 22) X dX12_byteAt_18 rfl ?_
    cases h
    exact g_iret (pc := 22) X rfl rfl (hr _ hA) dX12_byteAt_22
set_option maxRecDepth 100000 in
theorem run_Mo_byteAt {V : Ev} {σ : St} {p1 : Int32} {o : Int32}   (h : Mo_byteAt σ p1 = some o) : Rs V 0 M_X12_byteAt [.ref (V.2.2.1 + 92), .int p1] σ (some (.int o), σ) := by
  refine Rs.of (by decide +kernel) (Nat.le_of_ble_eq_true rfl) (fun Γ X => ?_)
  exact tm_Mo_byteAt X (A := fun o1 => o1 = o)  (fun _ e => by rw [e]) h rfl
theorem dX12_isSmall_0 : decode cX12_isSmall 0 = .ok (.iload_n 0, 1) := by decide +kernel
theorem dX12_isSmall_1 : decode cX12_isSmall 1 = .ok (.bipush 97, 2) := by decide +kernel
theorem dX12_isSmall_3 : decode cX12_isSmall 3 = .ok (.if_icmp .lt 13, 3) := by decide +kernel
theorem dX12_isSmall_6 : decode cX12_isSmall 6 = .ok (.iload_n 0, 1) := by decide +kernel
theorem dX12_isSmall_7 : decode cX12_isSmall 7 = .ok (.bipush 122, 2) := by decide +kernel
theorem dX12_isSmall_9 : decode cX12_isSmall 9 = .ok (.if_icmp .gt 7, 3) := by decide +kernel
theorem dX12_isSmall_12 : decode cX12_isSmall 12 = .ok (.iconst 1, 1) := by decide +kernel
theorem dX12_isSmall_13 : decode cX12_isSmall 13 = .ok (.goto 4, 3) := by decide +kernel
theorem dX12_isSmall_16 : decode cX12_isSmall 16 = .ok (.iconst 0, 1) := by decide +kernel
theorem dX12_isSmall_17 : decode cX12_isSmall 17 = .ok (.ireturn, 1) := by decide +kernel
noncomputable def Mo_isSmall (p0 : Int32) : Option Int32 :=
  if p0 < 97 then (some 0) else (if 122 < p0 then (some 0) else (some 1))
set_option maxRecDepth 100000 in
set_option maxHeartbeats 4000000 in
theorem tm_Mo_isSmall {V : Ev} {Γ : Cn} {fin : Option Value × St} {σ : St} {p0 : Int32} {o : Int32} (X : Cx V Γ M_X12_isSmall) {A : Int32 → Prop}  (hr : ∀ (r : Int32), A r → (some (.int r), σ) = fin) (h : Mo_isSmall p0 = some o) (hA : A o) : Go V Γ M_X12_isSmall (Zm V Γ 0 fin) 0 [(0, .int p0)] [] σ := by
  unfold Mo_isSmall at h
  refine g_iload_n (pc := 0) X 0 rfl dX12_isSmall_0 ?_
  refine g_bipush (v := 97) (pc := 1) X (by decide) dX12_isSmall_1 ?_
  refine g_icmp_lt (pc := 3) (tgt := 16) X dX12_isSmall_3 rfl (fun c2 => ?_) (fun c2 => ?_)
  · replace h := if_t c2 h
    refine g_iconst (v := 0) (pc := 16) X rfl dX12_isSmall_16 ?_
    cases h
    exact g_iret (pc := 17) X rfl nz0.1 (hr _ hA) dX12_isSmall_17
  · replace h := if_f c2 h
    refine g_iload_n (pc := 6) X 0 rfl dX12_isSmall_6 ?_
    refine g_bipush (v := 122) (pc := 7) X (by decide) dX12_isSmall_7 ?_
    refine g_icmp_gt (pc := 9) (tgt := 16) X dX12_isSmall_9 rfl (fun c1 => ?_) (fun c1 => ?_)
    · replace h := if_t c1 h
      refine g_iconst (v := 0) (pc := 16) X rfl dX12_isSmall_16 ?_
      cases h
      exact g_iret (pc := 17) X rfl nz0.1 (hr _ hA) dX12_isSmall_17
    · replace h := if_f c1 h
      refine g_iconst (v := 1) (pc := 12) X rfl dX12_isSmall_12 ?_
      refine g_goto (pc := 13) (tgt := 17) X dX12_isSmall_13 rfl ?_
      cases h
      exact g_iret (pc := 17) X rfl nz1.1 (hr _ hA) dX12_isSmall_17
set_option maxRecDepth 100000 in
theorem run_Mo_isSmall {V : Ev} {σ : St} {p0 : Int32} {o : Int32}   (h : Mo_isSmall p0 = some o) : Rs V 0 M_X12_isSmall [.int p0] σ (some (.int o), σ) := by
  refine Rs.of (by decide +kernel) (Nat.le_of_ble_eq_true rfl) (fun Γ X => ?_)
  exact tm_Mo_isSmall X (A := fun o1 => o1 = o)  (fun _ e => by rw [e]) h rfl
