theorem dX6_value_0 : decode cX6_value 0 = .ok (.aload_n 0, 1) := by decide +kernel
theorem dX6_value_1 : decode cX6_value 1 = .ok (.getfield 29, 3) := by decide +kernel
theorem dX6_value_4 : decode cX6_value 4 = .ok (.aload_n 0, 1) := by decide +kernel
theorem dX6_value_5 : decode cX6_value 5 = .ok (.getfield 36, 3) := by decide +kernel
theorem dX6_value_8 : decode cX6_value 8 = .ok (.laload, 1) := by decide +kernel
theorem dX6_value_9 : decode cX6_value 9 = .ok (.lreturn, 1) := by decide +kernel
noncomputable def Re_value (σ : St) : Option Int64 :=
  chk (ix (σ.1 2 7) 901) (some (σ.2 6 (tn (σ.1 2 7))))
set_option maxRecDepth 100000 in
set_option maxHeartbeats 4000000 in
theorem tm_Re_value {V : Ev} {Γ : Cn} {fin : Option Value × St} {σ : St} {o : Int64} (X : Cx V Γ M_X6_value) {A : Int64 → Prop}  (hr : ∀ (r : Int64), A r → (some (.long r), σ) = fin) (h : Re_value σ = some o) (hA : A o) : Go V Γ M_X6_value (Zm V Γ 0 fin) 0 [(0, .ref (V.2.2.1 + 2))] [] σ := by
  unfold Re_value at h
  refine g_aload_n (pc := 0) X 0 rfl dX6_value_0 ?_
  refine g_getR (r := 6) (pc := 1) X k_fl_X6_29 s_2 rfl dX6_value_1 ?_
  refine g_aload_n (pc := 4) X 0 rfl dX6_value_4 ?_
  refine g_getI (pc := 5) X k_fl_X6_36 s_2 rfl dX6_value_5 ?_
  obtain ⟨c1, h⟩ := chk_e h
  refine g_lald (pc := 8) X s_6 c1 dX6_value_8 ?_
  cases h
  exact g_lret (pc := 9) X rfl (hr _ hA) dX6_value_9
set_option maxRecDepth 100000 in
theorem run_Re_value {V : Ev} {σ : St} {o : Int64}   (h : Re_value σ = some o) : Rs V 0 M_X6_value [.ref (V.2.2.1 + 2)] σ (some (.long o), σ) := by
  refine Rs.of (by decide +kernel) (Nat.le_of_ble_eq_true rfl) (fun Γ X => ?_)
  exact tm_Re_value X (A := fun o1 => o1 = o)  (fun _ e => by rw [e]) h rfl
theorem dX3_takeWho_0 : decode cX3_takeWho 0 = .ok (.aload_n 0, 1) := by decide +kernel
theorem dX3_takeWho_1 : decode cX3_takeWho 1 = .ok (.invokevirtual 14, 3) := by decide +kernel
theorem dX3_takeWho_4 : decode cX3_takeWho 4 = .ok (.iconst 3, 1) := by decide +kernel
theorem dX3_takeWho_5 : decode cX3_takeWho 5 = .ok (.if_icmp .eq 9, 3) := by decide +kernel
theorem dX3_takeWho_8 : decode cX3_takeWho 8 = .ok (.aload_n 0, 1) := by decide +kernel
theorem dX3_takeWho_9 : decode cX3_takeWho 9 = .ok (.iconst 2, 1) := by decide +kernel
theorem dX3_takeWho_10 : decode cX3_takeWho 10 = .ok (.invokevirtual 30, 3) := by decide +kernel
theorem dX3_takeWho_13 : decode cX3_takeWho 13 = .ok (.ireturn, 1) := by decide +kernel
theorem dX3_takeWho_14 : decode cX3_takeWho 14 = .ok (.aload_n 1, 1) := by decide +kernel
theorem dX3_takeWho_15 : decode cX3_takeWho 15 = .ok (.aload_n 0, 1) := by decide +kernel
theorem dX3_takeWho_16 : decode cX3_takeWho 16 = .ok (.invokevirtual 105, 3) := by decide +kernel
theorem dX3_takeWho_19 : decode cX3_takeWho 19 = .ok (.invokevirtual 109, 3) := by decide +kernel
theorem dX3_takeWho_22 : decode cX3_takeWho 22 = .ok (.istore 4, 2) := by decide +kernel
theorem dX3_takeWho_24 : decode cX3_takeWho 24 = .ok (.iload 4, 2) := by decide +kernel
theorem dX3_takeWho_26 : decode cX3_takeWho 26 = .ok (.iconst (-1), 1) := by decide +kernel
theorem dX3_takeWho_27 : decode cX3_takeWho 27 = .ok (.if_icmp .ne 9, 3) := by decide +kernel
theorem dX3_takeWho_30 : decode cX3_takeWho 30 = .ok (.aload_n 0, 1) := by decide +kernel
theorem dX3_takeWho_31 : decode cX3_takeWho 31 = .ok (.iconst 3, 1) := by decide +kernel
theorem dX3_takeWho_32 : decode cX3_takeWho 32 = .ok (.invokevirtual 30, 3) := by decide +kernel
theorem dX3_takeWho_35 : decode cX3_takeWho 35 = .ok (.ireturn, 1) := by decide +kernel
theorem dX3_takeWho_36 : decode cX3_takeWho 36 = .ok (.aload_n 2, 1) := by decide +kernel
theorem dX3_takeWho_37 : decode cX3_takeWho 37 = .ok (.getfield 115, 3) := by decide +kernel
theorem dX3_takeWho_40 : decode cX3_takeWho 40 = .ok (.iload_n 3, 1) := by decide +kernel
theorem dX3_takeWho_41 : decode cX3_takeWho 41 = .ok (.iload 4, 2) := by decide +kernel
theorem dX3_takeWho_43 : decode cX3_takeWho 43 = .ok (.iastore, 1) := by decide +kernel
theorem dX3_takeWho_44 : decode cX3_takeWho 44 = .ok (.aload_n 0, 1) := by decide +kernel
theorem dX3_takeWho_45 : decode cX3_takeWho 45 = .ok (.invokevirtual 57, 3) := by decide +kernel
theorem dX3_takeWho_48 : decode cX3_takeWho 48 = .ok (.iconst 1, 1) := by decide +kernel
theorem dX3_takeWho_49 : decode cX3_takeWho 49 = .ok (.ireturn, 1) := by decide +kernel
noncomputable def DT_takeWho (σ : St) (a1 : Nat) (a2 : Nat) (p3 : Int32) : Option (Int32 × St) :=
  bd (Re_token σ) (fun r2 => if r2 = 3 then (bd (Re_value σ) (fun r4 => bd (Cl_find σ a1 r4) (fun r6 => if r6 = (-1) then (bd2 (Re_blame σ 3) (fun r12 σ13 => chk (ckz r12) (some (r12, σ13)))) else (chk (ix p3 60) (bnd (wI σ (a2 + 4) (tn p3) r6) (fun σ8 => bd (Re_step σ8) (fun σ10 => some (1, σ10)))))))) else (bd2 (Re_blame σ 2) (fun r17 σ18 => chk (ckz r17) (some (r17, σ18)))))
set_option maxRecDepth 100000 in
set_option maxHeartbeats 4000000 in
theorem tm_DT_takeWho {V : Ev} {Γ : Cn} {fin : Option Value × St} {σ : St} {a1 : Nat} {a2 : Nat} {p3 : Int32} {o : (Int32 × St)} (X : Cx V Γ M_X3_takeWho) {A : (Int32 × St) → Prop} (k1 : okCl a1) (k2 : okDa a2) (hr : ∀ (r : Int32) (σ9 : St), A (r, σ9) → (some (.int r), σ9) = fin) (h : DT_takeWho σ a1 a2 p3 = some o) (hA : A o) : Go V Γ M_X3_takeWho (Zm V Γ 1 fin) 0 [(0, .ref (V.2.2.1 + 2)), (1, .ref (V.2.2.1 + a1)), (2, .ref (V.2.2.1 + a2)), (3, .int p3)] [] σ := by
  unfold DT_takeWho at h
  refine g_aload_n (pc := 0) X 0 rfl dX3_takeWho_0 ?_
  obtain ⟨r2, hc1, h⟩ := bd_e h
  refine g_callV (pc := 1) X k_ml_X3_14 (run_Re_token  hc1) s_2 rfl (room_ok (Nat.le_of_ble_eq_true rfl) (Nat.le_of_ble_eq_true rfl)) ⟨Nat.le_refl _, Nat.le_refl _⟩ _ rfl (Nat.le_of_ble_eq_true rfl) dX3_takeWho_1 ?_
  show Go V Γ M_X3_takeWho (Zm V Γ 1 fin) 4 [(0, .ref (V.2.2.1 + 2)), (1, .ref (V.2.2.1 + a1)), (2, .ref (V.2.2.1 + a2)), (3, .int p3)] [.int r2] σ
  refine g_iconst (v := 3) (pc := 4) X rfl dX3_takeWho_4 ?_
  refine g_icmp_eq (pc := 5) (tgt := 14) X dX3_takeWho_5 rfl (fun c20 => ?_) (fun c20 => ?_)
  · replace h := if_t c20 h
    refine g_aload_n (pc := 14) X 1 rfl dX3_takeWho_14 ?_
    refine g_aload_n (pc := 15) X 0 rfl dX3_takeWho_15 ?_
    obtain ⟨r4, hc3, h⟩ := bd_e h
    refine g_callV (pc := 16) X k_ml_X3_105 (run_Re_value  hc3) s_2 rfl (room_ok (Nat.le_of_ble_eq_true rfl) (Nat.le_of_ble_eq_true rfl)) ⟨Nat.le_refl _, Nat.le_refl _⟩ _ rfl (Nat.le_of_ble_eq_true rfl) dX3_takeWho_16 ?_
    show Go V Γ M_X3_takeWho (Zm V Γ 1 fin) 19 [(0, .ref (V.2.2.1 + 2)), (1, .ref (V.2.2.1 + a1)), (2, .ref (V.2.2.1 + a2)), (3, .int p3)] [.long r4, .ref (V.2.2.1 + a1)] σ
    obtain ⟨r6, hc5, h⟩ := bd_e h
    refine g_callV (pc := 19) X k_ml_X3_109 (run_Cl_find k1 hc5) (sCl_0 k1) rfl (room_ok (Nat.le_of_ble_eq_true rfl) (Nat.le_of_ble_eq_true rfl)) ⟨Nat.le_refl _, Nat.le_refl _⟩ _ rfl (Nat.le_of_ble_eq_true rfl) dX3_takeWho_19 ?_
    show Go V Γ M_X3_takeWho (Zm V Γ 1 fin) 22 [(0, .ref (V.2.2.1 + 2)), (1, .ref (V.2.2.1 + a1)), (2, .ref (V.2.2.1 + a2)), (3, .int p3)] [.int r6] σ
    refine g_istore (pc := 22) X [(4, .int r6), (0, .ref (V.2.2.1 + 2)), (1, .ref (V.2.2.1 + a1)), (2, .ref (V.2.2.1 + a2)), (3, .int p3)] (Nat.le_of_ble_eq_true rfl) rfl dX3_takeWho_22 ?_
    refine g_iload (pc := 24) X 0 rfl dX3_takeWho_24 ?_
    refine g_iconst (v := (-1)) (pc := 26) X rfl dX3_takeWho_26 ?_
    refine g_icmp_ne (pc := 27) (tgt := 36) X dX3_takeWho_27 rfl (fun c15 => ?_) (fun c15 => ?_)
    · replace h := if_f c15 h
      refine g_aload_n (pc := 36) X 3 rfl dX3_takeWho_36 ?_
      refine g_getR (r := (a2 + 4)) (pc := 37) X k_fl_X3_115 (sDa_0 k2) rfl dX3_takeWho_37 ?_
      refine g_iload_n (pc := 40) X 4 rfl dX3_takeWho_40 ?_
      refine g_iload (pc := 41) X 0 rfl dX3_takeWho_41 ?_
      obtain ⟨c7, h⟩ := chk_e h
      refine g_iast (pc := 43) X (sDa_4 k2) c7 dX3_takeWho_43 ?_
      obtain ⟨σ8, e_σ8, h⟩ := bnd_e h
      refine g_nmS e_σ8 ?_
      refine g_aload_n (pc := 44) X 1 rfl dX3_takeWho_44 ?_
      obtain ⟨σ10, hc9, h⟩ := bd_e h
      refine g_callV (pc := 45) X k_ml_X3_57 (run_Re_step  hc9) s_2 rfl (room_ok (Nat.le_of_ble_eq_true rfl) (Nat.le_of_ble_eq_true rfl)) ⟨Nat.le_refl _, Nat.le_refl _⟩ _ rfl (Nat.le_of_ble_eq_true rfl) dX3_takeWho_45 ?_
      show Go V Γ M_X3_takeWho (Zm V Γ 1 fin) 48 [(4, .int r6), (0, .ref (V.2.2.1 + 2)), (1, .ref (V.2.2.1 + a1)), (2, .ref (V.2.2.1 + a2)), (3, .int p3)] [] σ10
      refine g_iconst (v := 1) (pc := 48) X rfl dX3_takeWho_48 ?_
      cases h
      exact g_iret (pc := 49) X rfl nz1.1 (hr _ _ hA) dX3_takeWho_49
    · replace h := if_t c15 h
      refine g_aload_n (pc := 30) X 1 rfl dX3_takeWho_30 ?_
      refine g_iconst (v := 3) (pc := 31) X rfl dX3_takeWho_31 ?_
      obtain ⟨r12, σ13, hc11, h⟩ := bd2_e h
      refine g_callV (pc := 32) X k_ml_X3_30 (run_Re_blame  hc11) s_2 rfl (room_ok (Nat.le_of_ble_eq_true rfl) (Nat.le_of_ble_eq_true rfl)) ⟨Nat.le_refl _, Nat.le_refl _⟩ _ rfl (Nat.le_of_ble_eq_true rfl) dX3_takeWho_32 ?_
      show Go V Γ M_X3_takeWho (Zm V Γ 1 fin) 35 [(4, .int r6), (0, .ref (V.2.2.1 + 2)), (1, .ref (V.2.2.1 + a1)), (2, .ref (V.2.2.1 + a2)), (3, .int p3)] [.int r12] σ13
      obtain ⟨c14, h⟩ := chk_e h
      cases h
      exact g_iret (pc := 35) X rfl (ckz_e c14).1 (hr _ _ hA) dX3_takeWho_35
  · replace h := if_f c20 h
    refine g_aload_n (pc := 8) X 0 rfl dX3_takeWho_8 ?_
    refine g_iconst (v := 2) (pc := 9) X rfl dX3_takeWho_9 ?_
    obtain ⟨r17, σ18, hc16, h⟩ := bd2_e h
    refine g_callV (pc := 10) X k_ml_X3_30 (run_Re_blame  hc16) s_2 rfl (room_ok (Nat.le_of_ble_eq_true rfl) (Nat.le_of_ble_eq_true rfl)) ⟨Nat.le_refl _, Nat.le_refl _⟩ _ rfl (Nat.le_of_ble_eq_true rfl) dX3_takeWho_10 ?_
    show Go V Γ M_X3_takeWho (Zm V Γ 1 fin) 13 [(0, .ref (V.2.2.1 + 2)), (1, .ref (V.2.2.1 + a1)), (2, .ref (V.2.2.1 + a2)), (3, .int p3)] [.int r17] σ18
    obtain ⟨c19, h⟩ := chk_e h
    cases h
    exact g_iret (pc := 13) X rfl (ckz_e c19).1 (hr _ _ hA) dX3_takeWho_13
set_option maxRecDepth 100000 in
theorem run_DT_takeWho {V : Ev} {σ : St} {a1 : Nat} {a2 : Nat} {p3 : Int32} {o : (Int32 × St)} (k1 : okCl a1) (k2 : okDa a2)  (h : DT_takeWho σ a1 a2 p3 = some o) : Rs V 1 M_X3_takeWho [.ref (V.2.2.1 + 2), .ref (V.2.2.1 + a1), .ref (V.2.2.1 + a2), .int p3] σ (some (.int o.1), o.2) := by
  refine Rs.of (by decide +kernel) (Nat.le_of_ble_eq_true rfl) (fun Γ X => ?_)
  exact tm_DT_takeWho X (A := fun o1 => o1 = o) k1 k2 (fun _ _ e => by rw [← e]) h rfl
theorem dX6_takeNumber_0 : decode cX6_takeNumber 0 = .ok (.aload_n 0, 1) := by decide +kernel
theorem dX6_takeNumber_1 : decode cX6_takeNumber 1 = .ok (.getfield 22, 3) := by decide +kernel
theorem dX6_takeNumber_4 : decode cX6_takeNumber 4 = .ok (.aload_n 0, 1) := by decide +kernel
theorem dX6_takeNumber_5 : decode cX6_takeNumber 5 = .ok (.getfield 36, 3) := by decide +kernel
theorem dX6_takeNumber_8 : decode cX6_takeNumber 8 = .ok (.iaload, 1) := by decide +kernel
theorem dX6_takeNumber_9 : decode cX6_takeNumber 9 = .ok (.iconst 2, 1) := by decide +kernel
theorem dX6_takeNumber_10 : decode cX6_takeNumber 10 = .ok (.if_icmp .eq 9, 3) := by decide +kernel
theorem dX6_takeNumber_13 : decode cX6_takeNumber 13 = .ok (.aload_n 0, 1) := by decide +kernel
theorem dX6_takeNumber_14 : decode cX6_takeNumber 14 = .ok (.iconst 2, 1) := by decide +kernel
theorem dX6_takeNumber_15 : decode cX6_takeNumber 15 = .ok (.invokevirtual 112, 3) := by decide +kernel
theorem dX6_takeNumber_18 : decode cX6_takeNumber 18 = .ok (.ireturn, 1) := by decide +kernel
theorem dX6_takeNumber_19 : decode cX6_takeNumber 19 = .ok (.aload_n 0, 1) := by decide +kernel
theorem dX6_takeNumber_20 : decode cX6_takeNumber 20 = .ok (.getfield 29, 3) := by decide +kernel
theorem dX6_takeNumber_23 : decode cX6_takeNumber 23 = .ok (.aload_n 0, 1) := by decide +kernel
theorem dX6_takeNumber_24 : decode cX6_takeNumber 24 = .ok (.getfield 36, 3) := by decide +kernel
theorem dX6_takeNumber_27 : decode cX6_takeNumber 27 = .ok (.laload, 1) := by decide +kernel
theorem dX6_takeNumber_28 : decode cX6_takeNumber 28 = .ok (.iload_n 1, 1) := by decide +kernel
theorem dX6_takeNumber_29 : decode cX6_takeNumber 29 = .ok (.i2l, 1) := by decide +kernel
theorem dX6_takeNumber_30 : decode cX6_takeNumber 30 = .ok (.iload_n 2, 1) := by decide +kernel
theorem dX6_takeNumber_31 : decode cX6_takeNumber 31 = .ok (.i2l, 1) := by decide +kernel
theorem dX6_takeNumber_32 : decode cX6_takeNumber 32 = .ok (.invokestatic 119, 3) := by decide +kernel
theorem dX6_takeNumber_35 : decode cX6_takeNumber 35 = .ok (.ifCond .ne 9, 3) := by decide +kernel
theorem dX6_takeNumber_38 : decode cX6_takeNumber 38 = .ok (.aload_n 0, 1) := by decide +kernel
theorem dX6_takeNumber_39 : decode cX6_takeNumber 39 = .ok (.iconst 4, 1) := by decide +kernel
theorem dX6_takeNumber_40 : decode cX6_takeNumber 40 = .ok (.invokevirtual 112, 3) := by decide +kernel
theorem dX6_takeNumber_43 : decode cX6_takeNumber 43 = .ok (.ireturn, 1) := by decide +kernel
theorem dX6_takeNumber_44 : decode cX6_takeNumber 44 = .ok (.aload_n 0, 1) := by decide +kernel
theorem dX6_takeNumber_45 : decode cX6_takeNumber 45 = .ok (.aload_n 0, 1) := by decide +kernel
theorem dX6_takeNumber_46 : decode cX6_takeNumber 46 = .ok (.getfield 29, 3) := by decide +kernel
theorem dX6_takeNumber_49 : decode cX6_takeNumber 49 = .ok (.aload_n 0, 1) := by decide +kernel
theorem dX6_takeNumber_50 : decode cX6_takeNumber 50 = .ok (.getfield 36, 3) := by decide +kernel
theorem dX6_takeNumber_53 : decode cX6_takeNumber 53 = .ok (.laload, 1) := by decide +kernel
theorem dX6_takeNumber_54 : decode cX6_takeNumber 54 = .ok (.putfield 39, 3) := by decide +kernel
theorem dX6_takeNumber_57 : decode cX6_takeNumber 57 = .ok (.aload_n 0, 1) := by decide +kernel
theorem dX6_takeNumber_58 : decode cX6_takeNumber 58 = .ok (.invokevirtual 116, 3) := by decide +kernel
theorem dX6_takeNumber_61 : decode cX6_takeNumber 61 = .ok (.iconst 1, 1) := by decide +kernel
theorem dX6_takeNumber_62 : decode cX6_takeNumber 62 = .ok (.ireturn, 1) := by decide +kernel
noncomputable def Re_takeNumber (σ : St) (p1 : Int32) (p2 : Int32) : Option (Int32 × St) :=
  chk (ix (σ.1 2 7) 901) (if (σ.1 4 (tn (σ.1 2 7))) = 2 then (chk (ix (σ.1 2 7) 901) (bd (RC_within (σ.2 6 (tn (σ.1 2 7))) p1.toInt64 p2.toInt64) (fun r4 => if r4 = 0 then (bd2 (Re_blame σ 4) (fun r10 σ11 => chk (ckz r10) (some (r10, σ11)))) else (chk (ix (σ.1 2 7) 901) (bnd (wL σ 2 8 (σ.2 6 (tn (σ.1 2 7)))) (fun σ6 => bd (Re_step σ6) (fun σ8 => some (1, σ8)))))))) else (bd2 (Re_blame σ 2) (fun r15 σ16 => chk (ckz r15) (some (r15, σ16)))))
set_option maxRecDepth 100000 in
set_option maxHeartbeats 4000000 in
theorem tm_Re_takeNumber {V : Ev} {Γ : Cn} {fin : Option Value × St} {σ : St} {p1 : Int32} {p2 : Int32} {o : (Int32 × St)} (X : Cx V Γ M_X6_takeNumber) {A : (Int32 × St) → Prop}  (hr : ∀ (r : Int32) (σ9 : St), A (r, σ9) → (some (.int r), σ9) = fin) (h : Re_takeNumber σ p1 p2 = some o) (hA : A o) : Go V Γ M_X6_takeNumber (Zm V Γ 1 fin) 0 [(0, .ref (V.2.2.1 + 2)), (1, .int p1), (2, .int p2)] [] σ := by
  unfold Re_takeNumber at h
  refine g_aload_n (pc := 0) X 0 rfl dX6_takeNumber_0 ?_
  refine g_getR (r := 4) (pc := 1) X k_fl_X6_22 s_2 rfl dX6_takeNumber_1 ?_
  refine g_aload_n (pc := 4) X 0 rfl dX6_takeNumber_4 ?_
  refine g_getI (pc := 5) X k_fl_X6_36 s_2 rfl dX6_takeNumber_5 ?_
  obtain ⟨c1, h⟩ := chk_e h
  refine g_iald (pc := 8) X s_4 c1 dX6_takeNumber_8 ?_
  refine g_iconst (v := 2) (pc := 9) X rfl dX6_takeNumber_9 ?_
  refine g_icmp_eq (pc := 10) (tgt := 19) X dX6_takeNumber_10 rfl (fun c18 => ?_) (fun c18 => ?_)
  · replace h := if_t c18 h
    refine g_aload_n (pc := 19) X 0 rfl dX6_takeNumber_19 ?_
    refine g_getR (r := 6) (pc := 20) X k_fl_X6_29 s_2 rfl dX6_takeNumber_20 ?_
    refine g_aload_n (pc := 23) X 0 rfl dX6_takeNumber_23 ?_
    refine g_getI (pc := 24) X k_fl_X6_36 s_2 rfl dX6_takeNumber_24 ?_
    obtain ⟨c2, h⟩ := chk_e h
    refine g_lald (pc := 27) X s_6 c2 dX6_takeNumber_27 ?_
    refine g_iload_n (pc := 28) X 1 rfl dX6_takeNumber_28 ?_
    refine g_i2l (pc := 29) X dX6_takeNumber_29 ?_
    refine g_iload_n (pc := 30) X 2 rfl dX6_takeNumber_30 ?_
    refine g_i2l (pc := 31) X dX6_takeNumber_31 ?_
    obtain ⟨r4, hc3, h⟩ := bd_e h
    refine g_callS (pc := 32) X k_ml_X6_119 (run_RC_within  hc3) rfl (room_ok (Nat.le_of_ble_eq_true rfl) (Nat.le_of_ble_eq_true rfl)) ⟨Nat.le_refl _, Nat.le_refl _⟩ _ rfl (Nat.le_of_ble_eq_true rfl) dX6_takeNumber_32 ?_
    show Go V Γ M_X6_takeNumber (Zm V Γ 1 fin) 35 [(0, .ref (V.2.2.1 + 2)), (1, .int p1), (2, .int p2)] [.int r4] σ
    refine g_if_ne (pc := 35) (tgt := 44) X dX6_takeNumber_35 rfl (fun c13 => ?_) (fun c13 => ?_)
    · replace h := if_f c13 h
      refine g_aload_n (pc := 44) X 0 rfl dX6_takeNumber_44 ?_
      refine g_aload_n (pc := 45) X 0 rfl dX6_takeNumber_45 ?_
      refine g_getR (r := 6) (pc := 46) X k_fl_X6_29 s_2 rfl dX6_takeNumber_46 ?_
      refine g_aload_n (pc := 49) X 0 rfl dX6_takeNumber_49 ?_
      refine g_getI (pc := 50) X k_fl_X6_36 s_2 rfl dX6_takeNumber_50 ?_
      obtain ⟨c5, h⟩ := chk_e h
      refine g_lald (pc := 53) X s_6 c5 dX6_takeNumber_53 ?_
      refine g_putL (pc := 54) X k_fl_X6_39 s_2 rfl dX6_takeNumber_54 ?_
      obtain ⟨σ6, e_σ6, h⟩ := bnd_e h
      refine g_nmS e_σ6 ?_
      refine g_aload_n (pc := 57) X 0 rfl dX6_takeNumber_57 ?_
      obtain ⟨σ8, hc7, h⟩ := bd_e h
      refine g_callV (pc := 58) X k_ml_X6_116 (run_Re_step  hc7) s_2 rfl (room_ok (Nat.le_of_ble_eq_true rfl) (Nat.le_of_ble_eq_true rfl)) ⟨Nat.le_refl _, Nat.le_refl _⟩ _ rfl (Nat.le_of_ble_eq_true rfl) dX6_takeNumber_58 ?_
      show Go V Γ M_X6_takeNumber (Zm V Γ 1 fin) 61 [(0, .ref (V.2.2.1 + 2)), (1, .int p1), (2, .int p2)] [] σ8
      refine g_iconst (v := 1) (pc := 61) X rfl dX6_takeNumber_61 ?_
      cases h
      exact g_iret (pc := 62) X rfl nz1.1 (hr _ _ hA) dX6_takeNumber_62
    · replace h := if_t c13 h
      refine g_aload_n (pc := 38) X 0 rfl dX6_takeNumber_38 ?_
      refine g_iconst (v := 4) (pc := 39) X rfl dX6_takeNumber_39 ?_
      obtain ⟨r10, σ11, hc9, h⟩ := bd2_e h
      refine g_callV (pc := 40) X k_ml_X6_112 (run_Re_blame  hc9) s_2 rfl (room_ok (Nat.le_of_ble_eq_true rfl) (Nat.le_of_ble_eq_true rfl)) ⟨Nat.le_refl _, Nat.le_refl _⟩ _ rfl (Nat.le_of_ble_eq_true rfl) dX6_takeNumber_40 ?_
      show Go V Γ M_X6_takeNumber (Zm V Γ 1 fin) 43 [(0, .ref (V.2.2.1 + 2)), (1, .int p1), (2, .int p2)] [.int r10] σ11
      obtain ⟨c12, h⟩ := chk_e h
      cases h
      exact g_iret (pc := 43) X rfl (ckz_e c12).1 (hr _ _ hA) dX6_takeNumber_43
  · replace h := if_f c18 h
    refine g_aload_n (pc := 13) X 0 rfl dX6_takeNumber_13 ?_
    refine g_iconst (v := 2) (pc := 14) X rfl dX6_takeNumber_14 ?_
    obtain ⟨r15, σ16, hc14, h⟩ := bd2_e h
    refine g_callV (pc := 15) X k_ml_X6_112 (run_Re_blame  hc14) s_2 rfl (room_ok (Nat.le_of_ble_eq_true rfl) (Nat.le_of_ble_eq_true rfl)) ⟨Nat.le_refl _, Nat.le_refl _⟩ _ rfl (Nat.le_of_ble_eq_true rfl) dX6_takeNumber_15 ?_
    show Go V Γ M_X6_takeNumber (Zm V Γ 1 fin) 18 [(0, .ref (V.2.2.1 + 2)), (1, .int p1), (2, .int p2)] [.int r15] σ16
    obtain ⟨c17, h⟩ := chk_e h
    cases h
    exact g_iret (pc := 18) X rfl (ckz_e c17).1 (hr _ _ hA) dX6_takeNumber_18
set_option maxRecDepth 100000 in
theorem run_Re_takeNumber {V : Ev} {σ : St} {p1 : Int32} {p2 : Int32} {o : (Int32 × St)}   (h : Re_takeNumber σ p1 p2 = some o) : Rs V 1 M_X6_takeNumber [.ref (V.2.2.1 + 2), .int p1, .int p2] σ (some (.int o.1), o.2) := by
  refine Rs.of (by decide +kernel) (Nat.le_of_ble_eq_true rfl) (fun Γ X => ?_)
  exact tm_Re_takeNumber X (A := fun o1 => o1 = o)  (fun _ _ e => by rw [← e]) h rfl
theorem dX3_takeSign_0 : decode cX3_takeSign 0 = .ok (.aload_n 0, 1) := by decide +kernel
theorem dX3_takeSign_1 : decode cX3_takeSign 1 = .ok (.invokevirtual 14, 3) := by decide +kernel
theorem dX3_takeSign_4 : decode cX3_takeSign 4 = .ok (.istore_n 3, 1) := by decide +kernel
theorem dX3_takeSign_5 : decode cX3_takeSign 5 = .ok (.iload_n 3, 1) := by decide +kernel
theorem dX3_takeSign_6 : decode cX3_takeSign 6 = .ok (.bipush 6, 2) := by decide +kernel
theorem dX3_takeSign_8 : decode cX3_takeSign 8 = .ok (.if_icmp .eq 21, 3) := by decide +kernel
theorem dX3_takeSign_11 : decode cX3_takeSign 11 = .ok (.iload_n 3, 1) := by decide +kernel
theorem dX3_takeSign_12 : decode cX3_takeSign 12 = .ok (.bipush 7, 2) := by decide +kernel
theorem dX3_takeSign_14 : decode cX3_takeSign 14 = .ok (.if_icmp .eq 15, 3) := by decide +kernel
theorem dX3_takeSign_17 : decode cX3_takeSign 17 = .ok (.iload_n 3, 1) := by decide +kernel
theorem dX3_takeSign_18 : decode cX3_takeSign 18 = .ok (.bipush 8, 2) := by decide +kernel
theorem dX3_takeSign_20 : decode cX3_takeSign 20 = .ok (.if_icmp .eq 9, 3) := by decide +kernel
theorem dX3_takeSign_23 : decode cX3_takeSign 23 = .ok (.aload_n 0, 1) := by decide +kernel
theorem dX3_takeSign_24 : decode cX3_takeSign 24 = .ok (.iconst 2, 1) := by decide +kernel
theorem dX3_takeSign_25 : decode cX3_takeSign 25 = .ok (.invokevirtual 30, 3) := by decide +kernel
theorem dX3_takeSign_28 : decode cX3_takeSign 28 = .ok (.ireturn, 1) := by decide +kernel
theorem dX3_takeSign_29 : decode cX3_takeSign 29 = .ok (.aload_n 1, 1) := by decide +kernel
theorem dX3_takeSign_30 : decode cX3_takeSign 30 = .ok (.getfield 102, 3) := by decide +kernel
theorem dX3_takeSign_33 : decode cX3_takeSign 33 = .ok (.iload_n 2, 1) := by decide +kernel
theorem dX3_takeSign_34 : decode cX3_takeSign 34 = .ok (.iload_n 3, 1) := by decide +kernel
theorem dX3_takeSign_35 : decode cX3_takeSign 35 = .ok (.iastore, 1) := by decide +kernel
theorem dX3_takeSign_36 : decode cX3_takeSign 36 = .ok (.aload_n 0, 1) := by decide +kernel
theorem dX3_takeSign_37 : decode cX3_takeSign 37 = .ok (.invokevirtual 57, 3) := by decide +kernel
theorem dX3_takeSign_40 : decode cX3_takeSign 40 = .ok (.iconst 1, 1) := by decide +kernel
theorem dX3_takeSign_41 : decode cX3_takeSign 41 = .ok (.ireturn, 1) := by decide +kernel
noncomputable def DT_takeSign (σ : St) (a1 : Nat) (p2 : Int32) : Option (Int32 × St) :=
  bd (Re_token σ) (fun r2 => if r2 = 6 then (chk (ix p2 60) (bnd (wI σ (a1 + 3) (tn p2) r2) (fun σ4 => bd (Re_step σ4) (fun σ6 => some (1, σ6))))) else (if r2 = 7 then (chk (ix p2 60) (bnd (wI σ (a1 + 3) (tn p2) r2) (fun σ8 => bd (Re_step σ8) (fun σ10 => some (1, σ10))))) else (if r2 = 8 then (chk (ix p2 60) (bnd (wI σ (a1 + 3) (tn p2) r2) (fun σ12 => bd (Re_step σ12) (fun σ14 => some (1, σ14))))) else (bd2 (Re_blame σ 2) (fun r16 σ17 => chk (ckz r16) (some (r16, σ17)))))))
set_option maxRecDepth 100000 in
set_option maxHeartbeats 4000000 in
theorem tm_DT_takeSign {V : Ev} {Γ : Cn} {fin : Option Value × St} {σ : St} {a1 : Nat} {p2 : Int32} {o : (Int32 × St)} (X : Cx V Γ M_X3_takeSign) {A : (Int32 × St) → Prop} (k1 : okDa a1) (hr : ∀ (r : Int32) (σ9 : St), A (r, σ9) → (some (.int r), σ9) = fin) (h : DT_takeSign σ a1 p2 = some o) (hA : A o) : Go V Γ M_X3_takeSign (Zm V Γ 1 fin) 0 [(0, .ref (V.2.2.1 + 2)), (1, .ref (V.2.2.1 + a1)), (2, .int p2)] [] σ := by
  unfold DT_takeSign at h
  refine g_aload_n (pc := 0) X 0 rfl dX3_takeSign_0 ?_
  obtain ⟨r2, hc1, h⟩ := bd_e h
  refine g_callV (pc := 1) X k_ml_X3_14 (run_Re_token  hc1) s_2 rfl (room_ok (Nat.le_of_ble_eq_true rfl) (Nat.le_of_ble_eq_true rfl)) ⟨Nat.le_refl _, Nat.le_refl _⟩ _ rfl (Nat.le_of_ble_eq_true rfl) dX3_takeSign_1 ?_
  show Go V Γ M_X3_takeSign (Zm V Γ 1 fin) 4 [(0, .ref (V.2.2.1 + 2)), (1, .ref (V.2.2.1 + a1)), (2, .int p2)] [.int r2] σ
  refine g_istore_n (pc := 4) X [(3, .int r2), (0, .ref (V.2.2.1 + 2)), (1, .ref (V.2.2.1 + a1)), (2, .int p2)] rfl (Nat.le_of_ble_eq_true rfl) rfl dX3_takeSign_4 ?_
  refine g_iload_n (pc := 5) X 0 rfl dX3_takeSign_5 ?_
  refine g_bipush (v := 6) (pc := 6) X (by decide) dX3_takeSign_6 ?_
  refine g_icmp_eq (pc := 8) (tgt := 29) X dX3_takeSign_8 rfl (fun c21 => ?_) (fun c21 => ?_)
  · replace h := if_t c21 h
    refine g_aload_n (pc := 29) X 2 rfl dX3_takeSign_29 ?_
    refine g_getR (r := (a1 + 3)) (pc := 30) X k_fl_X3_102 (sDa_0 k1) rfl dX3_takeSign_30 ?_
    refine g_iload_n (pc := 33) X 3 rfl dX3_takeSign_33 ?_
    refine g_iload_n (pc := 34) X 0 rfl dX3_takeSign_34 ?_
    obtain ⟨c3, h⟩ := chk_e h
    refine g_iast (pc := 35) X (sDa_3 k1) c3 dX3_takeSign_35 ?_
    obtain ⟨σ4, e_σ4, h⟩ := bnd_e h
    refine g_nmS e_σ4 ?_
    refine g_aload_n (pc := 36) X 1 rfl dX3_takeSign_36 ?_
    obtain ⟨σ6, hc5, h⟩ := bd_e h
    refine g_callV (pc := 37) X k_ml_X3_57 (run_Re_step  hc5) s_2 rfl (room_ok (Nat.le_of_ble_eq_true rfl) (Nat.le_of_ble_eq_true rfl)) ⟨Nat.le_refl _, Nat.le_refl _⟩ _ rfl (Nat.le_of_ble_eq_true rfl) dX3_takeSign_37 ?_
    show Go V Γ M_X3_takeSign (Zm V Γ 1 fin) 40 [(3, .int r2), (0, .ref (V.2.2.1 + 2)), (1, .ref (V.2.2.1 + a1)), (2, .int p2)] [] σ6
    refine g_iconst (v := 1) (pc := 40) X rfl dX3_takeSign_40 ?_
    cases h
    exact g_iret (pc := 41) X rfl nz1.1 (hr _ _ hA) dX3_takeSign_41
  · replace h := if_f c21 h
    refine g_iload_n (pc := 11) X 0 rfl dX3_takeSign_11 ?_
    refine g_bipush (v := 7) (pc := 12) X (by decide) dX3_takeSign_12 ?_
    refine g_icmp_eq (pc := 14) (tgt := 29) X dX3_takeSign_14 rfl (fun c20 => ?_) (fun c20 => ?_)
    · replace h := if_t c20 h
      refine g_aload_n (pc := 29) X 2 rfl dX3_takeSign_29 ?_
      refine g_getR (r := (a1 + 3)) (pc := 30) X k_fl_X3_102 (sDa_0 k1) rfl dX3_takeSign_30 ?_
      refine g_iload_n (pc := 33) X 3 rfl dX3_takeSign_33 ?_
      refine g_iload_n (pc := 34) X 0 rfl dX3_takeSign_34 ?_
      obtain ⟨c7, h⟩ := chk_e h
      refine g_iast (pc := 35) X (sDa_3 k1) c7 dX3_takeSign_35 ?_
      obtain ⟨σ8, e_σ8, h⟩ := bnd_e h
      refine g_nmS e_σ8 ?_
      refine g_aload_n (pc := 36) X 1 rfl dX3_takeSign_36 ?_
      obtain ⟨σ10, hc9, h⟩ := bd_e h
      refine g_callV (pc := 37) X k_ml_X3_57 (run_Re_step  hc9) s_2 rfl (room_ok (Nat.le_of_ble_eq_true rfl) (Nat.le_of_ble_eq_true rfl)) ⟨Nat.le_refl _, Nat.le_refl _⟩ _ rfl (Nat.le_of_ble_eq_true rfl) dX3_takeSign_37 ?_
      show Go V Γ M_X3_takeSign (Zm V Γ 1 fin) 40 [(3, .int r2), (0, .ref (V.2.2.1 + 2)), (1, .ref (V.2.2.1 + a1)), (2, .int p2)] [] σ10
      refine g_iconst (v := 1) (pc := 40) X rfl dX3_takeSign_40 ?_
      cases h
      exact g_iret (pc := 41) X rfl nz1.1 (hr _ _ hA) dX3_takeSign_41
    · replace h := if_f c20 h
      refine g_iload_n (pc := 17) X 0 rfl dX3_takeSign_17 ?_
      refine g_bipush (v := 8) (pc := 18) X (by decide) dX3_takeSign_18 ?_
      refine g_icmp_eq (pc := 20) (tgt := 29) X dX3_takeSign_20 rfl (fun c19 => ?_) (fun c19 => ?_)
      · replace h := if_t c19 h
        refine g_aload_n (pc := 29) X 2 rfl dX3_takeSign_29 ?_
        refine g_getR (r := (a1 + 3)) (pc := 30) X k_fl_X3_102 (sDa_0 k1) rfl dX3_takeSign_30 ?_
        refine g_iload_n (pc := 33) X 3 rfl dX3_takeSign_33 ?_
        refine g_iload_n (pc := 34) X 0 rfl dX3_takeSign_34 ?_
        obtain ⟨c11, h⟩ := chk_e h
        refine g_iast (pc := 35) X (sDa_3 k1) c11 dX3_takeSign_35 ?_
        obtain ⟨σ12, e_σ12, h⟩ := bnd_e h
        refine g_nmS e_σ12 ?_
        refine g_aload_n (pc := 36) X 1 rfl dX3_takeSign_36 ?_
        obtain ⟨σ14, hc13, h⟩ := bd_e h
        refine g_callV (pc := 37) X k_ml_X3_57 (run_Re_step  hc13) s_2 rfl (room_ok (Nat.le_of_ble_eq_true rfl) (Nat.le_of_ble_eq_true rfl)) ⟨Nat.le_refl _, Nat.le_refl _⟩ _ rfl (Nat.le_of_ble_eq_true rfl) dX3_takeSign_37 ?_
        show Go V Γ M_X3_takeSign (Zm V Γ 1 fin) 40 [(3, .int r2), (0, .ref (V.2.2.1 + 2)), (1, .ref (V.2.2.1 + a1)), (2, .int p2)] [] σ14
        refine g_iconst (v := 1) (pc := 40) X rfl dX3_takeSign_40 ?_
        cases h
        exact g_iret (pc := 41) X rfl nz1.1 (hr _ _ hA) dX3_takeSign_41
      · replace h := if_f c19 h
        refine g_aload_n (pc := 23) X 1 rfl dX3_takeSign_23 ?_
        refine g_iconst (v := 2) (pc := 24) X rfl dX3_takeSign_24 ?_
        obtain ⟨r16, σ17, hc15, h⟩ := bd2_e h
        refine g_callV (pc := 25) X k_ml_X3_30 (run_Re_blame  hc15) s_2 rfl (room_ok (Nat.le_of_ble_eq_true rfl) (Nat.le_of_ble_eq_true rfl)) ⟨Nat.le_refl _, Nat.le_refl _⟩ _ rfl (Nat.le_of_ble_eq_true rfl) dX3_takeSign_25 ?_
        show Go V Γ M_X3_takeSign (Zm V Γ 1 fin) 28 [(3, .int r2), (0, .ref (V.2.2.1 + 2)), (1, .ref (V.2.2.1 + a1)), (2, .int p2)] [.int r16] σ17
        obtain ⟨c18, h⟩ := chk_e h
        cases h
        exact g_iret (pc := 28) X rfl (ckz_e c18).1 (hr _ _ hA) dX3_takeSign_28
set_option maxRecDepth 100000 in
theorem run_DT_takeSign {V : Ev} {σ : St} {a1 : Nat} {p2 : Int32} {o : (Int32 × St)} (k1 : okDa a1)  (h : DT_takeSign σ a1 p2 = some o) : Rs V 1 M_X3_takeSign [.ref (V.2.2.1 + 2), .ref (V.2.2.1 + a1), .int p2] σ (some (.int o.1), o.2) := by
  refine Rs.of (by decide +kernel) (Nat.le_of_ble_eq_true rfl) (fun Γ X => ?_)
  exact tm_DT_takeSign X (A := fun o1 => o1 = o) k1 (fun _ _ e => by rw [← e]) h rfl
theorem dX3_takeTest_0 : decode cX3_takeTest 0 = .ok (.aload_n 0, 1) := by decide +kernel
theorem dX3_takeTest_1 : decode cX3_takeTest 1 = .ok (.invokevirtual 14, 3) := by decide +kernel
theorem dX3_takeTest_4 : decode cX3_takeTest 4 = .ok (.istore 4, 2) := by decide +kernel
theorem dX3_takeTest_6 : decode cX3_takeTest 6 = .ok (.iload 4, 2) := by decide +kernel
theorem dX3_takeTest_8 : decode cX3_takeTest 8 = .ok (.bipush 20, 2) := by decide +kernel
theorem dX3_takeTest_10 : decode cX3_takeTest 10 = .ok (.if_icmp .eq 30, 3) := by decide +kernel
theorem dX3_takeTest_13 : decode cX3_takeTest 13 = .ok (.iload 4, 2) := by decide +kernel
theorem dX3_takeTest_15 : decode cX3_takeTest 15 = .ok (.bipush 21, 2) := by decide +kernel
theorem dX3_takeTest_17 : decode cX3_takeTest 17 = .ok (.if_icmp .eq 23, 3) := by decide +kernel
theorem dX3_takeTest_20 : decode cX3_takeTest 20 = .ok (.iload 4, 2) := by decide +kernel
theorem dX3_takeTest_22 : decode cX3_takeTest 22 = .ok (.bipush 15, 2) := by decide +kernel
theorem dX3_takeTest_24 : decode cX3_takeTest 24 = .ok (.if_icmp .eq 16, 3) := by decide +kernel
theorem dX3_takeTest_27 : decode cX3_takeTest 27 = .ok (.iload 4, 2) := by decide +kernel
theorem dX3_takeTest_29 : decode cX3_takeTest 29 = .ok (.bipush 22, 2) := by decide +kernel
theorem dX3_takeTest_31 : decode cX3_takeTest 31 = .ok (.if_icmp .eq 9, 3) := by decide +kernel
theorem dX3_takeTest_34 : decode cX3_takeTest 34 = .ok (.aload_n 0, 1) := by decide +kernel
theorem dX3_takeTest_35 : decode cX3_takeTest 35 = .ok (.iconst 2, 1) := by decide +kernel
theorem dX3_takeTest_36 : decode cX3_takeTest 36 = .ok (.invokevirtual 30, 3) := by decide +kernel
theorem dX3_takeTest_39 : decode cX3_takeTest 39 = .ok (.ireturn, 1) := by decide +kernel
theorem dX3_takeTest_40 : decode cX3_takeTest 40 = .ok (.aload_n 2, 1) := by decide +kernel
theorem dX3_takeTest_41 : decode cX3_takeTest 41 = .ok (.getfield 95, 3) := by decide +kernel
theorem dX3_takeTest_44 : decode cX3_takeTest 44 = .ok (.iload_n 3, 1) := by decide +kernel
theorem dX3_takeTest_45 : decode cX3_takeTest 45 = .ok (.iload 4, 2) := by decide +kernel
theorem dX3_takeTest_47 : decode cX3_takeTest 47 = .ok (.iastore, 1) := by decide +kernel
theorem dX3_takeTest_48 : decode cX3_takeTest 48 = .ok (.aload_n 0, 1) := by decide +kernel
theorem dX3_takeTest_49 : decode cX3_takeTest 49 = .ok (.invokevirtual 57, 3) := by decide +kernel
theorem dX3_takeTest_52 : decode cX3_takeTest 52 = .ok (.iload 4, 2) := by decide +kernel
theorem dX3_takeTest_54 : decode cX3_takeTest 54 = .ok (.lookupswitch 77 #[(15, 43), (21, 34), (22, 51)], 34) := by decide +kernel
theorem dX3_takeTest_88 : decode cX3_takeTest 88 = .ok (.aload_n 0, 1) := by decide +kernel
theorem dX3_takeTest_89 : decode cX3_takeTest 89 = .ok (.iconst 0, 1) := by decide +kernel
theorem dX3_takeTest_90 : decode cX3_takeTest 90 = .ok (.sipush 9999, 3) := by decide +kernel
theorem dX3_takeTest_93 : decode cX3_takeTest 93 = .ok (.invokevirtual 88, 3) := by decide +kernel
theorem dX3_takeTest_96 : decode cX3_takeTest 96 = .ok (.ireturn, 1) := by decide +kernel
theorem dX3_takeTest_97 : decode cX3_takeTest 97 = .ok (.aload_n 0, 1) := by decide +kernel
theorem dX3_takeTest_98 : decode cX3_takeTest 98 = .ok (.aload_n 1, 1) := by decide +kernel
theorem dX3_takeTest_99 : decode cX3_takeTest 99 = .ok (.aload_n 2, 1) := by decide +kernel
theorem dX3_takeTest_100 : decode cX3_takeTest 100 = .ok (.iload_n 3, 1) := by decide +kernel
theorem dX3_takeTest_101 : decode cX3_takeTest 101 = .ok (.invokestatic 85, 3) := by decide +kernel
theorem dX3_takeTest_104 : decode cX3_takeTest 104 = .ok (.ireturn, 1) := by decide +kernel
theorem dX3_takeTest_105 : decode cX3_takeTest 105 = .ok (.aload_n 0, 1) := by decide +kernel
theorem dX3_takeTest_106 : decode cX3_takeTest 106 = .ok (.aload_n 2, 1) := by decide +kernel
theorem dX3_takeTest_107 : decode cX3_takeTest 107 = .ok (.iload_n 3, 1) := by decide +kernel
theorem dX3_takeTest_108 : decode cX3_takeTest 108 = .ok (.invokestatic 98, 3) := by decide +kernel
theorem dX3_takeTest_111 : decode cX3_takeTest 111 = .ok (.ifCond .eq 18, 3) := by decide +kernel
theorem dX3_takeTest_114 : decode cX3_takeTest 114 = .ok (.aload_n 0, 1) := by decide +kernel
theorem dX3_takeTest_115 : decode cX3_takeTest 115 = .ok (.iconst 0, 1) := by decide +kernel
theorem dX3_takeTest_116 : decode cX3_takeTest 116 = .ok (.sipush 5040, 3) := by decide +kernel
theorem dX3_takeTest_119 : decode cX3_takeTest 119 = .ok (.invokevirtual 88, 3) := by decide +kernel
theorem dX3_takeTest_122 : decode cX3_takeTest 122 = .ok (.ifCond .eq 7, 3) := by decide +kernel
theorem dX3_takeTest_125 : decode cX3_takeTest 125 = .ok (.iconst 1, 1) := by decide +kernel
theorem dX3_takeTest_126 : decode cX3_takeTest 126 = .ok (.goto 4, 3) := by decide +kernel
theorem dX3_takeTest_129 : decode cX3_takeTest 129 = .ok (.iconst 0, 1) := by decide +kernel
theorem dX3_takeTest_130 : decode cX3_takeTest 130 = .ok (.ireturn, 1) := by decide +kernel
theorem dX3_takeTest_131 : decode cX3_takeTest 131 = .ok (.iconst 1, 1) := by decide +kernel
theorem dX3_takeTest_132 : decode cX3_takeTest 132 = .ok (.ireturn, 1) := by decide +kernel
noncomputable def DT_takeTest_J40 (σ : St) (l1 : Nat) (l2 : Nat) (l3 : Int32) (l4 : Int32) : Option ((Int32 × St)) :=
  chk (ix l3 60) (bnd (wI σ (l2 + 2) (tn l3) l4) (fun σ4 => bd (Re_step σ4) (fun σ6 => if l4 = 15 then (bd2 (DT_takeWho σ6 l1 l2 l3) (fun r8 σ9 => chk (ckz r8) (some (r8, σ9)))) else if l4 = 21 then (bd2 (Re_takeNumber σ6 0 9999) (fun r13 σ14 => chk (ckz r13) (some (r13, σ14)))) else if l4 = 22 then (bd2 (DT_takeSign σ6 l2 l3) (fun r18 σ19 => if r18 = 0 then (some (0, σ19)) else (bd2 (Re_takeNumber σ19 0 5040) (fun r21 σ22 => if r21 = 0 then (some (0, σ22)) else (some (1, σ22)))))) else (some (1, σ6)))))
set_option maxRecDepth 100000 in
set_option maxHeartbeats 4000000 in
theorem tj_DT_takeTest_J40 {V : Ev} {Γ : Cn} {fin : Option Value × St} {σ : St} {l1 : Nat} {l2 : Nat} {l3 : Int32} {l4 : Int32} {o : (Int32 × St)} (X : Cx V Γ M_X3_takeTest) {A : (Int32 × St) → Prop} (k_l1 : okCl l1) (k_l2 : okDa l2) (hr : ∀ (r : Int32) (σ9 : St), A (r, σ9) → (some (.int r), σ9) = fin) (h : DT_takeTest_J40 σ l1 l2 l3 l4 = some o) (hA : A o) : Go V Γ M_X3_takeTest (Zm V Γ 2 fin) 40 [(0, .ref (V.2.2.1 + 2)), (1, .ref (V.2.2.1 + l1)), (2, .ref (V.2.2.1 + l2)), (3, .int l3), (4, .int l4)] [] σ := by
  unfold DT_takeTest_J40 at h
  refine g_aload_n (pc := 40) X 2 rfl dX3_takeTest_40 ?_
  refine g_getR (r := (l2 + 2)) (pc := 41) X k_fl_X3_95 (sDa_0 k_l2) rfl dX3_takeTest_41 ?_
  refine g_iload_n (pc := 44) X 3 rfl dX3_takeTest_44 ?_
  refine g_iload (pc := 45) X 4 rfl dX3_takeTest_45 ?_
  obtain ⟨c3, h⟩ := chk_e h
  refine g_iast (pc := 47) X (sDa_2 k_l2) c3 dX3_takeTest_47 ?_
  obtain ⟨σ4, e_σ4, h⟩ := bnd_e h
  refine g_nmS e_σ4 ?_
  refine g_aload_n (pc := 48) X 0 rfl dX3_takeTest_48 ?_
  obtain ⟨σ6, hc5, h⟩ := bd_e h
  refine g_callV (pc := 49) X k_ml_X3_57 (run_Re_step  hc5) s_2 rfl (room_ok (Nat.le_of_ble_eq_true rfl) (Nat.le_of_ble_eq_true rfl)) ⟨Nat.le_refl _, Nat.le_refl _⟩ _ rfl (Nat.le_of_ble_eq_true rfl) dX3_takeTest_49 ?_
  show Go V Γ M_X3_takeTest (Zm V Γ 2 fin) 52 [(0, .ref (V.2.2.1 + 2)), (1, .ref (V.2.2.1 + l1)), (2, .ref (V.2.2.1 + l2)), (3, .int l3), (4, .int l4)] [] σ6
  refine g_iload (pc := 52) X 4 rfl dX3_takeTest_52 ?_
  by_cases c11 : l4 = 15
  · replace h := if_t c11 h
    refine g_lookIn (pc := 54) (tgt := 97) X c11 dX3_takeTest_54 (by decide) rfl rfl ?_
    refine g_aload_n (pc := 97) X 0 rfl dX3_takeTest_97 ?_
    refine g_aload_n (pc := 98) X 1 rfl dX3_takeTest_98 ?_
    refine g_aload_n (pc := 99) X 2 rfl dX3_takeTest_99 ?_
    refine g_iload_n (pc := 100) X 3 rfl dX3_takeTest_100 ?_
    obtain ⟨r8, σ9, hc7, h⟩ := bd2_e h
    refine g_callS (pc := 101) X k_ml_X3_85 (run_DT_takeWho k_l1 k_l2 hc7) rfl (room_ok (Nat.le_of_ble_eq_true rfl) (Nat.le_of_ble_eq_true rfl)) ⟨Nat.le_refl _, Nat.le_refl _⟩ _ rfl (Nat.le_of_ble_eq_true rfl) dX3_takeTest_101 ?_
    show Go V Γ M_X3_takeTest (Zm V Γ 2 fin) 104 [(0, .ref (V.2.2.1 + 2)), (1, .ref (V.2.2.1 + l1)), (2, .ref (V.2.2.1 + l2)), (3, .int l3), (4, .int l4)] [.int r8] σ9
    obtain ⟨c10, h⟩ := chk_e h
    cases h
    exact g_iret (pc := 104) X rfl (ckz_e c10).1 (hr _ _ hA) dX3_takeTest_104
  replace h := if_f c11 h
  by_cases c16 : l4 = 21
  · replace h := if_t c16 h
    refine g_lookIn (pc := 54) (tgt := 88) X c16 dX3_takeTest_54 (by decide) rfl rfl ?_
    refine g_aload_n (pc := 88) X 0 rfl dX3_takeTest_88 ?_
    refine g_iconst (v := 0) (pc := 89) X rfl dX3_takeTest_89 ?_
    refine g_sipush (v := 9999) (pc := 90) X (by decide) dX3_takeTest_90 ?_
    obtain ⟨r13, σ14, hc12, h⟩ := bd2_e h
    refine g_callV (pc := 93) X k_ml_X3_88 (run_Re_takeNumber  hc12) s_2 rfl (room_ok (Nat.le_of_ble_eq_true rfl) (Nat.le_of_ble_eq_true rfl)) ⟨Nat.le_refl _, Nat.le_refl _⟩ _ rfl (Nat.le_of_ble_eq_true rfl) dX3_takeTest_93 ?_
    show Go V Γ M_X3_takeTest (Zm V Γ 2 fin) 96 [(0, .ref (V.2.2.1 + 2)), (1, .ref (V.2.2.1 + l1)), (2, .ref (V.2.2.1 + l2)), (3, .int l3), (4, .int l4)] [.int r13] σ14
    obtain ⟨c15, h⟩ := chk_e h
    cases h
    exact g_iret (pc := 96) X rfl (ckz_e c15).1 (hr _ _ hA) dX3_takeTest_96
  replace h := if_f c16 h
  by_cases c25 : l4 = 22
  · replace h := if_t c25 h
    refine g_lookIn (pc := 54) (tgt := 105) X c25 dX3_takeTest_54 (by decide) rfl rfl ?_
    refine g_aload_n (pc := 105) X 0 rfl dX3_takeTest_105 ?_
    refine g_aload_n (pc := 106) X 2 rfl dX3_takeTest_106 ?_
    refine g_iload_n (pc := 107) X 3 rfl dX3_takeTest_107 ?_
    obtain ⟨r18, σ19, hc17, h⟩ := bd2_e h
    refine g_callS (pc := 108) X k_ml_X3_98 (run_DT_takeSign k_l2 hc17) rfl (room_ok (Nat.le_of_ble_eq_true rfl) (Nat.le_of_ble_eq_true rfl)) ⟨Nat.le_refl _, Nat.le_refl _⟩ _ rfl (Nat.le_of_ble_eq_true rfl) dX3_takeTest_108 ?_
    show Go V Γ M_X3_takeTest (Zm V Γ 2 fin) 111 [(0, .ref (V.2.2.1 + 2)), (1, .ref (V.2.2.1 + l1)), (2, .ref (V.2.2.1 + l2)), (3, .int l3), (4, .int l4)] [.int r18] σ19
    refine g_if_eq (pc := 111) (tgt := 129) X dX3_takeTest_111 rfl (fun c24 => ?_) (fun c24 => ?_)
    · replace h := if_t c24 h
      refine g_iconst (v := 0) (pc := 129) X rfl dX3_takeTest_129 ?_
      cases h
      exact g_iret (pc := 130) X rfl nz0.1 (hr _ _ hA) dX3_takeTest_130
    · replace h := if_f c24 h
      refine g_aload_n (pc := 114) X 0 rfl dX3_takeTest_114 ?_
      refine g_iconst (v := 0) (pc := 115) X rfl dX3_takeTest_115 ?_
      refine g_sipush (v := 5040) (pc := 116) X (by decide) dX3_takeTest_116 ?_
      obtain ⟨r21, σ22, hc20, h⟩ := bd2_e h
      refine g_callV (pc := 119) X k_ml_X3_88 (run_Re_takeNumber  hc20) s_2 rfl (room_ok (Nat.le_of_ble_eq_true rfl) (Nat.le_of_ble_eq_true rfl)) ⟨Nat.le_refl _, Nat.le_refl _⟩ _ rfl (Nat.le_of_ble_eq_true rfl) dX3_takeTest_119 ?_
      show Go V Γ M_X3_takeTest (Zm V Γ 2 fin) 122 [(0, .ref (V.2.2.1 + 2)), (1, .ref (V.2.2.1 + l1)), (2, .ref (V.2.2.1 + l2)), (3, .int l3), (4, .int l4)] [.int r21] σ22
      refine g_if_eq (pc := 122) (tgt := 129) X dX3_takeTest_122 rfl (fun c23 => ?_) (fun c23 => ?_)
      · replace h := if_t c23 h
        refine g_iconst (v := 0) (pc := 129) X rfl dX3_takeTest_129 ?_
        cases h
        exact g_iret (pc := 130) X rfl nz0.1 (hr _ _ hA) dX3_takeTest_130
      · replace h := if_f c23 h
        refine g_iconst (v := 1) (pc := 125) X rfl dX3_takeTest_125 ?_
        refine g_goto (pc := 126) (tgt := 130) X dX3_takeTest_126 rfl ?_
        cases h
        exact g_iret (pc := 130) X rfl nz1.1 (hr _ _ hA) dX3_takeTest_130
  replace h := if_f c25 h
  refine g_lookOut (pc := 54) (tgt := 131) X dX3_takeTest_54 (by decide) ?_ rfl ?_
  · show Op.lookupswitch.offset [(15, 43), (21, 34), (22, 51)] _ _ = _
    rw [lv_osw (k := 15) (a := 15) c11 rfl, lv_osw (k := 21) (a := 21) c16 rfl, lv_osw (k := 22) (a := 22) c25 rfl]; rfl
  refine g_iconst (v := 1) (pc := 131) X rfl dX3_takeTest_131 ?_
  cases h
  exact g_iret (pc := 132) X rfl nz1.1 (hr _ _ hA) dX3_takeTest_132
noncomputable def DT_takeTest (σ : St) (a1 : Nat) (a2 : Nat) (p3 : Int32) : Option (Int32 × St) :=
  bd (Re_token σ) (fun r2 => if r2 = 20 then (DT_takeTest_J40 σ a1 a2 p3 r2) else (if r2 = 21 then (DT_takeTest_J40 σ a1 a2 p3 r2) else (if r2 = 15 then (DT_takeTest_J40 σ a1 a2 p3 r2) else (if r2 = 22 then (DT_takeTest_J40 σ a1 a2 p3 r2) else (bd2 (Re_blame σ 2) (fun r27 σ28 => chk (ckz r27) (some (r27, σ28))))))))
set_option maxRecDepth 100000 in
set_option maxHeartbeats 4000000 in
theorem tm_DT_takeTest {V : Ev} {Γ : Cn} {fin : Option Value × St} {σ : St} {a1 : Nat} {a2 : Nat} {p3 : Int32} {o : (Int32 × St)} (X : Cx V Γ M_X3_takeTest) {A : (Int32 × St) → Prop} (k1 : okCl a1) (k2 : okDa a2) (hr : ∀ (r : Int32) (σ9 : St), A (r, σ9) → (some (.int r), σ9) = fin) (h : DT_takeTest σ a1 a2 p3 = some o) (hA : A o) : Go V Γ M_X3_takeTest (Zm V Γ 2 fin) 0 [(0, .ref (V.2.2.1 + 2)), (1, .ref (V.2.2.1 + a1)), (2, .ref (V.2.2.1 + a2)), (3, .int p3)] [] σ := by
  unfold DT_takeTest at h
  refine g_aload_n (pc := 0) X 0 rfl dX3_takeTest_0 ?_
  obtain ⟨r2, hc1, h⟩ := bd_e h
  refine g_callV (pc := 1) X k_ml_X3_14 (run_Re_token  hc1) s_2 rfl (room_ok (Nat.le_of_ble_eq_true rfl) (Nat.le_of_ble_eq_true rfl)) ⟨Nat.le_refl _, Nat.le_refl _⟩ _ rfl (Nat.le_of_ble_eq_true rfl) dX3_takeTest_1 ?_
  show Go V Γ M_X3_takeTest (Zm V Γ 2 fin) 4 [(0, .ref (V.2.2.1 + 2)), (1, .ref (V.2.2.1 + a1)), (2, .ref (V.2.2.1 + a2)), (3, .int p3)] [.int r2] σ
  refine g_istore (pc := 4) X [(4, .int r2), (0, .ref (V.2.2.1 + 2)), (1, .ref (V.2.2.1 + a1)), (2, .ref (V.2.2.1 + a2)), (3, .int p3)] (Nat.le_of_ble_eq_true rfl) rfl dX3_takeTest_4 ?_
  refine g_iload (pc := 6) X 0 rfl dX3_takeTest_6 ?_
  refine g_bipush (v := 20) (pc := 8) X (by decide) dX3_takeTest_8 ?_
  refine g_icmp_eq (pc := 10) (tgt := 40) X dX3_takeTest_10 rfl (fun c33 => ?_) (fun c33 => ?_)
  · replace h := if_t c33 h
    refine g_sub [1, 2, 3, 4, 0] rfl ?_
    exact tj_DT_takeTest_J40 X k1 k2 hr h hA
  · replace h := if_f c33 h
    refine g_iload (pc := 13) X 0 rfl dX3_takeTest_13 ?_
    refine g_bipush (v := 21) (pc := 15) X (by decide) dX3_takeTest_15 ?_
    refine g_icmp_eq (pc := 17) (tgt := 40) X dX3_takeTest_17 rfl (fun c32 => ?_) (fun c32 => ?_)
    · replace h := if_t c32 h
      refine g_sub [1, 2, 3, 4, 0] rfl ?_
      exact tj_DT_takeTest_J40 X k1 k2 hr h hA
    · replace h := if_f c32 h
      refine g_iload (pc := 20) X 0 rfl dX3_takeTest_20 ?_
      refine g_bipush (v := 15) (pc := 22) X (by decide) dX3_takeTest_22 ?_
      refine g_icmp_eq (pc := 24) (tgt := 40) X dX3_takeTest_24 rfl (fun c31 => ?_) (fun c31 => ?_)
      · replace h := if_t c31 h
        refine g_sub [1, 2, 3, 4, 0] rfl ?_
        exact tj_DT_takeTest_J40 X k1 k2 hr h hA
      · replace h := if_f c31 h
        refine g_iload (pc := 27) X 0 rfl dX3_takeTest_27 ?_
        refine g_bipush (v := 22) (pc := 29) X (by decide) dX3_takeTest_29 ?_
        refine g_icmp_eq (pc := 31) (tgt := 40) X dX3_takeTest_31 rfl (fun c30 => ?_) (fun c30 => ?_)
        · replace h := if_t c30 h
          refine g_sub [1, 2, 3, 4, 0] rfl ?_
          exact tj_DT_takeTest_J40 X k1 k2 hr h hA
        · replace h := if_f c30 h
          refine g_aload_n (pc := 34) X 1 rfl dX3_takeTest_34 ?_
          refine g_iconst (v := 2) (pc := 35) X rfl dX3_takeTest_35 ?_
          obtain ⟨r27, σ28, hc26, h⟩ := bd2_e h
          refine g_callV (pc := 36) X k_ml_X3_30 (run_Re_blame  hc26) s_2 rfl (room_ok (Nat.le_of_ble_eq_true rfl) (Nat.le_of_ble_eq_true rfl)) ⟨Nat.le_refl _, Nat.le_refl _⟩ _ rfl (Nat.le_of_ble_eq_true rfl) dX3_takeTest_36 ?_
          show Go V Γ M_X3_takeTest (Zm V Γ 2 fin) 39 [(4, .int r2), (0, .ref (V.2.2.1 + 2)), (1, .ref (V.2.2.1 + a1)), (2, .ref (V.2.2.1 + a2)), (3, .int p3)] [.int r27] σ28
          obtain ⟨c29, h⟩ := chk_e h
          cases h
          exact g_iret (pc := 39) X rfl (ckz_e c29).1 (hr _ _ hA) dX3_takeTest_39
set_option maxRecDepth 100000 in
theorem run_DT_takeTest {V : Ev} {σ : St} {a1 : Nat} {a2 : Nat} {p3 : Int32} {o : (Int32 × St)} (k1 : okCl a1) (k2 : okDa a2)  (h : DT_takeTest σ a1 a2 p3 = some o) : Rs V 2 M_X3_takeTest [.ref (V.2.2.1 + 2), .ref (V.2.2.1 + a1), .ref (V.2.2.1 + a2), .int p3] σ (some (.int o.1), o.2) := by
  refine Rs.of (by decide +kernel) (Nat.le_of_ble_eq_true rfl) (fun Γ X => ?_)
  exact tm_DT_takeTest X (A := fun o1 => o1 = o) k1 k2 (fun _ _ e => by rw [← e]) h rfl
theorem dX3_takeRest_0 : decode cX3_takeRest 0 = .ok (.aload_n 2, 1) := by decide +kernel
theorem dX3_takeRest_1 : decode cX3_takeRest 1 = .ok (.getfield 82, 3) := by decide +kernel
theorem dX3_takeRest_4 : decode cX3_takeRest 4 = .ok (.iload_n 3, 1) := by decide +kernel
theorem dX3_takeRest_5 : decode cX3_takeRest 5 = .ok (.iaload, 1) := by decide +kernel
theorem dX3_takeRest_6 : decode cX3_takeRest 6 = .ok (.tableswitch 112 14 23 #[54, 54, 62, 70, 112, 96, 112, 112, 112, 104], 54) := by decide +kernel
theorem dX3_takeRest_60 : decode cX3_takeRest 60 = .ok (.aload_n 0, 1) := by decide +kernel
theorem dX3_takeRest_61 : decode cX3_takeRest 61 = .ok (.aload_n 1, 1) := by decide +kernel
theorem dX3_takeRest_62 : decode cX3_takeRest 62 = .ok (.aload_n 2, 1) := by decide +kernel
theorem dX3_takeRest_63 : decode cX3_takeRest 63 = .ok (.iload_n 3, 1) := by decide +kernel
theorem dX3_takeRest_64 : decode cX3_takeRest 64 = .ok (.invokestatic 85, 3) := by decide +kernel
theorem dX3_takeRest_67 : decode cX3_takeRest 67 = .ok (.ireturn, 1) := by decide +kernel
theorem dX3_takeRest_68 : decode cX3_takeRest 68 = .ok (.aload_n 0, 1) := by decide +kernel
theorem dX3_takeRest_69 : decode cX3_takeRest 69 = .ok (.iconst 0, 1) := by decide +kernel
theorem dX3_takeRest_70 : decode cX3_takeRest 70 = .ok (.bipush 59, 2) := by decide +kernel
theorem dX3_takeRest_72 : decode cX3_takeRest 72 = .ok (.invokevirtual 88, 3) := by decide +kernel
theorem dX3_takeRest_75 : decode cX3_takeRest 75 = .ok (.ireturn, 1) := by decide +kernel
theorem dX3_takeRest_76 : decode cX3_takeRest 76 = .ok (.aload_n 0, 1) := by decide +kernel
theorem dX3_takeRest_77 : decode cX3_takeRest 77 = .ok (.aload_n 1, 1) := by decide +kernel
theorem dX3_takeRest_78 : decode cX3_takeRest 78 = .ok (.aload_n 2, 1) := by decide +kernel
theorem dX3_takeRest_79 : decode cX3_takeRest 79 = .ok (.iload_n 3, 1) := by decide +kernel
theorem dX3_takeRest_80 : decode cX3_takeRest 80 = .ok (.invokestatic 85, 3) := by decide +kernel
theorem dX3_takeRest_83 : decode cX3_takeRest 83 = .ok (.ifCond .eq 17, 3) := by decide +kernel
theorem dX3_takeRest_86 : decode cX3_takeRest 86 = .ok (.aload_n 0, 1) := by decide +kernel
theorem dX3_takeRest_87 : decode cX3_takeRest 87 = .ok (.iconst 2, 1) := by decide +kernel
theorem dX3_takeRest_88 : decode cX3_takeRest 88 = .ok (.bipush 7, 2) := by decide +kernel
theorem dX3_takeRest_90 : decode cX3_takeRest 90 = .ok (.invokevirtual 88, 3) := by decide +kernel
theorem dX3_takeRest_93 : decode cX3_takeRest 93 = .ok (.ifCond .eq 7, 3) := by decide +kernel
theorem dX3_takeRest_96 : decode cX3_takeRest 96 = .ok (.iconst 1, 1) := by decide +kernel
theorem dX3_takeRest_97 : decode cX3_takeRest 97 = .ok (.goto 4, 3) := by decide +kernel
theorem dX3_takeRest_100 : decode cX3_takeRest 100 = .ok (.iconst 0, 1) := by decide +kernel
theorem dX3_takeRest_101 : decode cX3_takeRest 101 = .ok (.ireturn, 1) := by decide +kernel
theorem dX3_takeRest_102 : decode cX3_takeRest 102 = .ok (.aload_n 0, 1) := by decide +kernel
theorem dX3_takeRest_103 : decode cX3_takeRest 103 = .ok (.aload_n 1, 1) := by decide +kernel
theorem dX3_takeRest_104 : decode cX3_takeRest 104 = .ok (.aload_n 2, 1) := by decide +kernel
theorem dX3_takeRest_105 : decode cX3_takeRest 105 = .ok (.iload_n 3, 1) := by decide +kernel
theorem dX3_takeRest_106 : decode cX3_takeRest 106 = .ok (.invokestatic 92, 3) := by decide +kernel
theorem dX3_takeRest_109 : decode cX3_takeRest 109 = .ok (.ireturn, 1) := by decide +kernel
theorem dX3_takeRest_110 : decode cX3_takeRest 110 = .ok (.aload_n 0, 1) := by decide +kernel
theorem dX3_takeRest_111 : decode cX3_takeRest 111 = .ok (.iconst 1, 1) := by decide +kernel
theorem dX3_takeRest_112 : decode cX3_takeRest 112 = .ok (.bipush 99, 2) := by decide +kernel
theorem dX3_takeRest_114 : decode cX3_takeRest 114 = .ok (.invokevirtual 88, 3) := by decide +kernel
theorem dX3_takeRest_117 : decode cX3_takeRest 117 = .ok (.ireturn, 1) := by decide +kernel
theorem dX3_takeRest_118 : decode cX3_takeRest 118 = .ok (.iconst 1, 1) := by decide +kernel
theorem dX3_takeRest_119 : decode cX3_takeRest 119 = .ok (.ireturn, 1) := by decide +kernel
noncomputable def DT_takeRest (σ : St) (a1 : Nat) (a2 : Nat) (p3 : Int32) : Option (Int32 × St) :=
  chk (ix p3 60) (if (σ.1 (a2 + 1) (tn p3)) = 14 then (bd2 (DT_takeWho σ a1 a2 p3) (fun r3 σ4 => chk (ckz r3) (some (r3, σ4)))) else if (σ.1 (a2 + 1) (tn p3)) = 15 then (bd2 (DT_takeWho σ a1 a2 p3) (fun r8 σ9 => chk (ckz r8) (some (r8, σ9)))) else if (σ.1 (a2 + 1) (tn p3)) = 16 then (bd2 (Re_takeNumber σ 0 59) (fun r13 σ14 => chk (ckz r13) (some (r13, σ14)))) else if (σ.1 (a2 + 1) (tn p3)) = 17 then (bd2 (DT_takeWho σ a1 a2 p3) (fun r18 σ19 => if r18 = 0 then (some (0, σ19)) else (bd2 (Re_takeNumber σ19 2 7) (fun r21 σ22 => if r21 = 0 then (some (0, σ22)) else (some (1, σ22)))))) else if (σ.1 (a2 + 1) (tn p3)) = 18 then (some (1, σ)) else if (σ.1 (a2 + 1) (tn p3)) = 19 then (bd2 (DT_takeTest σ a1 a2 p3) (fun r28 σ29 => chk (ckz r28) (some (r28, σ29)))) else if (σ.1 (a2 + 1) (tn p3)) = 20 then (some (1, σ)) else if (σ.1 (a2 + 1) (tn p3)) = 21 then (some (1, σ)) else if (σ.1 (a2 + 1) (tn p3)) = 22 then (some (1, σ)) else if (σ.1 (a2 + 1) (tn p3)) = 23 then (bd2 (Re_takeNumber σ 1 99) (fun r36 σ37 => chk (ckz r36) (some (r36, σ37)))) else (some (1, σ)))
set_option maxRecDepth 100000 in
set_option maxHeartbeats 4000000 in
theorem tm_DT_takeRest {V : Ev} {Γ : Cn} {fin : Option Value × St} {σ : St} {a1 : Nat} {a2 : Nat} {p3 : Int32} {o : (Int32 × St)} (X : Cx V Γ M_X3_takeRest) {A : (Int32 × St) → Prop} (k1 : okCl a1) (k2 : okDa a2) (hr : ∀ (r : Int32) (σ9 : St), A (r, σ9) → (some (.int r), σ9) = fin) (h : DT_takeRest σ a1 a2 p3 = some o) (hA : A o) : Go V Γ M_X3_takeRest (Zm V Γ 3 fin) 0 [(0, .ref (V.2.2.1 + 2)), (1, .ref (V.2.2.1 + a1)), (2, .ref (V.2.2.1 + a2)), (3, .int p3)] [] σ := by
  unfold DT_takeRest at h
  refine g_aload_n (pc := 0) X 2 rfl dX3_takeRest_0 ?_
  refine g_getR (r := (a2 + 1)) (pc := 1) X k_fl_X3_82 (sDa_0 k2) rfl dX3_takeRest_1 ?_
  refine g_iload_n (pc := 4) X 3 rfl dX3_takeRest_4 ?_
  obtain ⟨c1, h⟩ := chk_e h
  refine g_iald (pc := 5) X (sDa_1 k2) c1 dX3_takeRest_5 ?_
  by_cases c6 : (σ.1 (a2 + 1) (tn p3)) = 14
  · replace h := if_t c6 h
    refine g_tabIn (pc := 6) (tgt := 60) X c6 dX3_takeRest_6 (by decide) (by decide) rfl rfl ?_
    refine g_aload_n (pc := 60) X 0 rfl dX3_takeRest_60 ?_
    refine g_aload_n (pc := 61) X 1 rfl dX3_takeRest_61 ?_
    refine g_aload_n (pc := 62) X 2 rfl dX3_takeRest_62 ?_
    refine g_iload_n (pc := 63) X 3 rfl dX3_takeRest_63 ?_
    obtain ⟨r3, σ4, hc2, h⟩ := bd2_e h
    refine g_callS (pc := 64) X k_ml_X3_85 (run_DT_takeWho k1 k2 hc2) rfl (room_ok (Nat.le_of_ble_eq_true rfl) (Nat.le_of_ble_eq_true rfl)) ⟨Nat.le_refl _, Nat.le_refl _⟩ _ rfl (Nat.le_of_ble_eq_true rfl) dX3_takeRest_64 ?_
    show Go V Γ M_X3_takeRest (Zm V Γ 3 fin) 67 [(0, .ref (V.2.2.1 + 2)), (1, .ref (V.2.2.1 + a1)), (2, .ref (V.2.2.1 + a2)), (3, .int p3)] [.int r3] σ4
    obtain ⟨c5, h⟩ := chk_e h
    cases h
    exact g_iret (pc := 67) X rfl (ckz_e c5).1 (hr _ _ hA) dX3_takeRest_67
  replace h := if_f c6 h
  by_cases c11 : (σ.1 (a2 + 1) (tn p3)) = 15
  · replace h := if_t c11 h
    refine g_tabIn (pc := 6) (tgt := 60) X c11 dX3_takeRest_6 (by decide) (by decide) rfl rfl ?_
    refine g_aload_n (pc := 60) X 0 rfl dX3_takeRest_60 ?_
    refine g_aload_n (pc := 61) X 1 rfl dX3_takeRest_61 ?_
    refine g_aload_n (pc := 62) X 2 rfl dX3_takeRest_62 ?_
    refine g_iload_n (pc := 63) X 3 rfl dX3_takeRest_63 ?_
    obtain ⟨r8, σ9, hc7, h⟩ := bd2_e h
    refine g_callS (pc := 64) X k_ml_X3_85 (run_DT_takeWho k1 k2 hc7) rfl (room_ok (Nat.le_of_ble_eq_true rfl) (Nat.le_of_ble_eq_true rfl)) ⟨Nat.le_refl _, Nat.le_refl _⟩ _ rfl (Nat.le_of_ble_eq_true rfl) dX3_takeRest_64 ?_
    show Go V Γ M_X3_takeRest (Zm V Γ 3 fin) 67 [(0, .ref (V.2.2.1 + 2)), (1, .ref (V.2.2.1 + a1)), (2, .ref (V.2.2.1 + a2)), (3, .int p3)] [.int r8] σ9
    obtain ⟨c10, h⟩ := chk_e h
    cases h
    exact g_iret (pc := 67) X rfl (ckz_e c10).1 (hr _ _ hA) dX3_takeRest_67
  replace h := if_f c11 h
  by_cases c16 : (σ.1 (a2 + 1) (tn p3)) = 16
  · replace h := if_t c16 h
    refine g_tabIn (pc := 6) (tgt := 68) X c16 dX3_takeRest_6 (by decide) (by decide) rfl rfl ?_
    refine g_aload_n (pc := 68) X 0 rfl dX3_takeRest_68 ?_
    refine g_iconst (v := 0) (pc := 69) X rfl dX3_takeRest_69 ?_
    refine g_bipush (v := 59) (pc := 70) X (by decide) dX3_takeRest_70 ?_
    obtain ⟨r13, σ14, hc12, h⟩ := bd2_e h
    refine g_callV (pc := 72) X k_ml_X3_88 (run_Re_takeNumber  hc12) s_2 rfl (room_ok (Nat.le_of_ble_eq_true rfl) (Nat.le_of_ble_eq_true rfl)) ⟨Nat.le_refl _, Nat.le_refl _⟩ _ rfl (Nat.le_of_ble_eq_true rfl) dX3_takeRest_72 ?_
    show Go V Γ M_X3_takeRest (Zm V Γ 3 fin) 75 [(0, .ref (V.2.2.1 + 2)), (1, .ref (V.2.2.1 + a1)), (2, .ref (V.2.2.1 + a2)), (3, .int p3)] [.int r13] σ14
    obtain ⟨c15, h⟩ := chk_e h
    cases h
    exact g_iret (pc := 75) X rfl (ckz_e c15).1 (hr _ _ hA) dX3_takeRest_75
  replace h := if_f c16 h
  by_cases c25 : (σ.1 (a2 + 1) (tn p3)) = 17
  · replace h := if_t c25 h
    refine g_tabIn (pc := 6) (tgt := 76) X c25 dX3_takeRest_6 (by decide) (by decide) rfl rfl ?_
    refine g_aload_n (pc := 76) X 0 rfl dX3_takeRest_76 ?_
    refine g_aload_n (pc := 77) X 1 rfl dX3_takeRest_77 ?_
    refine g_aload_n (pc := 78) X 2 rfl dX3_takeRest_78 ?_
    refine g_iload_n (pc := 79) X 3 rfl dX3_takeRest_79 ?_
    obtain ⟨r18, σ19, hc17, h⟩ := bd2_e h
    refine g_callS (pc := 80) X k_ml_X3_85 (run_DT_takeWho k1 k2 hc17) rfl (room_ok (Nat.le_of_ble_eq_true rfl) (Nat.le_of_ble_eq_true rfl)) ⟨Nat.le_refl _, Nat.le_refl _⟩ _ rfl (Nat.le_of_ble_eq_true rfl) dX3_takeRest_80 ?_
    show Go V Γ M_X3_takeRest (Zm V Γ 3 fin) 83 [(0, .ref (V.2.2.1 + 2)), (1, .ref (V.2.2.1 + a1)), (2, .ref (V.2.2.1 + a2)), (3, .int p3)] [.int r18] σ19
    refine g_if_eq (pc := 83) (tgt := 100) X dX3_takeRest_83 rfl (fun c24 => ?_) (fun c24 => ?_)
    · replace h := if_t c24 h
      refine g_iconst (v := 0) (pc := 100) X rfl dX3_takeRest_100 ?_
      cases h
      exact g_iret (pc := 101) X rfl nz0.1 (hr _ _ hA) dX3_takeRest_101
    · replace h := if_f c24 h
      refine g_aload_n (pc := 86) X 0 rfl dX3_takeRest_86 ?_
      refine g_iconst (v := 2) (pc := 87) X rfl dX3_takeRest_87 ?_
      refine g_bipush (v := 7) (pc := 88) X (by decide) dX3_takeRest_88 ?_
      obtain ⟨r21, σ22, hc20, h⟩ := bd2_e h
      refine g_callV (pc := 90) X k_ml_X3_88 (run_Re_takeNumber  hc20) s_2 rfl (room_ok (Nat.le_of_ble_eq_true rfl) (Nat.le_of_ble_eq_true rfl)) ⟨Nat.le_refl _, Nat.le_refl _⟩ _ rfl (Nat.le_of_ble_eq_true rfl) dX3_takeRest_90 ?_
      show Go V Γ M_X3_takeRest (Zm V Γ 3 fin) 93 [(0, .ref (V.2.2.1 + 2)), (1, .ref (V.2.2.1 + a1)), (2, .ref (V.2.2.1 + a2)), (3, .int p3)] [.int r21] σ22
      refine g_if_eq (pc := 93) (tgt := 100) X dX3_takeRest_93 rfl (fun c23 => ?_) (fun c23 => ?_)
      · replace h := if_t c23 h
        refine g_iconst (v := 0) (pc := 100) X rfl dX3_takeRest_100 ?_
        cases h
        exact g_iret (pc := 101) X rfl nz0.1 (hr _ _ hA) dX3_takeRest_101
      · replace h := if_f c23 h
        refine g_iconst (v := 1) (pc := 96) X rfl dX3_takeRest_96 ?_
        refine g_goto (pc := 97) (tgt := 101) X dX3_takeRest_97 rfl ?_
        cases h
        exact g_iret (pc := 101) X rfl nz1.1 (hr _ _ hA) dX3_takeRest_101
  replace h := if_f c25 h
  by_cases c26 : (σ.1 (a2 + 1) (tn p3)) = 18
  · replace h := if_t c26 h
    refine g_tabIn (pc := 6) (tgt := 118) X c26 dX3_takeRest_6 (by decide) (by decide) rfl rfl ?_
    refine g_iconst (v := 1) (pc := 118) X rfl dX3_takeRest_118 ?_
    cases h
    exact g_iret (pc := 119) X rfl nz1.1 (hr _ _ hA) dX3_takeRest_119
  replace h := if_f c26 h
  by_cases c31 : (σ.1 (a2 + 1) (tn p3)) = 19
  · replace h := if_t c31 h
    refine g_tabIn (pc := 6) (tgt := 102) X c31 dX3_takeRest_6 (by decide) (by decide) rfl rfl ?_
    refine g_aload_n (pc := 102) X 0 rfl dX3_takeRest_102 ?_
    refine g_aload_n (pc := 103) X 1 rfl dX3_takeRest_103 ?_
    refine g_aload_n (pc := 104) X 2 rfl dX3_takeRest_104 ?_
    refine g_iload_n (pc := 105) X 3 rfl dX3_takeRest_105 ?_
    obtain ⟨r28, σ29, hc27, h⟩ := bd2_e h
    refine g_callS (pc := 106) X k_ml_X3_92 (run_DT_takeTest k1 k2 hc27) rfl (room_ok (Nat.le_of_ble_eq_true rfl) (Nat.le_of_ble_eq_true rfl)) ⟨Nat.le_refl _, Nat.le_refl _⟩ _ rfl (Nat.le_of_ble_eq_true rfl) dX3_takeRest_106 ?_
    show Go V Γ M_X3_takeRest (Zm V Γ 3 fin) 109 [(0, .ref (V.2.2.1 + 2)), (1, .ref (V.2.2.1 + a1)), (2, .ref (V.2.2.1 + a2)), (3, .int p3)] [.int r28] σ29
    obtain ⟨c30, h⟩ := chk_e h
    cases h
    exact g_iret (pc := 109) X rfl (ckz_e c30).1 (hr _ _ hA) dX3_takeRest_109
  replace h := if_f c31 h
  by_cases c32 : (σ.1 (a2 + 1) (tn p3)) = 20
  · replace h := if_t c32 h
    refine g_tabIn (pc := 6) (tgt := 118) X c32 dX3_takeRest_6 (by decide) (by decide) rfl rfl ?_
    refine g_iconst (v := 1) (pc := 118) X rfl dX3_takeRest_118 ?_
    cases h
    exact g_iret (pc := 119) X rfl nz1.1 (hr _ _ hA) dX3_takeRest_119
  replace h := if_f c32 h
  by_cases c33 : (σ.1 (a2 + 1) (tn p3)) = 21
  · replace h := if_t c33 h
    refine g_tabIn (pc := 6) (tgt := 118) X c33 dX3_takeRest_6 (by decide) (by decide) rfl rfl ?_
    refine g_iconst (v := 1) (pc := 118) X rfl dX3_takeRest_118 ?_
    cases h
    exact g_iret (pc := 119) X rfl nz1.1 (hr _ _ hA) dX3_takeRest_119
  replace h := if_f c33 h
  by_cases c34 : (σ.1 (a2 + 1) (tn p3)) = 22
  · replace h := if_t c34 h
    refine g_tabIn (pc := 6) (tgt := 118) X c34 dX3_takeRest_6 (by decide) (by decide) rfl rfl ?_
    refine g_iconst (v := 1) (pc := 118) X rfl dX3_takeRest_118 ?_
    cases h
    exact g_iret (pc := 119) X rfl nz1.1 (hr _ _ hA) dX3_takeRest_119
  replace h := if_f c34 h
  by_cases c39 : (σ.1 (a2 + 1) (tn p3)) = 23
  · replace h := if_t c39 h
    refine g_tabIn (pc := 6) (tgt := 110) X c39 dX3_takeRest_6 (by decide) (by decide) rfl rfl ?_
    refine g_aload_n (pc := 110) X 0 rfl dX3_takeRest_110 ?_
    refine g_iconst (v := 1) (pc := 111) X rfl dX3_takeRest_111 ?_
    refine g_bipush (v := 99) (pc := 112) X (by decide) dX3_takeRest_112 ?_
    obtain ⟨r36, σ37, hc35, h⟩ := bd2_e h
    refine g_callV (pc := 114) X k_ml_X3_88 (run_Re_takeNumber  hc35) s_2 rfl (room_ok (Nat.le_of_ble_eq_true rfl) (Nat.le_of_ble_eq_true rfl)) ⟨Nat.le_refl _, Nat.le_refl _⟩ _ rfl (Nat.le_of_ble_eq_true rfl) dX3_takeRest_114 ?_
    show Go V Γ M_X3_takeRest (Zm V Γ 3 fin) 117 [(0, .ref (V.2.2.1 + 2)), (1, .ref (V.2.2.1 + a1)), (2, .ref (V.2.2.1 + a2)), (3, .int p3)] [.int r36] σ37
    obtain ⟨c38, h⟩ := chk_e h
    cases h
    exact g_iret (pc := 117) X rfl (ckz_e c38).1 (hr _ _ hA) dX3_takeRest_117
  replace h := if_f c39 h
  refine g_tabOut (pc := 6) (tgt := 118) X dX3_takeRest_6 (by have qc6 := lv_neT (k := 14) (a := 14) c6 rfl; have qc11 := lv_neT (k := 15) (a := 15) c11 rfl; have qc16 := lv_neT (k := 16) (a := 16) c16 rfl; have qc25 := lv_neT (k := 17) (a := 17) c25 rfl; have qc26 := lv_neT (k := 18) (a := 18) c26 rfl; have qc31 := lv_neT (k := 19) (a := 19) c31 rfl; have qc32 := lv_neT (k := 20) (a := 20) c32 rfl; have qc33 := lv_neT (k := 21) (a := 21) c33 rfl; have qc34 := lv_neT (k := 22) (a := 22) c34 rfl; have qc39 := lv_neT (k := 23) (a := 23) c39 rfl; omega) rfl ?_
  refine g_iconst (v := 1) (pc := 118) X rfl dX3_takeRest_118 ?_
  cases h
  exact g_iret (pc := 119) X rfl nz1.1 (hr _ _ hA) dX3_takeRest_119
set_option maxRecDepth 100000 in
theorem run_DT_takeRest {V : Ev} {σ : St} {a1 : Nat} {a2 : Nat} {p3 : Int32} {o : (Int32 × St)} (k1 : okCl a1) (k2 : okDa a2)  (h : DT_takeRest σ a1 a2 p3 = some o) : Rs V 3 M_X3_takeRest [.ref (V.2.2.1 + 2), .ref (V.2.2.1 + a1), .ref (V.2.2.1 + a2), .int p3] σ (some (.int o.1), o.2) := by
  refine Rs.of (by decide +kernel) (Nat.le_of_ble_eq_true rfl) (fun Γ X => ?_)
  exact tm_DT_takeRest X (A := fun o1 => o1 = o) k1 k2 (fun _ _ e => by rw [← e]) h rfl
theorem dX6_takenNumber_0 : decode cX6_takenNumber 0 = .ok (.aload_n 0, 1) := by decide +kernel
theorem dX6_takenNumber_1 : decode cX6_takenNumber 1 = .ok (.getfield 39, 3) := by decide +kernel
theorem dX6_takenNumber_4 : decode cX6_takenNumber 4 = .ok (.l2i, 1) := by decide +kernel
theorem dX6_takenNumber_5 : decode cX6_takenNumber 5 = .ok (.ireturn, 1) := by decide +kernel
noncomputable def Re_takenNumber (σ : St) : Option Int32 :=
  some ((σ.2 2 8).toInt32)
set_option maxRecDepth 100000 in
set_option maxHeartbeats 4000000 in
theorem tm_Re_takenNumber {V : Ev} {Γ : Cn} {fin : Option Value × St} {σ : St} {o : Int32} (X : Cx V Γ M_X6_takenNumber) {A : Int32 → Prop}  (hr : ∀ (r : Int32), A r → (some (.int r), σ) = fin) (h : Re_takenNumber σ = some o) (hA : A o) : Go V Γ M_X6_takenNumber (Zm V Γ 0 fin) 0 [(0, .ref (V.2.2.1 + 2))] [] σ := by
  unfold Re_takenNumber at h
  refine g_aload_n (pc := 0) X 0 rfl dX6_takenNumber_0 ?_
  refine g_getL (pc := 1) X k_fl_X6_39 s_2 rfl dX6_takenNumber_1 ?_
  refine g_l2i (pc := 4) X dX6_takenNumber_4 ?_
  cases h
  exact g_iret (pc := 5) X rfl rfl (hr _ hA) dX6_takenNumber_5
set_option maxRecDepth 100000 in
theorem run_Re_takenNumber {V : Ev} {σ : St} {o : Int32}   (h : Re_takenNumber σ = some o) : Rs V 0 M_X6_takenNumber [.ref (V.2.2.1 + 2)] σ (some (.int o), σ) := by
  refine Rs.of (by decide +kernel) (Nat.le_of_ble_eq_true rfl) (fun Γ X => ?_)
  exact tm_Re_takenNumber X (A := fun o1 => o1 = o)  (fun _ e => by rw [e]) h rfl
theorem dX3_takeOne_0 : decode cX3_takeOne 0 = .ok (.aload_n 0, 1) := by decide +kernel
theorem dX3_takeOne_1 : decode cX3_takeOne 1 = .ok (.invokevirtual 14, 3) := by decide +kernel
theorem dX3_takeOne_4 : decode cX3_takeOne 4 = .ok (.istore 4, 2) := by decide +kernel
theorem dX3_takeOne_6 : decode cX3_takeOne 6 = .ok (.iload 4, 2) := by decide +kernel
theorem dX3_takeOne_8 : decode cX3_takeOne 8 = .ok (.bipush 24, 2) := by decide +kernel
theorem dX3_takeOne_10 : decode cX3_takeOne 10 = .ok (.if_icmp .ne 25, 3) := by decide +kernel
theorem dX3_takeOne_13 : decode cX3_takeOne 13 = .ok (.iload_n 3, 1) := by decide +kernel
theorem dX3_takeOne_14 : decode cX3_takeOne 14 = .ok (.iconst (-1), 1) := by decide +kernel
theorem dX3_takeOne_15 : decode cX3_takeOne 15 = .ok (.if_icmp .eq 20, 3) := by decide +kernel
theorem dX3_takeOne_18 : decode cX3_takeOne 18 = .ok (.aload_n 2, 1) := by decide +kernel
theorem dX3_takeOne_19 : decode cX3_takeOne 19 = .ok (.bipush 24, 2) := by decide +kernel
theorem dX3_takeOne_21 : decode cX3_takeOne 21 = .ok (.invokevirtual 53, 3) := by decide +kernel
theorem dX3_takeOne_24 : decode cX3_takeOne 24 = .ok (.pop, 1) := by decide +kernel
theorem dX3_takeOne_25 : decode cX3_takeOne 25 = .ok (.aload_n 0, 1) := by decide +kernel
theorem dX3_takeOne_26 : decode cX3_takeOne 26 = .ok (.invokevirtual 57, 3) := by decide +kernel
theorem dX3_takeOne_29 : decode cX3_takeOne 29 = .ok (.aload_n 0, 1) := by decide +kernel
theorem dX3_takeOne_30 : decode cX3_takeOne 30 = .ok (.iconst 5, 1) := by decide +kernel
theorem dX3_takeOne_31 : decode cX3_takeOne 31 = .ok (.invokevirtual 60, 3) := by decide +kernel
theorem dX3_takeOne_34 : decode cX3_takeOne 34 = .ok (.ireturn, 1) := by decide +kernel
theorem dX3_takeOne_35 : decode cX3_takeOne 35 = .ok (.iload 4, 2) := by decide +kernel
theorem dX3_takeOne_37 : decode cX3_takeOne 37 = .ok (.invokestatic 63, 3) := by decide +kernel
theorem dX3_takeOne_40 : decode cX3_takeOne 40 = .ok (.ifCond .ne 9, 3) := by decide +kernel
theorem dX3_takeOne_43 : decode cX3_takeOne 43 = .ok (.aload_n 0, 1) := by decide +kernel
theorem dX3_takeOne_44 : decode cX3_takeOne 44 = .ok (.iconst 2, 1) := by decide +kernel
theorem dX3_takeOne_45 : decode cX3_takeOne 45 = .ok (.invokevirtual 30, 3) := by decide +kernel
theorem dX3_takeOne_48 : decode cX3_takeOne 48 = .ok (.ireturn, 1) := by decide +kernel
theorem dX3_takeOne_49 : decode cX3_takeOne 49 = .ok (.aload_n 2, 1) := by decide +kernel
theorem dX3_takeOne_50 : decode cX3_takeOne 50 = .ok (.getfield 66, 3) := by decide +kernel
theorem dX3_takeOne_53 : decode cX3_takeOne 53 = .ok (.bipush 30, 2) := by decide +kernel
theorem dX3_takeOne_55 : decode cX3_takeOne 55 = .ok (.if_icmp .lt 10, 3) := by decide +kernel
theorem dX3_takeOne_58 : decode cX3_takeOne 58 = .ok (.aload_n 0, 1) := by decide +kernel
theorem dX3_takeOne_59 : decode cX3_takeOne 59 = .ok (.bipush 6, 2) := by decide +kernel
theorem dX3_takeOne_61 : decode cX3_takeOne 61 = .ok (.invokevirtual 30, 3) := by decide +kernel
theorem dX3_takeOne_64 : decode cX3_takeOne 64 = .ok (.ireturn, 1) := by decide +kernel
theorem dX3_takeOne_65 : decode cX3_takeOne 65 = .ok (.iload 4, 2) := by decide +kernel
theorem dX3_takeOne_67 : decode cX3_takeOne 67 = .ok (.invokestatic 42, 3) := by decide +kernel
theorem dX3_takeOne_70 : decode cX3_takeOne 70 = .ok (.ifCond .eq 19, 3) := by decide +kernel
theorem dX3_takeOne_73 : decode cX3_takeOne 73 = .ok (.aload_n 2, 1) := by decide +kernel
theorem dX3_takeOne_74 : decode cX3_takeOne 74 = .ok (.iload_n 3, 1) := by decide +kernel
theorem dX3_takeOne_75 : decode cX3_takeOne 75 = .ok (.invokestatic 69, 3) := by decide +kernel
theorem dX3_takeOne_78 : decode cX3_takeOne 78 = .ok (.iconst 3, 1) := by decide +kernel
theorem dX3_takeOne_79 : decode cX3_takeOne 79 = .ok (.if_icmp .lt 10, 3) := by decide +kernel
theorem dX3_takeOne_82 : decode cX3_takeOne 82 = .ok (.aload_n 0, 1) := by decide +kernel
theorem dX3_takeOne_83 : decode cX3_takeOne 83 = .ok (.bipush 7, 2) := by decide +kernel
theorem dX3_takeOne_85 : decode cX3_takeOne 85 = .ok (.invokevirtual 30, 3) := by decide +kernel
theorem dX3_takeOne_88 : decode cX3_takeOne 88 = .ok (.ireturn, 1) := by decide +kernel
theorem dX3_takeOne_89 : decode cX3_takeOne 89 = .ok (.aload_n 2, 1) := by decide +kernel
theorem dX3_takeOne_90 : decode cX3_takeOne 90 = .ok (.iload 4, 2) := by decide +kernel
theorem dX3_takeOne_92 : decode cX3_takeOne 92 = .ok (.invokevirtual 53, 3) := by decide +kernel
theorem dX3_takeOne_95 : decode cX3_takeOne 95 = .ok (.istore 5, 2) := by decide +kernel
theorem dX3_takeOne_97 : decode cX3_takeOne 97 = .ok (.aload_n 2, 1) := by decide +kernel
theorem dX3_takeOne_98 : decode cX3_takeOne 98 = .ok (.dup, 1) := by decide +kernel
theorem dX3_takeOne_99 : decode cX3_takeOne 99 = .ok (.getfield 66, 3) := by decide +kernel
theorem dX3_takeOne_102 : decode cX3_takeOne 102 = .ok (.iconst 1, 1) := by decide +kernel
theorem dX3_takeOne_103 : decode cX3_takeOne 103 = .ok (.iadd, 1) := by decide +kernel
theorem dX3_takeOne_104 : decode cX3_takeOne 104 = .ok (.putfield 66, 3) := by decide +kernel
theorem dX3_takeOne_107 : decode cX3_takeOne 107 = .ok (.aload_n 0, 1) := by decide +kernel
theorem dX3_takeOne_108 : decode cX3_takeOne 108 = .ok (.invokevirtual 57, 3) := by decide +kernel
theorem dX3_takeOne_111 : decode cX3_takeOne 111 = .ok (.aload_n 0, 1) := by decide +kernel
theorem dX3_takeOne_112 : decode cX3_takeOne 112 = .ok (.aload_n 1, 1) := by decide +kernel
theorem dX3_takeOne_113 : decode cX3_takeOne 113 = .ok (.aload_n 2, 1) := by decide +kernel
theorem dX3_takeOne_114 : decode cX3_takeOne 114 = .ok (.iload 5, 2) := by decide +kernel
theorem dX3_takeOne_116 : decode cX3_takeOne 116 = .ok (.invokestatic 73, 3) := by decide +kernel
theorem dX3_takeOne_119 : decode cX3_takeOne 119 = .ok (.ifCond .ne 5, 3) := by decide +kernel
theorem dX3_takeOne_122 : decode cX3_takeOne 122 = .ok (.iconst 0, 1) := by decide +kernel
theorem dX3_takeOne_123 : decode cX3_takeOne 123 = .ok (.ireturn, 1) := by decide +kernel
theorem dX3_takeOne_124 : decode cX3_takeOne 124 = .ok (.aload_n 2, 1) := by decide +kernel
theorem dX3_takeOne_125 : decode cX3_takeOne 125 = .ok (.getfield 76, 3) := by decide +kernel
theorem dX3_takeOne_128 : decode cX3_takeOne 128 = .ok (.iload 5, 2) := by decide +kernel
theorem dX3_takeOne_130 : decode cX3_takeOne 130 = .ok (.aload_n 0, 1) := by decide +kernel
theorem dX3_takeOne_131 : decode cX3_takeOne 131 = .ok (.invokevirtual 79, 3) := by decide +kernel
theorem dX3_takeOne_134 : decode cX3_takeOne 134 = .ok (.iastore, 1) := by decide +kernel
theorem dX3_takeOne_135 : decode cX3_takeOne 135 = .ok (.aload_n 0, 1) := by decide +kernel
theorem dX3_takeOne_136 : decode cX3_takeOne 136 = .ok (.iconst 5, 1) := by decide +kernel
theorem dX3_takeOne_137 : decode cX3_takeOne 137 = .ok (.invokevirtual 60, 3) := by decide +kernel
theorem dX3_takeOne_140 : decode cX3_takeOne 140 = .ok (.ireturn, 1) := by decide +kernel
noncomputable def DT_takeOne_J89 (σ : St) (l1 : Nat) (l2 : Nat) (l4 : Int32) : Option ((Int32 × St)) :=
  bd2 (Da_append σ l2 l4) (fun r8 σ9 => bnd (wI σ9 l2 7 ((σ9.1 l2 7) + 1)) (fun σ10 => bd (Re_step σ10) (fun σ12 => bd2 (DT_takeRest σ12 l1 l2 r8) (fun r14 σ15 => if r14 = 0 then (some (0, σ15)) else (bd (Re_takenNumber σ15) (fun r17 => chk (ix r8 60) (bnd (wI σ15 (l2 + 5) (tn r8) r17) (fun σ19 => bd2 (Re_take σ19 5) (fun r21 σ22 => chk (ckz r21) (some (r21, σ22)))))))))))
set_option maxRecDepth 100000 in
set_option maxHeartbeats 4000000 in
theorem tj_DT_takeOne_J89 {V : Ev} {Γ : Cn} {fin : Option Value × St} {σ : St} {l1 : Nat} {l2 : Nat} {l4 : Int32} {o : (Int32 × St)} (X : Cx V Γ M_X3_takeOne) {A : (Int32 × St) → Prop} (k_l1 : okCl l1) (k_l2 : okDa l2) (hr : ∀ (r : Int32) (σ9 : St), A (r, σ9) → (some (.int r), σ9) = fin) (h : DT_takeOne_J89 σ l1 l2 l4 = some o) (hA : A o) : Go V Γ M_X3_takeOne (Zm V Γ 4 fin) 89 [(0, .ref (V.2.2.1 + 2)), (1, .ref (V.2.2.1 + l1)), (2, .ref (V.2.2.1 + l2)), (4, .int l4)] [] σ := by
  unfold DT_takeOne_J89 at h
  refine g_aload_n (pc := 89) X 2 rfl dX3_takeOne_89 ?_
  refine g_iload (pc := 90) X 3 rfl dX3_takeOne_90 ?_
  obtain ⟨r8, σ9, hc7, h⟩ := bd2_e h
  refine g_callV (pc := 92) X k_ml_X3_53 (run_Da_append k_l2 hc7) (sDa_0 k_l2) rfl (room_ok (Nat.le_of_ble_eq_true rfl) (Nat.le_of_ble_eq_true rfl)) ⟨Nat.le_refl _, Nat.le_refl _⟩ _ rfl (Nat.le_of_ble_eq_true rfl) dX3_takeOne_92 ?_
  show Go V Γ M_X3_takeOne (Zm V Γ 4 fin) 95 [(0, .ref (V.2.2.1 + 2)), (1, .ref (V.2.2.1 + l1)), (2, .ref (V.2.2.1 + l2)), (4, .int l4)] [.int r8] σ9
  refine g_istore (pc := 95) X [(5, .int r8), (0, .ref (V.2.2.1 + 2)), (1, .ref (V.2.2.1 + l1)), (2, .ref (V.2.2.1 + l2)), (4, .int l4)] (Nat.le_of_ble_eq_true rfl) rfl dX3_takeOne_95 ?_
  refine g_aload_n (pc := 97) X 3 rfl dX3_takeOne_97 ?_
  refine g_dup (pc := 98) X rfl dX3_takeOne_98 ?_
  refine g_getI (pc := 99) X k_fl_X3_66 (sDa_0 k_l2) rfl dX3_takeOne_99 ?_
  refine g_iconst (v := 1) (pc := 102) X rfl dX3_takeOne_102 ?_
  refine g_iadd (pc := 103) X dX3_takeOne_103 ?_
  refine g_putI (pc := 104) X k_fl_X3_66 (sDa_0 k_l2) rfl rfl rfl dX3_takeOne_104 ?_
  obtain ⟨σ10, e_σ10, h⟩ := bnd_e h
  refine g_nmS e_σ10 ?_
  refine g_aload_n (pc := 107) X 1 rfl dX3_takeOne_107 ?_
  obtain ⟨σ12, hc11, h⟩ := bd_e h
  refine g_callV (pc := 108) X k_ml_X3_57 (run_Re_step  hc11) s_2 rfl (room_ok (Nat.le_of_ble_eq_true rfl) (Nat.le_of_ble_eq_true rfl)) ⟨Nat.le_refl _, Nat.le_refl _⟩ _ rfl (Nat.le_of_ble_eq_true rfl) dX3_takeOne_108 ?_
  show Go V Γ M_X3_takeOne (Zm V Γ 4 fin) 111 [(5, .int r8), (0, .ref (V.2.2.1 + 2)), (1, .ref (V.2.2.1 + l1)), (2, .ref (V.2.2.1 + l2)), (4, .int l4)] [] σ12
  refine g_aload_n (pc := 111) X 1 rfl dX3_takeOne_111 ?_
  refine g_aload_n (pc := 112) X 2 rfl dX3_takeOne_112 ?_
  refine g_aload_n (pc := 113) X 3 rfl dX3_takeOne_113 ?_
  refine g_iload (pc := 114) X 0 rfl dX3_takeOne_114 ?_
  obtain ⟨r14, σ15, hc13, h⟩ := bd2_e h
  refine g_callS (pc := 116) X k_ml_X3_73 (run_DT_takeRest k_l1 k_l2 hc13) rfl (room_ok (Nat.le_of_ble_eq_true rfl) (Nat.le_of_ble_eq_true rfl)) ⟨Nat.le_refl _, Nat.le_refl _⟩ _ rfl (Nat.le_of_ble_eq_true rfl) dX3_takeOne_116 ?_
  show Go V Γ M_X3_takeOne (Zm V Γ 4 fin) 119 [(5, .int r8), (0, .ref (V.2.2.1 + 2)), (1, .ref (V.2.2.1 + l1)), (2, .ref (V.2.2.1 + l2)), (4, .int l4)] [.int r14] σ15
  refine g_if_ne (pc := 119) (tgt := 124) X dX3_takeOne_119 rfl (fun c24 => ?_) (fun c24 => ?_)
  · replace h := if_f c24 h
    refine g_aload_n (pc := 124) X 3 rfl dX3_takeOne_124 ?_
    refine g_getR (r := (l2 + 5)) (pc := 125) X k_fl_X3_76 (sDa_0 k_l2) rfl dX3_takeOne_125 ?_
    refine g_iload (pc := 128) X 0 rfl dX3_takeOne_128 ?_
    refine g_aload_n (pc := 130) X 1 rfl dX3_takeOne_130 ?_
    obtain ⟨r17, hc16, h⟩ := bd_e h
    refine g_callV (pc := 131) X k_ml_X3_79 (run_Re_takenNumber  hc16) s_2 rfl (room_ok (Nat.le_of_ble_eq_true rfl) (Nat.le_of_ble_eq_true rfl)) ⟨Nat.le_refl _, Nat.le_refl _⟩ _ rfl (Nat.le_of_ble_eq_true rfl) dX3_takeOne_131 ?_
    show Go V Γ M_X3_takeOne (Zm V Γ 4 fin) 134 [(5, .int r8), (0, .ref (V.2.2.1 + 2)), (1, .ref (V.2.2.1 + l1)), (2, .ref (V.2.2.1 + l2)), (4, .int l4)] [.int r17, .int r8, .ref (V.2.2.1 + (l2 + 5))] σ15
    obtain ⟨c18, h⟩ := chk_e h
    refine g_iast (pc := 134) X (sDa_5 k_l2) c18 dX3_takeOne_134 ?_
    obtain ⟨σ19, e_σ19, h⟩ := bnd_e h
    refine g_nmS e_σ19 ?_
    refine g_aload_n (pc := 135) X 1 rfl dX3_takeOne_135 ?_
    refine g_iconst (v := 5) (pc := 136) X rfl dX3_takeOne_136 ?_
    obtain ⟨r21, σ22, hc20, h⟩ := bd2_e h
    refine g_callV (pc := 137) X k_ml_X3_60 (run_Re_take  hc20) s_2 rfl (room_ok (Nat.le_of_ble_eq_true rfl) (Nat.le_of_ble_eq_true rfl)) ⟨Nat.le_refl _, Nat.le_refl _⟩ _ rfl (Nat.le_of_ble_eq_true rfl) dX3_takeOne_137 ?_
    show Go V Γ M_X3_takeOne (Zm V Γ 4 fin) 140 [(5, .int r8), (0, .ref (V.2.2.1 + 2)), (1, .ref (V.2.2.1 + l1)), (2, .ref (V.2.2.1 + l2)), (4, .int l4)] [.int r21] σ22
    obtain ⟨c23, h⟩ := chk_e h
    cases h
    exact g_iret (pc := 140) X rfl (ckz_e c23).1 (hr _ _ hA) dX3_takeOne_140
  · replace h := if_t c24 h
    refine g_iconst (v := 0) (pc := 122) X rfl dX3_takeOne_122 ?_
    cases h
    exact g_iret (pc := 123) X rfl nz0.1 (hr _ _ hA) dX3_takeOne_123
noncomputable def DT_takeOne_J35 (σ : St) (l1 : Nat) (l2 : Nat) (l3 : Int32) (l4 : Int32) : Option ((Int32 × St)) :=
  bd (DT_isStep l4) (fun r4 => if r4 = 0 then (bd2 (Re_blame σ 2) (fun r39 σ40 => chk (ckz r39) (some (r39, σ40)))) else (if (σ.1 l2 7) < 30 then (bd (DT_isOpener l4) (fun r6 => if r6 = 0 then (DT_takeOne_J89 σ l1 l2 l4) else (bd (DT_depthOf σ l2 l3) (fun r26 => if r26 < 3 then (DT_takeOne_J89 σ l1 l2 l4) else (bd2 (Re_blame σ 7) (fun r28 σ29 => chk (ckz r28) (some (r28, σ29)))))))) else (bd2 (Re_blame σ 6) (fun r34 σ35 => chk (ckz r34) (some (r34, σ35))))))
set_option maxRecDepth 100000 in
set_option maxHeartbeats 4000000 in
theorem tj_DT_takeOne_J35 {V : Ev} {Γ : Cn} {fin : Option Value × St} {σ : St} {l1 : Nat} {l2 : Nat} {l3 : Int32} {l4 : Int32} {o : (Int32 × St)} (X : Cx V Γ M_X3_takeOne) {A : (Int32 × St) → Prop} (k_l1 : okCl l1) (k_l2 : okDa l2) (hr : ∀ (r : Int32) (σ9 : St), A (r, σ9) → (some (.int r), σ9) = fin) (h : DT_takeOne_J35 σ l1 l2 l3 l4 = some o) (hA : A o) : Go V Γ M_X3_takeOne (Zm V Γ 4 fin) 35 [(0, .ref (V.2.2.1 + 2)), (1, .ref (V.2.2.1 + l1)), (2, .ref (V.2.2.1 + l2)), (3, .int l3), (4, .int l4)] [] σ := by
  unfold DT_takeOne_J35 at h
  refine g_iload (pc := 35) X 4 rfl dX3_takeOne_35 ?_
  obtain ⟨r4, hc3, h⟩ := bd_e h
  refine g_callS (pc := 37) X k_ml_X3_63 (run_DT_isStep  hc3) rfl (room_ok (Nat.le_of_ble_eq_true rfl) (Nat.le_of_ble_eq_true rfl)) ⟨Nat.le_refl _, Nat.le_refl _⟩ _ rfl (Nat.le_of_ble_eq_true rfl) dX3_takeOne_37 ?_
  show Go V Γ M_X3_takeOne (Zm V Γ 4 fin) 40 [(0, .ref (V.2.2.1 + 2)), (1, .ref (V.2.2.1 + l1)), (2, .ref (V.2.2.1 + l2)), (3, .int l3), (4, .int l4)] [.int r4] σ
  refine g_if_ne (pc := 40) (tgt := 49) X dX3_takeOne_40 rfl (fun c42 => ?_) (fun c42 => ?_)
  · replace h := if_f c42 h
    refine g_aload_n (pc := 49) X 2 rfl dX3_takeOne_49 ?_
    refine g_getI (pc := 50) X k_fl_X3_66 (sDa_0 k_l2) rfl dX3_takeOne_50 ?_
    refine g_bipush (v := 30) (pc := 53) X (by decide) dX3_takeOne_53 ?_
    refine g_icmp_lt (pc := 55) (tgt := 65) X dX3_takeOne_55 rfl (fun c37 => ?_) (fun c37 => ?_)
    · replace h := if_t c37 h
      refine g_iload (pc := 65) X 4 rfl dX3_takeOne_65 ?_
      obtain ⟨r6, hc5, h⟩ := bd_e h
      refine g_callS (pc := 67) X k_ml_X3_42 (run_DT_isOpener  hc5) rfl (room_ok (Nat.le_of_ble_eq_true rfl) (Nat.le_of_ble_eq_true rfl)) ⟨Nat.le_refl _, Nat.le_refl _⟩ _ rfl (Nat.le_of_ble_eq_true rfl) dX3_takeOne_67 ?_
      show Go V Γ M_X3_takeOne (Zm V Γ 4 fin) 70 [(0, .ref (V.2.2.1 + 2)), (1, .ref (V.2.2.1 + l1)), (2, .ref (V.2.2.1 + l2)), (3, .int l3), (4, .int l4)] [.int r6] σ
      refine g_if_eq (pc := 70) (tgt := 89) X dX3_takeOne_70 rfl (fun c32 => ?_) (fun c32 => ?_)
      · replace h := if_t c32 h
        refine g_sub [0, 1, 2, 4] rfl ?_
        exact tj_DT_takeOne_J89 X k_l1 k_l2 hr h hA
      · replace h := if_f c32 h
        refine g_aload_n (pc := 73) X 2 rfl dX3_takeOne_73 ?_
        refine g_iload_n (pc := 74) X 3 rfl dX3_takeOne_74 ?_
        obtain ⟨r26, hc25, h⟩ := bd_e h
        refine g_callS (pc := 75) X k_ml_X3_69 (run_DT_depthOf k_l2 hc25) rfl (room_ok (Nat.le_of_ble_eq_true rfl) (Nat.le_of_ble_eq_true rfl)) ⟨Nat.le_refl _, Nat.le_refl _⟩ _ rfl (Nat.le_of_ble_eq_true rfl) dX3_takeOne_75 ?_
        show Go V Γ M_X3_takeOne (Zm V Γ 4 fin) 78 [(0, .ref (V.2.2.1 + 2)), (1, .ref (V.2.2.1 + l1)), (2, .ref (V.2.2.1 + l2)), (3, .int l3), (4, .int l4)] [.int r26] σ
        refine g_iconst (v := 3) (pc := 78) X rfl dX3_takeOne_78 ?_
        refine g_icmp_lt (pc := 79) (tgt := 89) X dX3_takeOne_79 rfl (fun c31 => ?_) (fun c31 => ?_)
        · replace h := if_t c31 h
          refine g_sub [0, 1, 2, 4] rfl ?_
          exact tj_DT_takeOne_J89 X k_l1 k_l2 hr h hA
        · replace h := if_f c31 h
          refine g_aload_n (pc := 82) X 0 rfl dX3_takeOne_82 ?_
          refine g_bipush (v := 7) (pc := 83) X (by decide) dX3_takeOne_83 ?_
          obtain ⟨r28, σ29, hc27, h⟩ := bd2_e h
          refine g_callV (pc := 85) X k_ml_X3_30 (run_Re_blame  hc27) s_2 rfl (room_ok (Nat.le_of_ble_eq_true rfl) (Nat.le_of_ble_eq_true rfl)) ⟨Nat.le_refl _, Nat.le_refl _⟩ _ rfl (Nat.le_of_ble_eq_true rfl) dX3_takeOne_85 ?_
          show Go V Γ M_X3_takeOne (Zm V Γ 4 fin) 88 [(0, .ref (V.2.2.1 + 2)), (1, .ref (V.2.2.1 + l1)), (2, .ref (V.2.2.1 + l2)), (3, .int l3), (4, .int l4)] [.int r28] σ29
          obtain ⟨c30, h⟩ := chk_e h
          cases h
          exact g_iret (pc := 88) X rfl (ckz_e c30).1 (hr _ _ hA) dX3_takeOne_88
    · replace h := if_f c37 h
      refine g_aload_n (pc := 58) X 0 rfl dX3_takeOne_58 ?_
      refine g_bipush (v := 6) (pc := 59) X (by decide) dX3_takeOne_59 ?_
      obtain ⟨r34, σ35, hc33, h⟩ := bd2_e h
      refine g_callV (pc := 61) X k_ml_X3_30 (run_Re_blame  hc33) s_2 rfl (room_ok (Nat.le_of_ble_eq_true rfl) (Nat.le_of_ble_eq_true rfl)) ⟨Nat.le_refl _, Nat.le_refl _⟩ _ rfl (Nat.le_of_ble_eq_true rfl) dX3_takeOne_61 ?_
      show Go V Γ M_X3_takeOne (Zm V Γ 4 fin) 64 [(0, .ref (V.2.2.1 + 2)), (1, .ref (V.2.2.1 + l1)), (2, .ref (V.2.2.1 + l2)), (3, .int l3), (4, .int l4)] [.int r34] σ35
      obtain ⟨c36, h⟩ := chk_e h
      cases h
      exact g_iret (pc := 64) X rfl (ckz_e c36).1 (hr _ _ hA) dX3_takeOne_64
  · replace h := if_t c42 h
    refine g_aload_n (pc := 43) X 0 rfl dX3_takeOne_43 ?_
    refine g_iconst (v := 2) (pc := 44) X rfl dX3_takeOne_44 ?_
    obtain ⟨r39, σ40, hc38, h⟩ := bd2_e h
    refine g_callV (pc := 45) X k_ml_X3_30 (run_Re_blame  hc38) s_2 rfl (room_ok (Nat.le_of_ble_eq_true rfl) (Nat.le_of_ble_eq_true rfl)) ⟨Nat.le_refl _, Nat.le_refl _⟩ _ rfl (Nat.le_of_ble_eq_true rfl) dX3_takeOne_45 ?_
    show Go V Γ M_X3_takeOne (Zm V Γ 4 fin) 48 [(0, .ref (V.2.2.1 + 2)), (1, .ref (V.2.2.1 + l1)), (2, .ref (V.2.2.1 + l2)), (3, .int l3), (4, .int l4)] [.int r39] σ40
    obtain ⟨c41, h⟩ := chk_e h
    cases h
    exact g_iret (pc := 48) X rfl (ckz_e c41).1 (hr _ _ hA) dX3_takeOne_48
noncomputable def DT_takeOne (σ : St) (a1 : Nat) (a2 : Nat) (p3 : Int32) : Option (Int32 × St) :=
  bd (Re_token σ) (fun r2 => if r2 = 24 then (if p3 = (-1) then (DT_takeOne_J35 σ a1 a2 p3 r2) else (bd2 (Da_append σ a2 24) (fun r44 σ45 => bd (Re_step σ45) (fun σ47 => bd2 (Re_take σ47 5) (fun r49 σ50 => chk (ckz r49) (some (r49, σ50))))))) else (DT_takeOne_J35 σ a1 a2 p3 r2))
set_option maxRecDepth 100000 in
set_option maxHeartbeats 4000000 in
theorem tm_DT_takeOne {V : Ev} {Γ : Cn} {fin : Option Value × St} {σ : St} {a1 : Nat} {a2 : Nat} {p3 : Int32} {o : (Int32 × St)} (X : Cx V Γ M_X3_takeOne) {A : (Int32 × St) → Prop} (k1 : okCl a1) (k2 : okDa a2) (hr : ∀ (r : Int32) (σ9 : St), A (r, σ9) → (some (.int r), σ9) = fin) (h : DT_takeOne σ a1 a2 p3 = some o) (hA : A o) : Go V Γ M_X3_takeOne (Zm V Γ 4 fin) 0 [(0, .ref (V.2.2.1 + 2)), (1, .ref (V.2.2.1 + a1)), (2, .ref (V.2.2.1 + a2)), (3, .int p3)] [] σ := by
  unfold DT_takeOne at h
  refine g_aload_n (pc := 0) X 0 rfl dX3_takeOne_0 ?_
  obtain ⟨r2, hc1, h⟩ := bd_e h
  refine g_callV (pc := 1) X k_ml_X3_14 (run_Re_token  hc1) s_2 rfl (room_ok (Nat.le_of_ble_eq_true rfl) (Nat.le_of_ble_eq_true rfl)) ⟨Nat.le_refl _, Nat.le_refl _⟩ _ rfl (Nat.le_of_ble_eq_true rfl) dX3_takeOne_1 ?_
  show Go V Γ M_X3_takeOne (Zm V Γ 4 fin) 4 [(0, .ref (V.2.2.1 + 2)), (1, .ref (V.2.2.1 + a1)), (2, .ref (V.2.2.1 + a2)), (3, .int p3)] [.int r2] σ
  refine g_istore (pc := 4) X [(4, .int r2), (0, .ref (V.2.2.1 + 2)), (1, .ref (V.2.2.1 + a1)), (2, .ref (V.2.2.1 + a2)), (3, .int p3)] (Nat.le_of_ble_eq_true rfl) rfl dX3_takeOne_4 ?_
  refine g_iload (pc := 6) X 0 rfl dX3_takeOne_6 ?_
  refine g_bipush (v := 24) (pc := 8) X (by decide) dX3_takeOne_8 ?_
  refine g_icmp_ne (pc := 10) (tgt := 35) X dX3_takeOne_10 rfl (fun c53 => ?_) (fun c53 => ?_)
  · replace h := if_f c53 h
    refine g_sub [1, 2, 3, 4, 0] rfl ?_
    exact tj_DT_takeOne_J35 X k1 k2 hr h hA
  · replace h := if_t c53 h
    refine g_iload_n (pc := 13) X 4 rfl dX3_takeOne_13 ?_
    refine g_iconst (v := (-1)) (pc := 14) X rfl dX3_takeOne_14 ?_
    refine g_icmp_eq (pc := 15) (tgt := 35) X dX3_takeOne_15 rfl (fun c52 => ?_) (fun c52 => ?_)
    · replace h := if_t c52 h
      refine g_sub [1, 2, 3, 4, 0] rfl ?_
      exact tj_DT_takeOne_J35 X k1 k2 hr h hA
    · replace h := if_f c52 h
      refine g_aload_n (pc := 18) X 3 rfl dX3_takeOne_18 ?_
      refine g_bipush (v := 24) (pc := 19) X (by decide) dX3_takeOne_19 ?_
      obtain ⟨r44, σ45, hc43, h⟩ := bd2_e h
      refine g_callV (pc := 21) X k_ml_X3_53 (run_Da_append k2 hc43) (sDa_0 k2) rfl (room_ok (Nat.le_of_ble_eq_true rfl) (Nat.le_of_ble_eq_true rfl)) ⟨Nat.le_refl _, Nat.le_refl _⟩ _ rfl (Nat.le_of_ble_eq_true rfl) dX3_takeOne_21 ?_
      show Go V Γ M_X3_takeOne (Zm V Γ 4 fin) 24 [(4, .int r2), (0, .ref (V.2.2.1 + 2)), (1, .ref (V.2.2.1 + a1)), (2, .ref (V.2.2.1 + a2)), (3, .int p3)] [.int r44] σ45
      refine g_pop (pc := 24) X rfl dX3_takeOne_24 ?_
      refine g_aload_n (pc := 25) X 1 rfl dX3_takeOne_25 ?_
      obtain ⟨σ47, hc46, h⟩ := bd_e h
      refine g_callV (pc := 26) X k_ml_X3_57 (run_Re_step  hc46) s_2 rfl (room_ok (Nat.le_of_ble_eq_true rfl) (Nat.le_of_ble_eq_true rfl)) ⟨Nat.le_refl _, Nat.le_refl _⟩ _ rfl (Nat.le_of_ble_eq_true rfl) dX3_takeOne_26 ?_
      show Go V Γ M_X3_takeOne (Zm V Γ 4 fin) 29 [(4, .int r2), (0, .ref (V.2.2.1 + 2)), (1, .ref (V.2.2.1 + a1)), (2, .ref (V.2.2.1 + a2)), (3, .int p3)] [] σ47
      refine g_aload_n (pc := 29) X 1 rfl dX3_takeOne_29 ?_
      refine g_iconst (v := 5) (pc := 30) X rfl dX3_takeOne_30 ?_
      obtain ⟨r49, σ50, hc48, h⟩ := bd2_e h
      refine g_callV (pc := 31) X k_ml_X3_60 (run_Re_take  hc48) s_2 rfl (room_ok (Nat.le_of_ble_eq_true rfl) (Nat.le_of_ble_eq_true rfl)) ⟨Nat.le_refl _, Nat.le_refl _⟩ _ rfl (Nat.le_of_ble_eq_true rfl) dX3_takeOne_31 ?_
      show Go V Γ M_X3_takeOne (Zm V Γ 4 fin) 34 [(4, .int r2), (0, .ref (V.2.2.1 + 2)), (1, .ref (V.2.2.1 + a1)), (2, .ref (V.2.2.1 + a2)), (3, .int p3)] [.int r49] σ50
      obtain ⟨c51, h⟩ := chk_e h
      cases h
      exact g_iret (pc := 34) X rfl (ckz_e c51).1 (hr _ _ hA) dX3_takeOne_34
set_option maxRecDepth 100000 in
theorem run_DT_takeOne {V : Ev} {σ : St} {a1 : Nat} {a2 : Nat} {p3 : Int32} {o : (Int32 × St)} (k1 : okCl a1) (k2 : okDa a2)  (h : DT_takeOne σ a1 a2 p3 = some o) : Rs V 4 M_X3_takeOne [.ref (V.2.2.1 + 2), .ref (V.2.2.1 + a1), .ref (V.2.2.1 + a2), .int p3] σ (some (.int o.1), o.2) := by
  refine Rs.of (by decide +kernel) (Nat.le_of_ble_eq_true rfl) (fun Γ X => ?_)
  exact tm_DT_takeOne X (A := fun o1 => o1 = o) k1 k2 (fun _ _ e => by rw [← e]) h rfl
theorem dX3_innermostBehind_0 : decode cX3_innermostBehind 0 = .ok (.aload_n 0, 1) := by decide +kernel
theorem dX3_innermostBehind_1 : decode cX3_innermostBehind 1 = .ok (.getfield 38, 3) := by decide +kernel
theorem dX3_innermostBehind_4 : decode cX3_innermostBehind 4 = .ok (.iconst 1, 1) := by decide +kernel
theorem dX3_innermostBehind_5 : decode cX3_innermostBehind 5 = .ok (.isub, 1) := by decide +kernel
theorem dX3_innermostBehind_6 : decode cX3_innermostBehind 6 = .ok (.istore_n 3, 1) := by decide +kernel
theorem dX3_innermostBehind_7 : decode cX3_innermostBehind 7 = .ok (.iload_n 1, 1) := by decide +kernel
theorem dX3_innermostBehind_8 : decode cX3_innermostBehind 8 = .ok (.invokestatic 42, 3) := by decide +kernel
theorem dX3_innermostBehind_11 : decode cX3_innermostBehind 11 = .ok (.ifCond .eq 12, 3) := by decide +kernel
theorem dX3_innermostBehind_14 : decode cX3_innermostBehind 14 = .ok (.aload_n 0, 1) := by decide +kernel
theorem dX3_innermostBehind_15 : decode cX3_innermostBehind 15 = .ok (.getfield 45, 3) := by decide +kernel
theorem dX3_innermostBehind_18 : decode cX3_innermostBehind 18 = .ok (.iload_n 3, 1) := by decide +kernel
theorem dX3_innermostBehind_19 : decode cX3_innermostBehind 19 = .ok (.iload_n 2, 1) := by decide +kernel
theorem dX3_innermostBehind_20 : decode cX3_innermostBehind 20 = .ok (.iastore, 1) := by decide +kernel
theorem dX3_innermostBehind_21 : decode cX3_innermostBehind 21 = .ok (.iload_n 3, 1) := by decide +kernel
theorem dX3_innermostBehind_22 : decode cX3_innermostBehind 22 = .ok (.ireturn, 1) := by decide +kernel
theorem dX3_innermostBehind_23 : decode cX3_innermostBehind 23 = .ok (.iload_n 1, 1) := by decide +kernel
theorem dX3_innermostBehind_24 : decode cX3_innermostBehind 24 = .ok (.bipush 24, 2) := by decide +kernel
theorem dX3_innermostBehind_26 : decode cX3_innermostBehind 26 = .ok (.if_icmp .ne 8, 3) := by decide +kernel
theorem dX3_innermostBehind_29 : decode cX3_innermostBehind 29 = .ok (.iload_n 2, 1) := by decide +kernel
theorem dX3_innermostBehind_30 : decode cX3_innermostBehind 30 = .ok (.iconst (-1), 1) := by decide +kernel
theorem dX3_innermostBehind_31 : decode cX3_innermostBehind 31 = .ok (.if_icmp .ne 5, 3) := by decide +kernel
theorem dX3_innermostBehind_34 : decode cX3_innermostBehind 34 = .ok (.iload_n 2, 1) := by decide +kernel
theorem dX3_innermostBehind_35 : decode cX3_innermostBehind 35 = .ok (.ireturn, 1) := by decide +kernel
theorem dX3_innermostBehind_36 : decode cX3_innermostBehind 36 = .ok (.aload_n 0, 1) := by decide +kernel
theorem dX3_innermostBehind_37 : decode cX3_innermostBehind 37 = .ok (.getfield 45, 3) := by decide +kernel
theorem dX3_innermostBehind_40 : decode cX3_innermostBehind 40 = .ok (.iload_n 2, 1) := by decide +kernel
theorem dX3_innermostBehind_41 : decode cX3_innermostBehind 41 = .ok (.iaload, 1) := by decide +kernel
theorem dX3_innermostBehind_42 : decode cX3_innermostBehind 42 = .ok (.istore 4, 2) := by decide +kernel
theorem dX3_innermostBehind_44 : decode cX3_innermostBehind 44 = .ok (.aload_n 0, 1) := by decide +kernel
theorem dX3_innermostBehind_45 : decode cX3_innermostBehind 45 = .ok (.iload_n 2, 1) := by decide +kernel
theorem dX3_innermostBehind_46 : decode cX3_innermostBehind 46 = .ok (.iload_n 3, 1) := by decide +kernel
theorem dX3_innermostBehind_47 : decode cX3_innermostBehind 47 = .ok (.invokevirtual 49, 3) := by decide +kernel
theorem dX3_innermostBehind_50 : decode cX3_innermostBehind 50 = .ok (.iload 4, 2) := by decide +kernel
theorem dX3_innermostBehind_52 : decode cX3_innermostBehind 52 = .ok (.ireturn, 1) := by decide +kernel
noncomputable def DT_innermostBehind (σ : St) (a0 : Nat) (p1 : Int32) (p2 : Int32) : Option (Int32 × St) :=
  bnd (((σ.1 a0 6) - 1)) (fun v1 => bd (DT_isOpener p1) (fun r3 => if r3 = 0 then (if p1 = 24 then (if p2 = (-1) then (some (p2, σ)) else (chk (ix p2 60) (bnd ((σ.1 (a0 + 6) (tn p2))) (fun v5 => bd (Da_pair σ a0 p2 v1) (fun σ7 => some (v5, σ7)))))) else (some (p2, σ))) else (chk (ix v1 60) (bnd (wI σ (a0 + 6) (tn v1) p2) (fun σ11 => some (v1, σ11))))))
set_option maxRecDepth 100000 in
set_option maxHeartbeats 4000000 in
theorem tm_DT_innermostBehind {V : Ev} {Γ : Cn} {fin : Option Value × St} {σ : St} {a0 : Nat} {p1 : Int32} {p2 : Int32} {o : (Int32 × St)} (X : Cx V Γ M_X3_innermostBehind) {A : (Int32 × St) → Prop} (k0 : okDa a0) (hr : ∀ (r : Int32) (σ9 : St), A (r, σ9) → (some (.int r), σ9) = fin) (h : DT_innermostBehind σ a0 p1 p2 = some o) (hA : A o) : Go V Γ M_X3_innermostBehind (Zm V Γ 1 fin) 0 [(0, .ref (V.2.2.1 + a0)), (1, .int p1), (2, .int p2)] [] σ := by
  unfold DT_innermostBehind at h
  refine g_aload_n (pc := 0) X 0 rfl dX3_innermostBehind_0 ?_
  refine g_getI (pc := 1) X k_fl_X3_38 (sDa_0 k0) rfl dX3_innermostBehind_1 ?_
  refine g_iconst (v := 1) (pc := 4) X rfl dX3_innermostBehind_4 ?_
  refine g_isub (pc := 5) X dX3_innermostBehind_5 ?_
  obtain ⟨v1, e_v1, h⟩ := bnd_e h
  refine g_nmI e_v1 ?_
  refine g_istore_n (pc := 6) X [(3, .int v1), (0, .ref (V.2.2.1 + a0)), (1, .int p1), (2, .int p2)] rfl (Nat.le_of_ble_eq_true rfl) rfl dX3_innermostBehind_6 ?_
  refine g_iload_n (pc := 7) X 2 rfl dX3_innermostBehind_7 ?_
  obtain ⟨r3, hc2, h⟩ := bd_e h
  refine g_callS (pc := 8) X k_ml_X3_42 (run_DT_isOpener  hc2) rfl (room_ok (Nat.le_of_ble_eq_true rfl) (Nat.le_of_ble_eq_true rfl)) ⟨Nat.le_refl _, Nat.le_refl _⟩ _ rfl (Nat.le_of_ble_eq_true rfl) dX3_innermostBehind_8 ?_
  show Go V Γ M_X3_innermostBehind (Zm V Γ 1 fin) 11 [(3, .int v1), (0, .ref (V.2.2.1 + a0)), (1, .int p1), (2, .int p2)] [.int r3] σ
  refine g_if_eq (pc := 11) (tgt := 23) X dX3_innermostBehind_11 rfl (fun c12 => ?_) (fun c12 => ?_)
  · replace h := if_t c12 h
    refine g_iload_n (pc := 23) X 2 rfl dX3_innermostBehind_23 ?_
    refine g_bipush (v := 24) (pc := 24) X (by decide) dX3_innermostBehind_24 ?_
    refine g_icmp_ne (pc := 26) (tgt := 34) X dX3_innermostBehind_26 rfl (fun c9 => ?_) (fun c9 => ?_)
    · replace h := if_f c9 h
      refine g_iload_n (pc := 34) X 3 rfl dX3_innermostBehind_34 ?_
      cases h
      exact g_iret (pc := 35) X rfl rfl (hr _ _ hA) dX3_innermostBehind_35
    · replace h := if_t c9 h
      refine g_iload_n (pc := 29) X 3 rfl dX3_innermostBehind_29 ?_
      refine g_iconst (v := (-1)) (pc := 30) X rfl dX3_innermostBehind_30 ?_
      refine g_icmp_ne (pc := 31) (tgt := 36) X dX3_innermostBehind_31 rfl (fun c8 => ?_) (fun c8 => ?_)
      · replace h := if_f c8 h
        refine g_aload_n (pc := 36) X 1 rfl dX3_innermostBehind_36 ?_
        refine g_getR (r := (a0 + 6)) (pc := 37) X k_fl_X3_45 (sDa_0 k0) rfl dX3_innermostBehind_37 ?_
        refine g_iload_n (pc := 40) X 3 rfl dX3_innermostBehind_40 ?_
        obtain ⟨c4, h⟩ := chk_e h
        refine g_iald (pc := 41) X (sDa_6 k0) c4 dX3_innermostBehind_41 ?_
        obtain ⟨v5, e_v5, h⟩ := bnd_e h
        refine g_nmI e_v5 ?_
        refine g_istore (pc := 42) X [(4, .int v5), (3, .int v1), (0, .ref (V.2.2.1 + a0)), (1, .int p1), (2, .int p2)] (Nat.le_of_ble_eq_true rfl) rfl dX3_innermostBehind_42 ?_
        refine g_aload_n (pc := 44) X 2 rfl dX3_innermostBehind_44 ?_
        refine g_iload_n (pc := 45) X 4 rfl dX3_innermostBehind_45 ?_
        refine g_iload_n (pc := 46) X 1 rfl dX3_innermostBehind_46 ?_
        obtain ⟨σ7, hc6, h⟩ := bd_e h
        refine g_callV (pc := 47) X k_ml_X3_49 (run_Da_pair k0 hc6) (sDa_0 k0) rfl (room_ok (Nat.le_of_ble_eq_true rfl) (Nat.le_of_ble_eq_true rfl)) ⟨Nat.le_refl _, Nat.le_refl _⟩ _ rfl (Nat.le_of_ble_eq_true rfl) dX3_innermostBehind_47 ?_
        show Go V Γ M_X3_innermostBehind (Zm V Γ 1 fin) 50 [(4, .int v5), (3, .int v1), (0, .ref (V.2.2.1 + a0)), (1, .int p1), (2, .int p2)] [] σ7
        refine g_iload (pc := 50) X 0 rfl dX3_innermostBehind_50 ?_
        cases h
        exact g_iret (pc := 52) X rfl rfl (hr _ _ hA) dX3_innermostBehind_52
      · replace h := if_t c8 h
        refine g_iload_n (pc := 34) X 3 rfl dX3_innermostBehind_34 ?_
        cases h
        exact g_iret (pc := 35) X rfl rfl (hr _ _ hA) dX3_innermostBehind_35
  · replace h := if_f c12 h
    refine g_aload_n (pc := 14) X 1 rfl dX3_innermostBehind_14 ?_
    refine g_getR (r := (a0 + 6)) (pc := 15) X k_fl_X3_45 (sDa_0 k0) rfl dX3_innermostBehind_15 ?_
    refine g_iload_n (pc := 18) X 0 rfl dX3_innermostBehind_18 ?_
    refine g_iload_n (pc := 19) X 3 rfl dX3_innermostBehind_19 ?_
    obtain ⟨c10, h⟩ := chk_e h
    refine g_iast (pc := 20) X (sDa_6 k0) c10 dX3_innermostBehind_20 ?_
    obtain ⟨σ11, e_σ11, h⟩ := bnd_e h
    refine g_nmS e_σ11 ?_
    refine g_iload_n (pc := 21) X 0 rfl dX3_innermostBehind_21 ?_
    cases h
    exact g_iret (pc := 22) X rfl rfl (hr _ _ hA) dX3_innermostBehind_22
set_option maxRecDepth 100000 in
theorem run_DT_innermostBehind {V : Ev} {σ : St} {a0 : Nat} {p1 : Int32} {p2 : Int32} {o : (Int32 × St)} (k0 : okDa a0)  (h : DT_innermostBehind σ a0 p1 p2 = some o) : Rs V 1 M_X3_innermostBehind [.ref (V.2.2.1 + a0), .int p1, .int p2] σ (some (.int o.1), o.2) := by
  refine Rs.of (by decide +kernel) (Nat.le_of_ble_eq_true rfl) (fun Γ X => ?_)
  exact tm_DT_innermostBehind X (A := fun o1 => o1 = o) k0 (fun _ _ e => by rw [← e]) h rfl
theorem dX3_take_0 : decode cX3_take 0 = .ok (.aload_n 2, 1) := by decide +kernel
theorem dX3_take_1 : decode cX3_take 1 = .ok (.invokevirtual 9, 3) := by decide +kernel
theorem dX3_take_4 : decode cX3_take 4 = .ok (.iconst (-1), 1) := by decide +kernel
theorem dX3_take_5 : decode cX3_take 5 = .ok (.istore_n 3, 1) := by decide +kernel
theorem dX3_take_6 : decode cX3_take 6 = .ok (.iconst 0, 1) := by decide +kernel
theorem dX3_take_7 : decode cX3_take 7 = .ok (.istore 4, 2) := by decide +kernel
theorem dX3_take_9 : decode cX3_take 9 = .ok (.iload 4, 2) := by decide +kernel
theorem dX3_take_11 : decode cX3_take 11 = .ok (.sipush 300, 3) := by decide +kernel
theorem dX3_take_14 : decode cX3_take 14 = .ok (.if_icmp .gt 42, 3) := by decide +kernel
theorem dX3_take_17 : decode cX3_take 17 = .ok (.aload_n 0, 1) := by decide +kernel
theorem dX3_take_18 : decode cX3_take 18 = .ok (.invokevirtual 14, 3) := by decide +kernel
theorem dX3_take_21 : decode cX3_take 21 = .ok (.ifCond .eq 35, 3) := by decide +kernel
theorem dX3_take_24 : decode cX3_take 24 = .ok (.aload_n 0, 1) := by decide +kernel
theorem dX3_take_25 : decode cX3_take 25 = .ok (.invokevirtual 14, 3) := by decide +kernel
theorem dX3_take_28 : decode cX3_take 28 = .ok (.istore 5, 2) := by decide +kernel
theorem dX3_take_30 : decode cX3_take 30 = .ok (.aload_n 0, 1) := by decide +kernel
theorem dX3_take_31 : decode cX3_take 31 = .ok (.aload_n 1, 1) := by decide +kernel
theorem dX3_take_32 : decode cX3_take 32 = .ok (.aload_n 2, 1) := by decide +kernel
theorem dX3_take_33 : decode cX3_take 33 = .ok (.iload_n 3, 1) := by decide +kernel
theorem dX3_take_34 : decode cX3_take 34 = .ok (.invokestatic 20, 3) := by decide +kernel
theorem dX3_take_37 : decode cX3_take 37 = .ok (.ifCond .ne 5, 3) := by decide +kernel
theorem dX3_take_40 : decode cX3_take 40 = .ok (.iconst 0, 1) := by decide +kernel
theorem dX3_take_41 : decode cX3_take 41 = .ok (.ireturn, 1) := by decide +kernel
theorem dX3_take_42 : decode cX3_take 42 = .ok (.aload_n 2, 1) := by decide +kernel
theorem dX3_take_43 : decode cX3_take 43 = .ok (.iload 5, 2) := by decide +kernel
theorem dX3_take_45 : decode cX3_take 45 = .ok (.iload_n 3, 1) := by decide +kernel
theorem dX3_take_46 : decode cX3_take 46 = .ok (.invokestatic 26, 3) := by decide +kernel
theorem dX3_take_49 : decode cX3_take 49 = .ok (.istore_n 3, 1) := by decide +kernel
theorem dX3_take_50 : decode cX3_take 50 = .ok (.iinc 4 1, 3) := by decide +kernel
theorem dX3_take_53 : decode cX3_take 53 = .ok (.goto (-44), 3) := by decide +kernel
theorem dX3_take_56 : decode cX3_take 56 = .ok (.iload_n 3, 1) := by decide +kernel
theorem dX3_take_57 : decode cX3_take 57 = .ok (.iconst (-1), 1) := by decide +kernel
theorem dX3_take_58 : decode cX3_take 58 = .ok (.if_icmp .eq 9, 3) := by decide +kernel
theorem dX3_take_61 : decode cX3_take 61 = .ok (.aload_n 0, 1) := by decide +kernel
theorem dX3_take_62 : decode cX3_take 62 = .ok (.iconst 2, 1) := by decide +kernel
theorem dX3_take_63 : decode cX3_take 63 = .ok (.invokevirtual 30, 3) := by decide +kernel
theorem dX3_take_66 : decode cX3_take 66 = .ok (.ireturn, 1) := by decide +kernel
theorem dX3_take_67 : decode cX3_take 67 = .ok (.aload_n 2, 1) := by decide +kernel
theorem dX3_take_68 : decode cX3_take 68 = .ok (.iconst 1, 1) := by decide +kernel
theorem dX3_take_69 : decode cX3_take 69 = .ok (.putfield 34, 3) := by decide +kernel
theorem dX3_take_72 : decode cX3_take 72 = .ok (.iconst 1, 1) := by decide +kernel
theorem dX3_take_73 : decode cX3_take 73 = .ok (.ireturn, 1) := by decide +kernel
noncomputable def DT_take_J56_9 (σ : St) (l2 : Nat) (l3 : Int32) : Option (((Int32 × Int32 × St) ⊕ (Int32 × St))) :=
  if l3 = (-1) then (bnd (wI σ l2 8 1) (fun σ3 => some (.inr (1, σ3)))) else (bd2 (Re_blame σ 2) (fun r5 σ6 => chk (ckz r5) (some (.inr (r5, σ6)))))
set_option maxRecDepth 100000 in
set_option maxHeartbeats 4000000 in
theorem tj_DT_take_J56_9 {V : Ev} {Γ : Cn} {fin : Option Value × St} {σ : St} {l2 : Nat} {l3 : Int32} {l1 : Nat} {o : ((Int32 × Int32 × St) ⊕ (Int32 × St))} (X : Cx V Γ M_X3_take) {A : ((Int32 × Int32 × St) ⊕ (Int32 × St)) → Prop} (k_l2 : okDa l2) (hr : ∀ (r : Int32) (σ9 : St), A (.inr (r, σ9)) → (some (.int r), σ9) = fin) (hb9 : ∀ (x3 : Int32) (x4 : Int32) (σ9 : St), A (.inl (x3, x4, σ9)) → Go V Γ M_X3_take (Zm V Γ 5 fin) 9 [(0, .ref (V.2.2.1 + 2)), (1, .ref (V.2.2.1 + l1)), (2, .ref (V.2.2.1 + l2)), (3, .int x3), (4, .int x4)] [] σ9) (h : DT_take_J56_9 σ l2 l3 = some o) (hA : A o) : Go V Γ M_X3_take (Zm V Γ 5 fin) 56 [(0, .ref (V.2.2.1 + 2)), (2, .ref (V.2.2.1 + l2)), (3, .int l3)] [] σ := by
  unfold DT_take_J56_9 at h
  refine g_iload_n (pc := 56) X 2 rfl dX3_take_56 ?_
  refine g_iconst (v := (-1)) (pc := 57) X rfl dX3_take_57 ?_
  refine g_icmp_eq (pc := 58) (tgt := 67) X dX3_take_58 rfl (fun c8 => ?_) (fun c8 => ?_)
  · replace h := if_t c8 h
    refine g_aload_n (pc := 67) X 1 rfl dX3_take_67 ?_
    refine g_iconst (v := 1) (pc := 68) X rfl dX3_take_68 ?_
    refine g_putI (pc := 69) X k_fl_X3_34 (sDa_0 k_l2) rfl nz1.1 nz1.2 dX3_take_69 ?_
    obtain ⟨σ3, e_σ3, h⟩ := bnd_e h
    refine g_nmS e_σ3 ?_
    refine g_iconst (v := 1) (pc := 72) X rfl dX3_take_72 ?_
    cases h
    exact g_iret (pc := 73) X rfl nz1.1 (hr _ _ hA) dX3_take_73
  · replace h := if_f c8 h
    refine g_aload_n (pc := 61) X 0 rfl dX3_take_61 ?_
    refine g_iconst (v := 2) (pc := 62) X rfl dX3_take_62 ?_
    obtain ⟨r5, σ6, hc4, h⟩ := bd2_e h
    refine g_callV (pc := 63) X k_ml_X3_30 (run_Re_blame  hc4) s_2 rfl (room_ok (Nat.le_of_ble_eq_true rfl) (Nat.le_of_ble_eq_true rfl)) ⟨Nat.le_refl _, Nat.le_refl _⟩ _ rfl (Nat.le_of_ble_eq_true rfl) dX3_take_63 ?_
    show Go V Γ M_X3_take (Zm V Γ 5 fin) 66 [(0, .ref (V.2.2.1 + 2)), (2, .ref (V.2.2.1 + l2)), (3, .int l3)] [.int r5] σ6
    obtain ⟨c7, h⟩ := chk_e h
    cases h
    exact g_iret (pc := 66) X rfl (ckz_e c7).1 (hr _ _ hA) dX3_take_66
noncomputable def DT_take_L9 (l1 : Nat) (l2 : Nat) (σ : St) (x3 : Int32) (x4 : Int32) : Option ((Int32 × Int32 × St) ⊕ (Int32 × St)) :=
  if 300 < x4 then (DT_take_J56_9 σ l2 x3) else (bd (Re_token σ) (fun r10 => if r10 = 0 then (DT_take_J56_9 σ l2 x3) else (bd (Re_token σ) (fun r12 => bd2 (DT_takeOne σ l1 l2 x3) (fun r14 σ15 => if r14 = 0 then (some (.inr (0, σ15))) else (bd2 (DT_innermostBehind σ15 l2 r12 x3) (fun r17 σ18 => bnd (x4 + 1) (fun v19 => some (.inl (r17, v19, σ18))))))))))
set_option maxRecDepth 100000 in
set_option maxHeartbeats 4000000 in
theorem tb_DT_take_L9 {V : Ev} {Γ : Cn} {fin : Option Value × St} {l1 : Nat} {l2 : Nat} {σ : St} {x3 : Int32} {x4 : Int32} {o : ((Int32 × Int32 × St) ⊕ (Int32 × St))} (X : Cx V Γ M_X3_take) {A : ((Int32 × Int32 × St) ⊕ (Int32 × St)) → Prop} (k_l1 : okCl l1) (k_l2 : okDa l2) (hr : ∀ (r : Int32) (σ9 : St), A (.inr (r, σ9)) → (some (.int r), σ9) = fin) (hb9 : ∀ (x3 : Int32) (x4 : Int32) (σ9 : St), A (.inl (x3, x4, σ9)) → Go V Γ M_X3_take (Zm V Γ 5 fin) 9 [(0, .ref (V.2.2.1 + 2)), (1, .ref (V.2.2.1 + l1)), (2, .ref (V.2.2.1 + l2)), (3, .int x3), (4, .int x4)] [] σ9) (h : DT_take_L9 l1 l2 σ x3 x4 = some o) (hA : A o) : Go V Γ M_X3_take (Zm V Γ 5 fin) 9 [(0, .ref (V.2.2.1 + 2)), (1, .ref (V.2.2.1 + l1)), (2, .ref (V.2.2.1 + l2)), (3, .int x3), (4, .int x4)] [] σ := by
  unfold DT_take_L9 at h
  refine g_iload (pc := 9) X 4 rfl dX3_take_9 ?_
  refine g_sipush (v := 300) (pc := 11) X (by decide) dX3_take_11 ?_
  refine g_icmp_gt (pc := 14) (tgt := 56) X dX3_take_14 rfl (fun c22 => ?_) (fun c22 => ?_)
  · replace h := if_t c22 h
    refine g_sub [0, 2, 3] rfl ?_
    exact tj_DT_take_J56_9 X k_l2 hr hb9 h hA
  · replace h := if_f c22 h
    refine g_aload_n (pc := 17) X 0 rfl dX3_take_17 ?_
    obtain ⟨r10, hc9, h⟩ := bd_e h
    refine g_callV (pc := 18) X k_ml_X3_14 (run_Re_token  hc9) s_2 rfl (room_ok (Nat.le_of_ble_eq_true rfl) (Nat.le_of_ble_eq_true rfl)) ⟨Nat.le_refl _, Nat.le_refl _⟩ _ rfl (Nat.le_of_ble_eq_true rfl) dX3_take_18 ?_
    show Go V Γ M_X3_take (Zm V Γ 5 fin) 21 [(0, .ref (V.2.2.1 + 2)), (1, .ref (V.2.2.1 + l1)), (2, .ref (V.2.2.1 + l2)), (3, .int x3), (4, .int x4)] [.int r10] σ
    refine g_if_eq (pc := 21) (tgt := 56) X dX3_take_21 rfl (fun c21 => ?_) (fun c21 => ?_)
    · replace h := if_t c21 h
      refine g_sub [0, 2, 3] rfl ?_
      exact tj_DT_take_J56_9 X k_l2 hr hb9 h hA
    · replace h := if_f c21 h
      refine g_aload_n (pc := 24) X 0 rfl dX3_take_24 ?_
      obtain ⟨r12, hc11, h⟩ := bd_e h
      refine g_callV (pc := 25) X k_ml_X3_14 (run_Re_token  hc11) s_2 rfl (room_ok (Nat.le_of_ble_eq_true rfl) (Nat.le_of_ble_eq_true rfl)) ⟨Nat.le_refl _, Nat.le_refl _⟩ _ rfl (Nat.le_of_ble_eq_true rfl) dX3_take_25 ?_
      show Go V Γ M_X3_take (Zm V Γ 5 fin) 28 [(0, .ref (V.2.2.1 + 2)), (1, .ref (V.2.2.1 + l1)), (2, .ref (V.2.2.1 + l2)), (3, .int x3), (4, .int x4)] [.int r12] σ
      refine g_istore (pc := 28) X [(5, .int r12), (0, .ref (V.2.2.1 + 2)), (1, .ref (V.2.2.1 + l1)), (2, .ref (V.2.2.1 + l2)), (3, .int x3), (4, .int x4)] (Nat.le_of_ble_eq_true rfl) rfl dX3_take_28 ?_
      refine g_aload_n (pc := 30) X 1 rfl dX3_take_30 ?_
      refine g_aload_n (pc := 31) X 2 rfl dX3_take_31 ?_
      refine g_aload_n (pc := 32) X 3 rfl dX3_take_32 ?_
      refine g_iload_n (pc := 33) X 4 rfl dX3_take_33 ?_
      obtain ⟨r14, σ15, hc13, h⟩ := bd2_e h
      refine g_callS (pc := 34) X k_ml_X3_20 (run_DT_takeOne k_l1 k_l2 hc13) rfl (room_ok (Nat.le_of_ble_eq_true rfl) (Nat.le_of_ble_eq_true rfl)) ⟨Nat.le_refl _, Nat.le_refl _⟩ _ rfl (Nat.le_of_ble_eq_true rfl) dX3_take_34 ?_
      show Go V Γ M_X3_take (Zm V Γ 5 fin) 37 [(5, .int r12), (0, .ref (V.2.2.1 + 2)), (1, .ref (V.2.2.1 + l1)), (2, .ref (V.2.2.1 + l2)), (3, .int x3), (4, .int x4)] [.int r14] σ15
      refine g_if_ne (pc := 37) (tgt := 42) X dX3_take_37 rfl (fun c20 => ?_) (fun c20 => ?_)
      · replace h := if_f c20 h
        refine g_aload_n (pc := 42) X 3 rfl dX3_take_42 ?_
        refine g_iload (pc := 43) X 0 rfl dX3_take_43 ?_
        refine g_iload_n (pc := 45) X 4 rfl dX3_take_45 ?_
        obtain ⟨r17, σ18, hc16, h⟩ := bd2_e h
        refine g_callS (pc := 46) X k_ml_X3_26 (run_DT_innermostBehind k_l2 hc16) rfl (room_ok (Nat.le_of_ble_eq_true rfl) (Nat.le_of_ble_eq_true rfl)) ⟨Nat.le_refl _, Nat.le_refl _⟩ _ rfl (Nat.le_of_ble_eq_true rfl) dX3_take_46 ?_
        show Go V Γ M_X3_take (Zm V Γ 5 fin) 49 [(5, .int r12), (0, .ref (V.2.2.1 + 2)), (1, .ref (V.2.2.1 + l1)), (2, .ref (V.2.2.1 + l2)), (3, .int x3), (4, .int x4)] [.int r17] σ18
        refine g_istore_n (pc := 49) X [(3, .int r17), (5, .int r12), (0, .ref (V.2.2.1 + 2)), (1, .ref (V.2.2.1 + l1)), (2, .ref (V.2.2.1 + l2)), (4, .int x4)] rfl (Nat.le_of_ble_eq_true rfl) rfl dX3_take_49 ?_
        obtain ⟨v19, e_v19, h⟩ := bnd_e h
        refine g_iinc (pc := 50) (v := v19) X [(4, .int v19), (3, .int r17), (5, .int r12), (0, .ref (V.2.2.1 + 2)), (1, .ref (V.2.2.1 + l1)), (2, .ref (V.2.2.1 + l2))] 5 rfl (by rw [e_v19]; rfl) (Nat.le_of_ble_eq_true rfl) rfl dX3_take_50 ?_
        refine g_goto (pc := 53) (tgt := 9) X dX3_take_53 rfl ?_
        refine g_sub [3, 4, 5, 1, 0] rfl ?_
        cases h
        exact hb9 _ _ _ hA
      · replace h := if_t c20 h
        refine g_iconst (v := 0) (pc := 40) X rfl dX3_take_40 ?_
        cases h
        exact g_iret (pc := 41) X rfl nz0.1 (hr _ _ hA) dX3_take_41
set_option maxRecDepth 100000 in
theorem tl_DT_take_L9 {V : Ev} {Γ : Cn} {fin : Option Value × St} {l1 : Nat} {l2 : Nat} {x3 : Int32} {x4 : Int32} {σ9 : St} (X : Cx V Γ M_X3_take) (k_l1 : okCl l1) (k_l2 : okDa l2) {e : (Int32 × St)} {A : (Int32 × St) → Prop} (hr : ∀ (r : Int32) (σ9 : St), A (r, σ9) → (some (.int r), σ9) = fin) {n : Nat} (h : iter (fun s : (Int32 × Int32 × St) => DT_take_L9 l1 l2 s.2.2 s.1 s.2.1) n (x3, x4, σ9) = some e) (hA : A e) : Go V Γ M_X3_take (Zm V Γ 5 fin) 9 [(0, .ref (V.2.2.1 + 2)), (1, .ref (V.2.2.1 + l1)), (2, .ref (V.2.2.1 + l2)), (3, .int x3), (4, .int x4)] [] σ9 := by
  refine iter_go (G := (fun s : (Int32 × Int32 × St) => Go V Γ M_X3_take (Zm V Γ 5 fin) 9 [(0, .ref (V.2.2.1 + 2)), (1, .ref (V.2.2.1 + l1)), (2, .ref (V.2.2.1 + l2)), (3, .int s.1), (4, .int s.2.1)] [] s.2.2)) (fun s o ho hS => ?_) n (x3, x4, σ9) h
  exact tb_DT_take_L9 X k_l1 k_l2 (fun z0 z1 he => hr z0 z1 (by rw [he]; exact hA)) (fun _ _ _ h9 => h9) ho hS
noncomputable def DT_take (σ : St) (a1 : Nat) (a2 : Nat) : Option (Int32 × St) :=
  bd (Da_clear σ a2) (fun σ2 => iter (fun s : (Int32 × Int32 × St) => DT_take_L9 a1 a2 s.2.2 s.1 s.2.1) FUEL ((-1), 0, σ2))
set_option maxRecDepth 100000 in
set_option maxHeartbeats 4000000 in
theorem tm_DT_take {V : Ev} {Γ : Cn} {fin : Option Value × St} {σ : St} {a1 : Nat} {a2 : Nat} {o : (Int32 × St)} (X : Cx V Γ M_X3_take) {A : (Int32 × St) → Prop} (k1 : okCl a1) (k2 : okDa a2) (hr : ∀ (r : Int32) (σ9 : St), A (r, σ9) → (some (.int r), σ9) = fin) (h : DT_take σ a1 a2 = some o) (hA : A o) : Go V Γ M_X3_take (Zm V Γ 5 fin) 0 [(0, .ref (V.2.2.1 + 2)), (1, .ref (V.2.2.1 + a1)), (2, .ref (V.2.2.1 + a2))] [] σ := by
  unfold DT_take at h
  refine g_aload_n (pc := 0) X 2 rfl dX3_take_0 ?_
  obtain ⟨σ2, hc1, h⟩ := bd_e h
  refine g_callV (pc := 1) X k_ml_X3_9 (run_Da_clear k2 hc1) (sDa_0 k2) rfl (room_ok (Nat.le_of_ble_eq_true rfl) (Nat.le_of_ble_eq_true rfl)) ⟨Nat.le_refl _, Nat.le_refl _⟩ _ rfl (Nat.le_of_ble_eq_true rfl) dX3_take_1 ?_
  show Go V Γ M_X3_take (Zm V Γ 5 fin) 4 [(0, .ref (V.2.2.1 + 2)), (1, .ref (V.2.2.1 + a1)), (2, .ref (V.2.2.1 + a2))] [] σ2
  refine g_iconst (v := (-1)) (pc := 4) X rfl dX3_take_4 ?_
  refine g_istore_n (pc := 5) X [(3, .int (-1)), (0, .ref (V.2.2.1 + 2)), (1, .ref (V.2.2.1 + a1)), (2, .ref (V.2.2.1 + a2))] rfl (Nat.le_of_ble_eq_true rfl) rfl dX3_take_5 ?_
  refine g_iconst (v := 0) (pc := 6) X rfl dX3_take_6 ?_
  refine g_istore (pc := 7) X [(4, .int 0), (3, .int (-1)), (0, .ref (V.2.2.1 + 2)), (1, .ref (V.2.2.1 + a1)), (2, .ref (V.2.2.1 + a2))] (Nat.le_of_ble_eq_true rfl) rfl dX3_take_7 ?_
  refine g_sub [2, 3, 4, 1, 0] rfl ?_
  exact tl_DT_take_L9 X k1 k2 hr h hA
set_option maxRecDepth 100000 in
theorem run_DT_take {V : Ev} {σ : St} {a1 : Nat} {a2 : Nat} {o : (Int32 × St)} (k1 : okCl a1) (k2 : okDa a2)  (h : DT_take σ a1 a2 = some o) : Rs V 5 M_X3_take [.ref (V.2.2.1 + 2), .ref (V.2.2.1 + a1), .ref (V.2.2.1 + a2)] σ (some (.int o.1), o.2) := by
  refine Rs.of (by decide +kernel) (Nat.le_of_ble_eq_true rfl) (fun Γ X => ?_)
  exact tm_DT_take X (A := fun o1 => o1 = o) k1 k2 (fun _ _ e => by rw [← e]) h rfl
theorem dJ7_fill_d0a16_0 : decode cJ7_fill_d0a16 0 = .ok (.iconst 0, 1) := by decide +kernel
theorem dJ7_fill_d0a16_1 : decode cJ7_fill_d0a16 1 = .ok (.istore_n 3, 1) := by decide +kernel
theorem dJ7_fill_d0a16_2 : decode cJ7_fill_d0a16 2 = .ok (.aload_n 0, 1) := by decide +kernel
theorem dJ7_fill_d0a16_3 : decode cJ7_fill_d0a16 3 = .ok (.arraylength, 1) := by decide +kernel
theorem dJ7_fill_d0a16_4 : decode cJ7_fill_d0a16 4 = .ok (.istore 4, 2) := by decide +kernel
theorem dJ7_fill_d0a16_6 : decode cJ7_fill_d0a16 6 = .ok (.iload_n 3, 1) := by decide +kernel
theorem dJ7_fill_d0a16_7 : decode cJ7_fill_d0a16 7 = .ok (.iload 4, 2) := by decide +kernel
theorem dJ7_fill_d0a16_9 : decode cJ7_fill_d0a16 9 = .ok (.if_icmp .ge 13, 3) := by decide +kernel
theorem dJ7_fill_d0a16_12 : decode cJ7_fill_d0a16 12 = .ok (.aload_n 0, 1) := by decide +kernel
theorem dJ7_fill_d0a16_13 : decode cJ7_fill_d0a16 13 = .ok (.iload_n 3, 1) := by decide +kernel
theorem dJ7_fill_d0a16_14 : decode cJ7_fill_d0a16 14 = .ok (.lload_n 1, 1) := by decide +kernel
theorem dJ7_fill_d0a16_15 : decode cJ7_fill_d0a16 15 = .ok (.lastore, 1) := by decide +kernel
theorem dJ7_fill_d0a16_16 : decode cJ7_fill_d0a16 16 = .ok (.iinc 3 1, 3) := by decide +kernel
theorem dJ7_fill_d0a16_19 : decode cJ7_fill_d0a16 19 = .ok (.goto (-13), 3) := by decide +kernel
theorem dJ7_fill_d0a16_22 : decode cJ7_fill_d0a16 22 = .ok (.return_, 1) := by decide +kernel
noncomputable def JA_fill_d0a16_L6 (l0 : Nat) (n0 : Nat) (l1 : Int64) (l4 : Int32) (σ : St) (x3 : Int32) : Option ((Int32 × St) ⊕ St) :=
  if l4 ≤ x3 then (some (.inr σ)) else (chk (ix x3 n0) (bnd (wL σ l0 (tn x3) l1) (fun σ3 => bnd (x3 + 1) (fun v4 => some (.inl (v4, σ3))))))
set_option maxRecDepth 100000 in
set_option maxHeartbeats 4000000 in
theorem tb_JA_fill_d0a16_L6 {V : Ev} {Γ : Cn} {fin : Option Value × St} {l0 : Nat} {n0 : Nat} {l1 : Int64} {l4 : Int32} {σ : St} {x3 : Int32} {o : ((Int32 × St) ⊕ St)} (X : Cx V Γ M_J7_fill_d0a16) {A : ((Int32 × St) ⊕ St) → Prop} (k_l0 : shp[l0]? = some (.inr (1, n0))) (hb6 : ∀ (x3 : Int32) (σ9 : St), A (.inl (x3, σ9)) → Go V Γ M_J7_fill_d0a16 (Zm V Γ 0 fin) 6 [(0, .ref (V.2.2.1 + l0)), (1, .long l1), (3, .int x3), (4, .int l4)] [] σ9) (hx6 : ∀ (σ9 : St), A (.inr σ9) → Go V Γ M_J7_fill_d0a16 (Zm V Γ 0 fin) 22 [] [] σ9) (h : JA_fill_d0a16_L6 l0 n0 l1 l4 σ x3 = some o) (hA : A o) : Go V Γ M_J7_fill_d0a16 (Zm V Γ 0 fin) 6 [(0, .ref (V.2.2.1 + l0)), (1, .long l1), (3, .int x3), (4, .int l4)] [] σ := by
  unfold JA_fill_d0a16_L6 at h
  refine g_iload_n (pc := 6) X 2 rfl dJ7_fill_d0a16_6 ?_
  refine g_iload (pc := 7) X 3 rfl dJ7_fill_d0a16_7 ?_
  refine g_icmp_ge (pc := 9) (tgt := 22) X dJ7_fill_d0a16_9 rfl (fun c5 => ?_) (fun c5 => ?_)
  · replace h := if_t c5 h
    refine g_sub [] rfl ?_
    cases h
    exact hx6 _ hA
  · replace h := if_f c5 h
    refine g_aload_n (pc := 12) X 0 rfl dJ7_fill_d0a16_12 ?_
    refine g_iload_n (pc := 13) X 2 rfl dJ7_fill_d0a16_13 ?_
    refine g_lload_n (pc := 14) X 1 rfl dJ7_fill_d0a16_14 ?_
    obtain ⟨c2, h⟩ := chk_e h
    refine g_last (pc := 15) X k_l0 c2 dJ7_fill_d0a16_15 ?_
    obtain ⟨σ3, e_σ3, h⟩ := bnd_e h
    refine g_nmS e_σ3 ?_
    obtain ⟨v4, e_v4, h⟩ := bnd_e h
    refine g_iinc (pc := 16) (v := v4) X [(3, .int v4), (0, .ref (V.2.2.1 + l0)), (1, .long l1), (4, .int l4)] 2 rfl (by rw [e_v4]; rfl) (Nat.le_of_ble_eq_true rfl) rfl dJ7_fill_d0a16_16 ?_
    refine g_goto (pc := 19) (tgt := 6) X dJ7_fill_d0a16_19 rfl ?_
    refine g_sub [1, 2, 0, 3] rfl ?_
    cases h
    exact hb6 _ _ hA
set_option maxRecDepth 100000 in
theorem tl_JA_fill_d0a16_L6 {V : Ev} {Γ : Cn} {fin : Option Value × St} {l0 : Nat} {n0 : Nat} {l1 : Int64} {l4 : Int32} {x3 : Int32} {σ9 : St} (X : Cx V Γ M_J7_fill_d0a16) (k_l0 : shp[l0]? = some (.inr (1, n0))) {σ8 : St} {n : Nat} (h : iter (fun s : (Int32 × St) => JA_fill_d0a16_L6 l0 n0 l1 l4 s.2 s.1) n (x3, σ9) = some σ8) (hK : Go V Γ M_J7_fill_d0a16 (Zm V Γ 0 fin) 22 [] [] σ8) : Go V Γ M_J7_fill_d0a16 (Zm V Γ 0 fin) 6 [(0, .ref (V.2.2.1 + l0)), (1, .long l1), (3, .int x3), (4, .int l4)] [] σ9 := by
  refine iter_go (G := (fun s : (Int32 × St) => Go V Γ M_J7_fill_d0a16 (Zm V Γ 0 fin) 6 [(0, .ref (V.2.2.1 + l0)), (1, .long l1), (3, .int s.1), (4, .int l4)] [] s.2)) (fun s o ho hS => ?_) n (x3, σ9) h
  exact tb_JA_fill_d0a16_L6 X k_l0 (fun _ _ h9 => h9) (fun _ he => by cases he; exact hK) ho hS
noncomputable def JA_fill_d0a16 (σ : St) (a0 : Nat) (n0 : Nat) (p1 : Int64) : Option St :=
  bnd ((Int32.ofNat n0)) (fun v1 => bd (iter (fun s : (Int32 × St) => JA_fill_d0a16_L6 a0 n0 p1 v1 s.2 s.1) FUEL (0, σ)) (fun σ6 => some σ6))
set_option maxRecDepth 100000 in
set_option maxHeartbeats 4000000 in
theorem tm_JA_fill_d0a16 {V : Ev} {Γ : Cn} {fin : Option Value × St} {σ : St} {a0 : Nat} {n0 : Nat} {p1 : Int64} {o : St} (X : Cx V Γ M_J7_fill_d0a16) {A : St → Prop} (k0 : shp[a0]? = some (.inr (1, n0))) (hr : ∀ (σ9 : St), A σ9 → (none, σ9) = fin) (h : JA_fill_d0a16 σ a0 n0 p1 = some o) (hA : A o) : Go V Γ M_J7_fill_d0a16 (Zm V Γ 0 fin) 0 [(0, .ref (V.2.2.1 + a0)), (1, .long p1)] [] σ := by
  unfold JA_fill_d0a16 at h
  refine g_iconst (v := 0) (pc := 0) X rfl dJ7_fill_d0a16_0 ?_
  refine g_istore_n (pc := 1) X [(3, .int 0), (0, .ref (V.2.2.1 + a0)), (1, .long p1)] rfl (Nat.le_of_ble_eq_true rfl) rfl dJ7_fill_d0a16_1 ?_
  refine g_aload_n (pc := 2) X 1 rfl dJ7_fill_d0a16_2 ?_
  refine g_alenI (pc := 3) X k0 rfl dJ7_fill_d0a16_3 ?_
  obtain ⟨v1, e_v1, h⟩ := bnd_e h
  refine g_nmI e_v1 ?_
  refine g_istore (pc := 4) X [(4, .int v1), (3, .int 0), (0, .ref (V.2.2.1 + a0)), (1, .long p1)] (Nat.le_of_ble_eq_true rfl) rfl dJ7_fill_d0a16_4 ?_
  refine g_sub [2, 3, 1, 0] rfl ?_
  obtain ⟨σ6, hi7, h⟩ := bd_e h
  refine tl_JA_fill_d0a16_L6 X k0 hi7 ?_
  cases h
  exact g_vret (pc := 22) X rfl (hr _ hA) dJ7_fill_d0a16_22
set_option maxRecDepth 100000 in
theorem run_JA_fill_d0a16 {V : Ev} {σ : St} {a0 : Nat} {n0 : Nat} {p1 : Int64} {o : St} (k0 : shp[a0]? = some (.inr (1, n0)))  (h : JA_fill_d0a16 σ a0 n0 p1 = some o) : Rs V 0 M_J7_fill_d0a16 [.ref (V.2.2.1 + a0), .long p1] σ (none, o) := by
  refine Rs.of (by decide +kernel) (Nat.le_of_ble_eq_true rfl) (fun Γ X => ?_)
  exact tm_JA_fill_d0a16 X (A := fun o1 => o1 = o) k0 (fun _ e => by rw [e]) h rfl
theorem dX7_lay_0 : decode cX7_lay 0 = .ok (.iload_n 1, 1) := by decide +kernel
theorem dX7_lay_1 : decode cX7_lay 1 = .ok (.invokestatic 61, 3) := by decide +kernel
theorem dX7_lay_4 : decode cX7_lay 4 = .ok (.lstore_n 3, 1) := by decide +kernel
theorem dX7_lay_5 : decode cX7_lay 5 = .ok (.bipush 64, 2) := by decide +kernel
theorem dX7_lay_7 : decode cX7_lay 7 = .ok (.iload_n 1, 1) := by decide +kernel
theorem dX7_lay_8 : decode cX7_lay 8 = .ok (.invokestatic 65, 3) := by decide +kernel
theorem dX7_lay_11 : decode cX7_lay 11 = .ok (.istore 5, 2) := by decide +kernel
theorem dX7_lay_13 : decode cX7_lay 13 = .ok (.iload_n 2, 1) := by decide +kernel
theorem dX7_lay_14 : decode cX7_lay 14 = .ok (.istore 6, 2) := by decide +kernel
theorem dX7_lay_16 : decode cX7_lay 16 = .ok (.iconst 0, 1) := by decide +kernel
theorem dX7_lay_17 : decode cX7_lay 17 = .ok (.istore 7, 2) := by decide +kernel
theorem dX7_lay_19 : decode cX7_lay 19 = .ok (.iload 7, 2) := by decide +kernel
theorem dX7_lay_21 : decode cX7_lay 21 = .ok (.aload_n 0, 1) := by decide +kernel
theorem dX7_lay_22 : decode cX7_lay 22 = .ok (.getfield 25, 3) := by decide +kernel
theorem dX7_lay_25 : decode cX7_lay 25 = .ok (.if_icmp .ge 71, 3) := by decide +kernel
theorem dX7_lay_28 : decode cX7_lay 28 = .ok (.lload_n 3, 1) := by decide +kernel
theorem dX7_lay_29 : decode cX7_lay 29 = .ok (.iload 6, 2) := by decide +kernel
theorem dX7_lay_31 : decode cX7_lay 31 = .ok (.lshl, 1) := by decide +kernel
theorem dX7_lay_32 : decode cX7_lay 32 = .ok (.lstore 8, 2) := by decide +kernel
theorem dX7_lay_34 : decode cX7_lay 34 = .ok (.aload_n 0, 1) := by decide +kernel
theorem dX7_lay_35 : decode cX7_lay 35 = .ok (.getfield 15, 3) := by decide +kernel
theorem dX7_lay_38 : decode cX7_lay 38 = .ok (.iload 7, 2) := by decide +kernel
theorem dX7_lay_40 : decode cX7_lay 40 = .ok (.dup2, 1) := by decide +kernel
theorem dX7_lay_41 : decode cX7_lay 41 = .ok (.laload, 1) := by decide +kernel
theorem dX7_lay_42 : decode cX7_lay 42 = .ok (.aload_n 0, 1) := by decide +kernel
theorem dX7_lay_43 : decode cX7_lay 43 = .ok (.getfield 9, 3) := by decide +kernel
theorem dX7_lay_46 : decode cX7_lay 46 = .ok (.iload 7, 2) := by decide +kernel
theorem dX7_lay_48 : decode cX7_lay 48 = .ok (.laload, 1) := by decide +kernel
theorem dX7_lay_49 : decode cX7_lay 49 = .ok (.lload 8, 2) := by decide +kernel
theorem dX7_lay_51 : decode cX7_lay 51 = .ok (.land, 1) := by decide +kernel
theorem dX7_lay_52 : decode cX7_lay 52 = .ok (.lor, 1) := by decide +kernel
theorem dX7_lay_53 : decode cX7_lay 53 = .ok (.lastore, 1) := by decide +kernel
theorem dX7_lay_54 : decode cX7_lay 54 = .ok (.aload_n 0, 1) := by decide +kernel
theorem dX7_lay_55 : decode cX7_lay 55 = .ok (.getfield 9, 3) := by decide +kernel
theorem dX7_lay_58 : decode cX7_lay 58 = .ok (.iload 7, 2) := by decide +kernel
theorem dX7_lay_60 : decode cX7_lay 60 = .ok (.dup2, 1) := by decide +kernel
theorem dX7_lay_61 : decode cX7_lay 61 = .ok (.laload, 1) := by decide +kernel
theorem dX7_lay_62 : decode cX7_lay 62 = .ok (.lload 8, 2) := by decide +kernel
theorem dX7_lay_64 : decode cX7_lay 64 = .ok (.lor, 1) := by decide +kernel
theorem dX7_lay_65 : decode cX7_lay 65 = .ok (.lastore, 1) := by decide +kernel
theorem dX7_lay_66 : decode cX7_lay 66 = .ok (.iload 6, 2) := by decide +kernel
theorem dX7_lay_68 : decode cX7_lay 68 = .ok (.iload 5, 2) := by decide +kernel
theorem dX7_lay_70 : decode cX7_lay 70 = .ok (.if_icmp .ge 13, 3) := by decide +kernel
theorem dX7_lay_73 : decode cX7_lay 73 = .ok (.iload 6, 2) := by decide +kernel
theorem dX7_lay_75 : decode cX7_lay 75 = .ok (.iload 5, 2) := by decide +kernel
theorem dX7_lay_77 : decode cX7_lay 77 = .ok (.isub, 1) := by decide +kernel
theorem dX7_lay_78 : decode cX7_lay 78 = .ok (.iload_n 1, 1) := by decide +kernel
theorem dX7_lay_79 : decode cX7_lay 79 = .ok (.iadd, 1) := by decide +kernel
theorem dX7_lay_80 : decode cX7_lay 80 = .ok (.goto 8, 3) := by decide +kernel
theorem dX7_lay_83 : decode cX7_lay 83 = .ok (.iload 6, 2) := by decide +kernel
theorem dX7_lay_85 : decode cX7_lay 85 = .ok (.iload 5, 2) := by decide +kernel
theorem dX7_lay_87 : decode cX7_lay 87 = .ok (.isub, 1) := by decide +kernel
theorem dX7_lay_88 : decode cX7_lay 88 = .ok (.istore 6, 2) := by decide +kernel
theorem dX7_lay_90 : decode cX7_lay 90 = .ok (.iinc 7 1, 3) := by decide +kernel
theorem dX7_lay_93 : decode cX7_lay 93 = .ok (.goto (-74), 3) := by decide +kernel
theorem dX7_lay_96 : decode cX7_lay 96 = .ok (.return_, 1) := by decide +kernel
noncomputable def Si_lay_L19 (l1 : Int32) (l3 : Int64) (l5 : Int32) (σ : St) (x6 : Int32) (x7 : Int32) : Option ((Int32 × Int32 × St) ⊕ St) :=
  if (σ.1 31 4) ≤ x7 then (some (.inr σ)) else (bnd ((l3 <<< (x6.toInt64 &&& 63))) (fun v5 => chk (ix x7 79) (chk (ix x7 79) (chk (ix x7 79) (bnd (wL σ 33 (tn x7) ((σ.2 33 (tn x7)) ||| ((σ.2 32 (tn x7)) &&& v5))) (fun σ9 => chk (ix x7 79) (chk (ix x7 79) (bnd (wL σ9 32 (tn x7) ((σ9.2 32 (tn x7)) ||| v5)) (fun σ12 => if l5 ≤ x6 then (bnd ((x6 - l5)) (fun v13 => bnd (x7 + 1) (fun v14 => some (.inl (v13, v14, σ12))))) else (bnd (((x6 - l5) + l1)) (fun v15 => bnd (x7 + 1) (fun v16 => some (.inl (v15, v16, σ12))))))))))))))
set_option maxRecDepth 100000 in
set_option maxHeartbeats 4000000 in
theorem tb_Si_lay_L19 {V : Ev} {Γ : Cn} {fin : Option Value × St} {l1 : Int32} {l3 : Int64} {l5 : Int32} {σ : St} {x6 : Int32} {x7 : Int32} {o : ((Int32 × Int32 × St) ⊕ St)} (X : Cx V Γ M_X7_lay) {A : ((Int32 × Int32 × St) ⊕ St) → Prop}  (hb19 : ∀ (x6 : Int32) (x7 : Int32) (σ9 : St), A (.inl (x6, x7, σ9)) → Go V Γ M_X7_lay (Zm V Γ 2 fin) 19 [(0, .ref (V.2.2.1 + 31)), (1, .int l1), (3, .long l3), (5, .int l5), (6, .int x6), (7, .int x7)] [] σ9) (hx19 : ∀ (σ9 : St), A (.inr σ9) → Go V Γ M_X7_lay (Zm V Γ 2 fin) 96 [] [] σ9) (h : Si_lay_L19 l1 l3 l5 σ x6 x7 = some o) (hA : A o) : Go V Γ M_X7_lay (Zm V Γ 2 fin) 19 [(0, .ref (V.2.2.1 + 31)), (1, .int l1), (3, .long l3), (5, .int l5), (6, .int x6), (7, .int x7)] [] σ := by
  unfold Si_lay_L19 at h
  refine g_iload (pc := 19) X 5 rfl dX7_lay_19 ?_
  refine g_aload_n (pc := 21) X 0 rfl dX7_lay_21 ?_
  refine g_getI (pc := 22) X k_fl_X7_25 s_31 rfl dX7_lay_22 ?_
  refine g_icmp_ge (pc := 25) (tgt := 96) X dX7_lay_25 rfl (fun c18 => ?_) (fun c18 => ?_)
  · replace h := if_t c18 h
    refine g_sub [] rfl ?_
    cases h
    exact hx19 _ hA
  · replace h := if_f c18 h
    refine g_lload_n (pc := 28) X 2 rfl dX7_lay_28 ?_
    refine g_iload (pc := 29) X 4 rfl dX7_lay_29 ?_
    refine g_lshl (pc := 31) X dX7_lay_31 ?_
    obtain ⟨v5, e_v5, h⟩ := bnd_e h
    refine g_nmL e_v5 ?_
    refine g_lstore (pc := 32) X [(8, .long v5), (0, .ref (V.2.2.1 + 31)), (1, .int l1), (3, .long l3), (5, .int l5), (6, .int x6), (7, .int x7)] (Nat.le_of_ble_eq_true rfl) rfl dX7_lay_32 ?_
    refine g_aload_n (pc := 34) X 1 rfl dX7_lay_34 ?_
    refine g_getR (r := 33) (pc := 35) X k_fl_X7_15 s_31 rfl dX7_lay_35 ?_
    refine g_iload (pc := 38) X 6 rfl dX7_lay_38 ?_
    refine g_dup2 (pc := 40) X rfl rfl dX7_lay_40 ?_
    obtain ⟨c6, h⟩ := chk_e h
    refine g_lald (pc := 41) X s_33 c6 dX7_lay_41 ?_
    refine g_aload_n (pc := 42) X 1 rfl dX7_lay_42 ?_
    refine g_getR (r := 32) (pc := 43) X k_fl_X7_9 s_31 rfl dX7_lay_43 ?_
    refine g_iload (pc := 46) X 6 rfl dX7_lay_46 ?_
    obtain ⟨c7, h⟩ := chk_e h
    refine g_lald (pc := 48) X s_32 c7 dX7_lay_48 ?_
    refine g_lload (pc := 49) X 0 rfl dX7_lay_49 ?_
    refine g_land (pc := 51) X dX7_lay_51 ?_
    refine g_lor (pc := 52) X dX7_lay_52 ?_
    obtain ⟨c8, h⟩ := chk_e h
    refine g_last (pc := 53) X s_33 c8 dX7_lay_53 ?_
    obtain ⟨σ9, e_σ9, h⟩ := bnd_e h
    refine g_nmS e_σ9 ?_
    refine g_aload_n (pc := 54) X 1 rfl dX7_lay_54 ?_
    refine g_getR (r := 32) (pc := 55) X k_fl_X7_9 s_31 rfl dX7_lay_55 ?_
    refine g_iload (pc := 58) X 6 rfl dX7_lay_58 ?_
    refine g_dup2 (pc := 60) X rfl rfl dX7_lay_60 ?_
    obtain ⟨c10, h⟩ := chk_e h
    refine g_lald (pc := 61) X s_32 c10 dX7_lay_61 ?_
    refine g_lload (pc := 62) X 0 rfl dX7_lay_62 ?_
    refine g_lor (pc := 64) X dX7_lay_64 ?_
    obtain ⟨c11, h⟩ := chk_e h
    refine g_last (pc := 65) X s_32 c11 dX7_lay_65 ?_
    obtain ⟨σ12, e_σ12, h⟩ := bnd_e h
    refine g_nmS e_σ12 ?_
    refine g_iload (pc := 66) X 5 rfl dX7_lay_66 ?_
    refine g_iload (pc := 68) X 4 rfl dX7_lay_68 ?_
    refine g_icmp_ge (pc := 70) (tgt := 83) X dX7_lay_70 rfl (fun c17 => ?_) (fun c17 => ?_)
    · replace h := if_t c17 h
      refine g_iload (pc := 83) X 5 rfl dX7_lay_83 ?_
      refine g_iload (pc := 85) X 4 rfl dX7_lay_85 ?_
      refine g_isub (pc := 87) X dX7_lay_87 ?_
      obtain ⟨v13, e_v13, h⟩ := bnd_e h
      refine g_nmI e_v13 ?_
      refine g_istore (pc := 88) X [(6, .int v13), (8, .long v5), (0, .ref (V.2.2.1 + 31)), (1, .int l1), (3, .long l3), (5, .int l5), (7, .int x7)] (Nat.le_of_ble_eq_true rfl) rfl dX7_lay_88 ?_
      obtain ⟨v14, e_v14, h⟩ := bnd_e h
      refine g_iinc (pc := 90) (v := v14) X [(7, .int v14), (6, .int v13), (8, .long v5), (0, .ref (V.2.2.1 + 31)), (1, .int l1), (3, .long l3), (5, .int l5)] 6 rfl (by rw [e_v14]; rfl) (Nat.le_of_ble_eq_true rfl) rfl dX7_lay_90 ?_
      refine g_goto (pc := 93) (tgt := 19) X dX7_lay_93 rfl ?_
      refine g_sub [3, 4, 5, 6, 1, 0] rfl ?_
      cases h
      exact hb19 _ _ _ hA
    · replace h := if_f c17 h
      refine g_iload (pc := 73) X 5 rfl dX7_lay_73 ?_
      refine g_iload (pc := 75) X 4 rfl dX7_lay_75 ?_
      refine g_isub (pc := 77) X dX7_lay_77 ?_
      refine g_iload_n (pc := 78) X 2 rfl dX7_lay_78 ?_
      refine g_iadd (pc := 79) X dX7_lay_79 ?_
      refine g_goto (pc := 80) (tgt := 88) X dX7_lay_80 rfl ?_
      obtain ⟨v15, e_v15, h⟩ := bnd_e h
      refine g_nmI e_v15 ?_
      refine g_istore (pc := 88) X [(6, .int v15), (8, .long v5), (0, .ref (V.2.2.1 + 31)), (1, .int l1), (3, .long l3), (5, .int l5), (7, .int x7)] (Nat.le_of_ble_eq_true rfl) rfl dX7_lay_88 ?_
      obtain ⟨v16, e_v16, h⟩ := bnd_e h
      refine g_iinc (pc := 90) (v := v16) X [(7, .int v16), (6, .int v15), (8, .long v5), (0, .ref (V.2.2.1 + 31)), (1, .int l1), (3, .long l3), (5, .int l5)] 6 rfl (by rw [e_v16]; rfl) (Nat.le_of_ble_eq_true rfl) rfl dX7_lay_90 ?_
      refine g_goto (pc := 93) (tgt := 19) X dX7_lay_93 rfl ?_
      refine g_sub [3, 4, 5, 6, 1, 0] rfl ?_
      cases h
      exact hb19 _ _ _ hA
set_option maxRecDepth 100000 in
theorem tl_Si_lay_L19 {V : Ev} {Γ : Cn} {fin : Option Value × St} {l1 : Int32} {l3 : Int64} {l5 : Int32} {x6 : Int32} {x7 : Int32} {σ9 : St} (X : Cx V Γ M_X7_lay)  {σ8 : St} {n : Nat} (h : iter (fun s : (Int32 × Int32 × St) => Si_lay_L19 l1 l3 l5 s.2.2 s.1 s.2.1) n (x6, x7, σ9) = some σ8) (hK : Go V Γ M_X7_lay (Zm V Γ 2 fin) 96 [] [] σ8) : Go V Γ M_X7_lay (Zm V Γ 2 fin) 19 [(0, .ref (V.2.2.1 + 31)), (1, .int l1), (3, .long l3), (5, .int l5), (6, .int x6), (7, .int x7)] [] σ9 := by
  refine iter_go (G := (fun s : (Int32 × Int32 × St) => Go V Γ M_X7_lay (Zm V Γ 2 fin) 19 [(0, .ref (V.2.2.1 + 31)), (1, .int l1), (3, .long l3), (5, .int l5), (6, .int s.1), (7, .int s.2.1)] [] s.2.2)) (fun s o ho hS => ?_) n (x6, x7, σ9) h
  exact tb_Si_lay_L19 X  (fun _ _ _ h9 => h9) (fun _ he => by cases he; exact hK) ho hS
noncomputable def Si_lay (σ : St) (p1 : Int32) (p2 : Int32) : Option St :=
  bd (RC_combOf p1) (fun r2 => bd (RC_leftBy 64 p1) (fun r4 => bd (iter (fun s : (Int32 × Int32 × St) => Si_lay_L19 p1 r2 r4 s.2.2 s.1 s.2.1) FUEL (p2, 0, σ)) (fun σ19 => some σ19)))
set_option maxRecDepth 100000 in
set_option maxHeartbeats 4000000 in
theorem tm_Si_lay {V : Ev} {Γ : Cn} {fin : Option Value × St} {σ : St} {p1 : Int32} {p2 : Int32} {o : St} (X : Cx V Γ M_X7_lay) {A : St → Prop}  (hr : ∀ (σ9 : St), A σ9 → (none, σ9) = fin) (h : Si_lay σ p1 p2 = some o) (hA : A o) : Go V Γ M_X7_lay (Zm V Γ 2 fin) 0 [(0, .ref (V.2.2.1 + 31)), (1, .int p1), (2, .int p2)] [] σ := by
  unfold Si_lay at h
  refine g_iload_n (pc := 0) X 1 rfl dX7_lay_0 ?_
  obtain ⟨r2, hc1, h⟩ := bd_e h
  refine g_callS (pc := 1) X k_ml_X7_61 (run_RC_combOf  hc1) rfl (room_ok (Nat.le_of_ble_eq_true rfl) (Nat.le_of_ble_eq_true rfl)) ⟨Nat.le_refl _, Nat.le_refl _⟩ _ rfl (Nat.le_of_ble_eq_true rfl) dX7_lay_1 ?_
  show Go V Γ M_X7_lay (Zm V Γ 2 fin) 4 [(0, .ref (V.2.2.1 + 31)), (1, .int p1), (2, .int p2)] [.long r2] σ
  refine g_lstore_n (pc := 4) X [(3, .long r2), (0, .ref (V.2.2.1 + 31)), (1, .int p1), (2, .int p2)] rfl (Nat.le_of_ble_eq_true rfl) rfl dX7_lay_4 ?_
  refine g_bipush (v := 64) (pc := 5) X (by decide) dX7_lay_5 ?_
  refine g_iload_n (pc := 7) X 2 rfl dX7_lay_7 ?_
  obtain ⟨r4, hc3, h⟩ := bd_e h
  refine g_callS (pc := 8) X k_ml_X7_65 (run_RC_leftBy  hc3) rfl (room_ok (Nat.le_of_ble_eq_true rfl) (Nat.le_of_ble_eq_true rfl)) ⟨Nat.le_refl _, Nat.le_refl _⟩ _ rfl (Nat.le_of_ble_eq_true rfl) dX7_lay_8 ?_
  show Go V Γ M_X7_lay (Zm V Γ 2 fin) 11 [(3, .long r2), (0, .ref (V.2.2.1 + 31)), (1, .int p1), (2, .int p2)] [.int r4] σ
  refine g_istore (pc := 11) X [(5, .int r4), (3, .long r2), (0, .ref (V.2.2.1 + 31)), (1, .int p1), (2, .int p2)] (Nat.le_of_ble_eq_true rfl) rfl dX7_lay_11 ?_
  refine g_iload_n (pc := 13) X 4 rfl dX7_lay_13 ?_
  refine g_istore (pc := 14) X [(6, .int p2), (5, .int r4), (3, .long r2), (0, .ref (V.2.2.1 + 31)), (1, .int p1), (2, .int p2)] (Nat.le_of_ble_eq_true rfl) rfl dX7_lay_14 ?_
  refine g_iconst (v := 0) (pc := 16) X rfl dX7_lay_16 ?_
  refine g_istore (pc := 17) X [(7, .int 0), (6, .int p2), (5, .int r4), (3, .long r2), (0, .ref (V.2.2.1 + 31)), (1, .int p1), (2, .int p2)] (Nat.le_of_ble_eq_true rfl) rfl dX7_lay_17 ?_
  refine g_sub [4, 5, 3, 2, 1, 0] rfl ?_
  obtain ⟨σ19, hi20, h⟩ := bd_e h
  refine tl_Si_lay_L19 X  hi20 ?_
  cases h
  exact g_vret (pc := 96) X rfl (hr _ hA) dX7_lay_96
set_option maxRecDepth 100000 in
theorem run_Si_lay {V : Ev} {σ : St} {p1 : Int32} {p2 : Int32} {o : St}   (h : Si_lay σ p1 p2 = some o) : Rs V 2 M_X7_lay [.ref (V.2.2.1 + 31), .int p1, .int p2] σ (none, o) := by
  refine Rs.of (by decide +kernel) (Nat.le_of_ble_eq_true rfl) (fun Γ X => ?_)
  exact tm_Si_lay X (A := fun o1 => o1 = o)  (fun _ e => by rw [e]) h rfl
theorem dX7_fill_0 : decode cX7_fill 0 = .ok (.aload_n 1, 1) := by decide +kernel
theorem dX7_fill_1 : decode cX7_fill 1 = .ok (.iload_n 2, 1) := by decide +kernel
theorem dX7_fill_2 : decode cX7_fill 2 = .ok (.invokevirtual 28, 3) := by decide +kernel
theorem dX7_fill_5 : decode cX7_fill 5 = .ok (.istore_n 3, 1) := by decide +kernel
theorem dX7_fill_6 : decode cX7_fill 6 = .ok (.iload_n 3, 1) := by decide +kernel
theorem dX7_fill_7 : decode cX7_fill 7 = .ok (.ifCond .ne 5, 3) := by decide +kernel
theorem dX7_fill_10 : decode cX7_fill 10 = .ok (.iconst 0, 1) := by decide +kernel
theorem dX7_fill_11 : decode cX7_fill 11 = .ok (.ireturn, 1) := by decide +kernel
theorem dX7_fill_12 : decode cX7_fill 12 = .ok (.aload_n 0, 1) := by decide +kernel
theorem dX7_fill_13 : decode cX7_fill 13 = .ok (.iload_n 3, 1) := by decide +kernel
theorem dX7_fill_14 : decode cX7_fill 14 = .ok (.putfield 21, 3) := by decide +kernel
theorem dX7_fill_17 : decode cX7_fill 17 = .ok (.aload_n 0, 1) := by decide +kernel
theorem dX7_fill_18 : decode cX7_fill 18 = .ok (.aload_n 0, 1) := by decide +kernel
theorem dX7_fill_19 : decode cX7_fill 19 = .ok (.getfield 21, 3) := by decide +kernel
theorem dX7_fill_22 : decode cX7_fill 22 = .ok (.invokestatic 34, 3) := by decide +kernel
theorem dX7_fill_25 : decode cX7_fill 25 = .ok (.putfield 25, 3) := by decide +kernel
theorem dX7_fill_28 : decode cX7_fill 28 = .ok (.aload_n 0, 1) := by decide +kernel
theorem dX7_fill_29 : decode cX7_fill 29 = .ok (.getfield 9, 3) := by decide +kernel
theorem dX7_fill_32 : decode cX7_fill 32 = .ok (.lconst 0, 1) := by decide +kernel
theorem dX7_fill_33 : decode cX7_fill 33 = .ok (.invokestatic 37, 3) := by decide +kernel
theorem dX7_fill_36 : decode cX7_fill 36 = .ok (.aload_n 0, 1) := by decide +kernel
theorem dX7_fill_37 : decode cX7_fill 37 = .ok (.getfield 15, 3) := by decide +kernel
theorem dX7_fill_40 : decode cX7_fill 40 = .ok (.lconst 0, 1) := by decide +kernel
theorem dX7_fill_41 : decode cX7_fill 41 = .ok (.invokestatic 37, 3) := by decide +kernel
theorem dX7_fill_44 : decode cX7_fill 44 = .ok (.iconst 0, 1) := by decide +kernel
theorem dX7_fill_45 : decode cX7_fill 45 = .ok (.istore 4, 2) := by decide +kernel
theorem dX7_fill_47 : decode cX7_fill 47 = .ok (.iload 4, 2) := by decide +kernel
theorem dX7_fill_49 : decode cX7_fill 49 = .ok (.aload_n 1, 1) := by decide +kernel
theorem dX7_fill_50 : decode cX7_fill 50 = .ok (.getfield 43, 3) := by decide +kernel
theorem dX7_fill_53 : decode cX7_fill 53 = .ok (.if_icmp .ge 36, 3) := by decide +kernel
theorem dX7_fill_56 : decode cX7_fill 56 = .ok (.iload_n 2, 1) := by decide +kernel
theorem dX7_fill_57 : decode cX7_fill 57 = .ok (.iload 4, 2) := by decide +kernel
theorem dX7_fill_59 : decode cX7_fill 59 = .ok (.invokestatic 46, 3) := by decide +kernel
theorem dX7_fill_62 : decode cX7_fill 62 = .ok (.ifCond .eq 21, 3) := by decide +kernel
theorem dX7_fill_65 : decode cX7_fill 65 = .ok (.aload_n 0, 1) := by decide +kernel
theorem dX7_fill_66 : decode cX7_fill 66 = .ok (.aload_n 1, 1) := by decide +kernel
theorem dX7_fill_67 : decode cX7_fill 67 = .ok (.getfield 50, 3) := by decide +kernel
theorem dX7_fill_70 : decode cX7_fill 70 = .ok (.iload 4, 2) := by decide +kernel
theorem dX7_fill_72 : decode cX7_fill 72 = .ok (.iaload, 1) := by decide +kernel
theorem dX7_fill_73 : decode cX7_fill 73 = .ok (.aload_n 1, 1) := by decide +kernel
theorem dX7_fill_74 : decode cX7_fill 74 = .ok (.getfield 54, 3) := by decide +kernel
theorem dX7_fill_77 : decode cX7_fill 77 = .ok (.iload 4, 2) := by decide +kernel
theorem dX7_fill_79 : decode cX7_fill 79 = .ok (.iaload, 1) := by decide +kernel
theorem dX7_fill_80 : decode cX7_fill 80 = .ok (.invokevirtual 57, 3) := by decide +kernel
theorem dX7_fill_83 : decode cX7_fill 83 = .ok (.iinc 4 1, 3) := by decide +kernel
theorem dX7_fill_86 : decode cX7_fill 86 = .ok (.goto (-39), 3) := by decide +kernel
theorem dX7_fill_89 : decode cX7_fill 89 = .ok (.iconst 1, 1) := by decide +kernel
theorem dX7_fill_90 : decode cX7_fill 90 = .ok (.ireturn, 1) := by decide +kernel
noncomputable def Si_fill_L47 (l1 : Nat) (l2 : Int32) (σ : St) (x4 : Int32) : Option ((Int32 × St) ⊕ St) :=
  if (σ.1 l1 3) ≤ x4 then (some (.inr σ)) else (bd (RC_isIn l2 x4) (fun r12 => if r12 = 0 then (bnd (x4 + 1) (fun v13 => some (.inl (v13, σ)))) else (chk (ix x4 12) (chk (ix x4 12) (bd (Si_lay σ (σ.1 (l1 + 2) (tn x4)) (σ.1 (l1 + 1) (tn x4))) (fun σ17 => bnd (x4 + 1) (fun v18 => some (.inl (v18, σ17)))))))))
set_option maxRecDepth 100000 in
set_option maxHeartbeats 4000000 in
theorem tb_Si_fill_L47 {V : Ev} {Γ : Cn} {fin : Option Value × St} {l1 : Nat} {l2 : Int32} {σ : St} {x4 : Int32} {o : ((Int32 × St) ⊕ St)} (X : Cx V Γ M_X7_fill) {A : ((Int32 × St) ⊕ St) → Prop} (k_l1 : okCl l1) (hb47 : ∀ (x4 : Int32) (σ9 : St), A (.inl (x4, σ9)) → Go V Γ M_X7_fill (Zm V Γ 3 fin) 47 [(0, .ref (V.2.2.1 + 31)), (1, .ref (V.2.2.1 + l1)), (2, .int l2), (4, .int x4)] [] σ9) (hx47 : ∀ (σ9 : St), A (.inr σ9) → Go V Γ M_X7_fill (Zm V Γ 3 fin) 89 [] [] σ9) (h : Si_fill_L47 l1 l2 σ x4 = some o) (hA : A o) : Go V Γ M_X7_fill (Zm V Γ 3 fin) 47 [(0, .ref (V.2.2.1 + 31)), (1, .ref (V.2.2.1 + l1)), (2, .int l2), (4, .int x4)] [] σ := by
  unfold Si_fill_L47 at h
  refine g_iload (pc := 47) X 3 rfl dX7_fill_47 ?_
  refine g_aload_n (pc := 49) X 1 rfl dX7_fill_49 ?_
  refine g_getI (pc := 50) X k_fl_X7_43 (sCl_0 k_l1) rfl dX7_fill_50 ?_
  refine g_icmp_ge (pc := 53) (tgt := 89) X dX7_fill_53 rfl (fun c20 => ?_) (fun c20 => ?_)
  · replace h := if_t c20 h
    refine g_sub [] rfl ?_
    cases h
    exact hx47 _ hA
  · replace h := if_f c20 h
    refine g_iload_n (pc := 56) X 2 rfl dX7_fill_56 ?_
    refine g_iload (pc := 57) X 3 rfl dX7_fill_57 ?_
    obtain ⟨r12, hc11, h⟩ := bd_e h
    refine g_callS (pc := 59) X k_ml_X7_46 (run_RC_isIn  hc11) rfl (room_ok (Nat.le_of_ble_eq_true rfl) (Nat.le_of_ble_eq_true rfl)) ⟨Nat.le_refl _, Nat.le_refl _⟩ _ rfl (Nat.le_of_ble_eq_true rfl) dX7_fill_59 ?_
    show Go V Γ M_X7_fill (Zm V Γ 3 fin) 62 [(0, .ref (V.2.2.1 + 31)), (1, .ref (V.2.2.1 + l1)), (2, .int l2), (4, .int x4)] [.int r12] σ
    refine g_if_eq (pc := 62) (tgt := 83) X dX7_fill_62 rfl (fun c19 => ?_) (fun c19 => ?_)
    · replace h := if_t c19 h
      obtain ⟨v13, e_v13, h⟩ := bnd_e h
      refine g_iinc (pc := 83) (v := v13) X [(4, .int v13), (0, .ref (V.2.2.1 + 31)), (1, .ref (V.2.2.1 + l1)), (2, .int l2)] 3 rfl (by rw [e_v13]; rfl) (Nat.le_of_ble_eq_true rfl) rfl dX7_fill_83 ?_
      refine g_goto (pc := 86) (tgt := 47) X dX7_fill_86 rfl ?_
      refine g_sub [1, 2, 3, 0] rfl ?_
      cases h
      exact hb47 _ _ hA
    · replace h := if_f c19 h
      refine g_aload_n (pc := 65) X 0 rfl dX7_fill_65 ?_
      refine g_aload_n (pc := 66) X 1 rfl dX7_fill_66 ?_
      refine g_getR (r := (l1 + 2)) (pc := 67) X k_fl_X7_50 (sCl_0 k_l1) rfl dX7_fill_67 ?_
      refine g_iload (pc := 70) X 3 rfl dX7_fill_70 ?_
      obtain ⟨c14, h⟩ := chk_e h
      refine g_iald (pc := 72) X (sCl_2 k_l1) c14 dX7_fill_72 ?_
      refine g_aload_n (pc := 73) X 1 rfl dX7_fill_73 ?_
      refine g_getR (r := (l1 + 1)) (pc := 74) X k_fl_X7_54 (sCl_0 k_l1) rfl dX7_fill_74 ?_
      refine g_iload (pc := 77) X 3 rfl dX7_fill_77 ?_
      obtain ⟨c15, h⟩ := chk_e h
      refine g_iald (pc := 79) X (sCl_1 k_l1) c15 dX7_fill_79 ?_
      obtain ⟨σ17, hc16, h⟩ := bd_e h
      refine g_callV (pc := 80) X k_ml_X7_57 (run_Si_lay  hc16) s_31 rfl (room_ok (Nat.le_of_ble_eq_true rfl) (Nat.le_of_ble_eq_true rfl)) ⟨Nat.le_refl _, Nat.le_refl _⟩ _ rfl (Nat.le_of_ble_eq_true rfl) dX7_fill_80 ?_
      show Go V Γ M_X7_fill (Zm V Γ 3 fin) 83 [(0, .ref (V.2.2.1 + 31)), (1, .ref (V.2.2.1 + l1)), (2, .int l2), (4, .int x4)] [] σ17
      obtain ⟨v18, e_v18, h⟩ := bnd_e h
      refine g_iinc (pc := 83) (v := v18) X [(4, .int v18), (0, .ref (V.2.2.1 + 31)), (1, .ref (V.2.2.1 + l1)), (2, .int l2)] 3 rfl (by rw [e_v18]; rfl) (Nat.le_of_ble_eq_true rfl) rfl dX7_fill_83 ?_
      refine g_goto (pc := 86) (tgt := 47) X dX7_fill_86 rfl ?_
      refine g_sub [1, 2, 3, 0] rfl ?_
      cases h
      exact hb47 _ _ hA
set_option maxRecDepth 100000 in
theorem tl_Si_fill_L47 {V : Ev} {Γ : Cn} {fin : Option Value × St} {l1 : Nat} {l2 : Int32} {x4 : Int32} {σ9 : St} (X : Cx V Γ M_X7_fill) (k_l1 : okCl l1) {σ8 : St} {n : Nat} (h : iter (fun s : (Int32 × St) => Si_fill_L47 l1 l2 s.2 s.1) n (x4, σ9) = some σ8) (hK : Go V Γ M_X7_fill (Zm V Γ 3 fin) 89 [] [] σ8) : Go V Γ M_X7_fill (Zm V Γ 3 fin) 47 [(0, .ref (V.2.2.1 + 31)), (1, .ref (V.2.2.1 + l1)), (2, .int l2), (4, .int x4)] [] σ9 := by
  refine iter_go (G := (fun s : (Int32 × St) => Go V Γ M_X7_fill (Zm V Γ 3 fin) 47 [(0, .ref (V.2.2.1 + 31)), (1, .ref (V.2.2.1 + l1)), (2, .int l2), (4, .int s.1)] [] s.2)) (fun s o ho hS => ?_) n (x4, σ9) h
  exact tb_Si_fill_L47 X k_l1 (fun _ _ h9 => h9) (fun _ he => by cases he; exact hK) ho hS
noncomputable def Si_fill (σ : St) (a1 : Nat) (p2 : Int32) : Option (Int32 × St) :=
  bd (Cl_spanOf σ a1 p2) (fun r2 => if r2 = 0 then (some (0, σ)) else (bnd (wI σ 31 3 r2) (fun σ3 => bd (RC_wordsFor (σ3.1 31 3)) (fun r5 => bnd (wI σ3 31 4 r5) (fun σ6 => bd (JA_fill_d0a16 σ6 32 79 0) (fun σ8 => bd (JA_fill_d0a16 σ8 33 79 0) (fun σ10 => bd (iter (fun s : (Int32 × St) => Si_fill_L47 a1 p2 s.2 s.1) FUEL (0, σ10)) (fun σ21 => some (1, σ21)))))))))
set_option maxRecDepth 100000 in
set_option maxHeartbeats 4000000 in
theorem tm_Si_fill {V : Ev} {Γ : Cn} {fin : Option Value × St} {σ : St} {a1 : Nat} {p2 : Int32} {o : (Int32 × St)} (X : Cx V Γ M_X7_fill) {A : (Int32 × St) → Prop} (k1 : okCl a1) (hr : ∀ (r : Int32) (σ9 : St), A (r, σ9) → (some (.int r), σ9) = fin) (h : Si_fill σ a1 p2 = some o) (hA : A o) : Go V Γ M_X7_fill (Zm V Γ 3 fin) 0 [(0, .ref (V.2.2.1 + 31)), (1, .ref (V.2.2.1 + a1)), (2, .int p2)] [] σ := by
  unfold Si_fill at h
  refine g_aload_n (pc := 0) X 1 rfl dX7_fill_0 ?_
  refine g_iload_n (pc := 1) X 2 rfl dX7_fill_1 ?_
  obtain ⟨r2, hc1, h⟩ := bd_e h
  refine g_callV (pc := 2) X k_ml_X7_28 (run_Cl_spanOf k1 hc1) (sCl_0 k1) rfl (room_ok (Nat.le_of_ble_eq_true rfl) (Nat.le_of_ble_eq_true rfl)) ⟨Nat.le_refl _, Nat.le_refl _⟩ _ rfl (Nat.le_of_ble_eq_true rfl) dX7_fill_2 ?_
  show Go V Γ M_X7_fill (Zm V Γ 3 fin) 5 [(0, .ref (V.2.2.1 + 31)), (1, .ref (V.2.2.1 + a1)), (2, .int p2)] [.int r2] σ
  refine g_istore_n (pc := 5) X [(3, .int r2), (0, .ref (V.2.2.1 + 31)), (1, .ref (V.2.2.1 + a1)), (2, .int p2)] rfl (Nat.le_of_ble_eq_true rfl) rfl dX7_fill_5 ?_
  refine g_iload_n (pc := 6) X 0 rfl dX7_fill_6 ?_
  refine g_if_ne (pc := 7) (tgt := 12) X dX7_fill_7 rfl (fun c23 => ?_) (fun c23 => ?_)
  · replace h := if_f c23 h
    refine g_aload_n (pc := 12) X 1 rfl dX7_fill_12 ?_
    refine g_iload_n (pc := 13) X 0 rfl dX7_fill_13 ?_
    refine g_putI (pc := 14) X k_fl_X7_21 s_31 rfl rfl rfl dX7_fill_14 ?_
    obtain ⟨σ3, e_σ3, h⟩ := bnd_e h
    refine g_nmS e_σ3 ?_
    refine g_aload_n (pc := 17) X 1 rfl dX7_fill_17 ?_
    refine g_aload_n (pc := 18) X 1 rfl dX7_fill_18 ?_
    refine g_getI (pc := 19) X k_fl_X7_21 s_31 rfl dX7_fill_19 ?_
    obtain ⟨r5, hc4, h⟩ := bd_e h
    refine g_callS (pc := 22) X k_ml_X7_34 (run_RC_wordsFor  hc4) rfl (room_ok (Nat.le_of_ble_eq_true rfl) (Nat.le_of_ble_eq_true rfl)) ⟨Nat.le_refl _, Nat.le_refl _⟩ _ rfl (Nat.le_of_ble_eq_true rfl) dX7_fill_22 ?_
    show Go V Γ M_X7_fill (Zm V Γ 3 fin) 25 [(3, .int r2), (0, .ref (V.2.2.1 + 31)), (1, .ref (V.2.2.1 + a1)), (2, .int p2)] [.int r5, .ref (V.2.2.1 + 31)] σ3
    refine g_putI (pc := 25) X k_fl_X7_25 s_31 rfl rfl rfl dX7_fill_25 ?_
    obtain ⟨σ6, e_σ6, h⟩ := bnd_e h
    refine g_nmS e_σ6 ?_
    refine g_aload_n (pc := 28) X 1 rfl dX7_fill_28 ?_
    refine g_getR (r := 32) (pc := 29) X k_fl_X7_9 s_31 rfl dX7_fill_29 ?_
    refine g_lconst (v := 0) (pc := 32) X rfl dX7_fill_32 ?_
    obtain ⟨σ8, hc7, h⟩ := bd_e h
    refine g_callS (pc := 33) X k_ml_X7_37 (run_JA_fill_d0a16 s_32 hc7) rfl (room_ok (Nat.le_of_ble_eq_true rfl) (Nat.le_of_ble_eq_true rfl)) ⟨Nat.le_refl _, Nat.le_refl _⟩ _ rfl (Nat.le_of_ble_eq_true rfl) dX7_fill_33 ?_
    show Go V Γ M_X7_fill (Zm V Γ 3 fin) 36 [(3, .int r2), (0, .ref (V.2.2.1 + 31)), (1, .ref (V.2.2.1 + a1)), (2, .int p2)] [] σ8
    refine g_aload_n (pc := 36) X 1 rfl dX7_fill_36 ?_
    refine g_getR (r := 33) (pc := 37) X k_fl_X7_15 s_31 rfl dX7_fill_37 ?_
    refine g_lconst (v := 0) (pc := 40) X rfl dX7_fill_40 ?_
    obtain ⟨σ10, hc9, h⟩ := bd_e h
    refine g_callS (pc := 41) X k_ml_X7_37 (run_JA_fill_d0a16 s_33 hc9) rfl (room_ok (Nat.le_of_ble_eq_true rfl) (Nat.le_of_ble_eq_true rfl)) ⟨Nat.le_refl _, Nat.le_refl _⟩ _ rfl (Nat.le_of_ble_eq_true rfl) dX7_fill_41 ?_
    show Go V Γ M_X7_fill (Zm V Γ 3 fin) 44 [(3, .int r2), (0, .ref (V.2.2.1 + 31)), (1, .ref (V.2.2.1 + a1)), (2, .int p2)] [] σ10
    refine g_iconst (v := 0) (pc := 44) X rfl dX7_fill_44 ?_
    refine g_istore (pc := 45) X [(4, .int 0), (3, .int r2), (0, .ref (V.2.2.1 + 31)), (1, .ref (V.2.2.1 + a1)), (2, .int p2)] (Nat.le_of_ble_eq_true rfl) rfl dX7_fill_45 ?_
    refine g_sub [2, 3, 4, 0] rfl ?_
    obtain ⟨σ21, hi22, h⟩ := bd_e h
    refine tl_Si_fill_L47 X k1 hi22 ?_
    refine g_iconst (v := 1) (pc := 89) X rfl dX7_fill_89 ?_
    cases h
    exact g_iret (pc := 90) X rfl nz1.1 (hr _ _ hA) dX7_fill_90
  · replace h := if_t c23 h
    refine g_iconst (v := 0) (pc := 10) X rfl dX7_fill_10 ?_
    cases h
    exact g_iret (pc := 11) X rfl nz0.1 (hr _ _ hA) dX7_fill_11
set_option maxRecDepth 100000 in
theorem run_Si_fill {V : Ev} {σ : St} {a1 : Nat} {p2 : Int32} {o : (Int32 × St)} (k1 : okCl a1)  (h : Si_fill σ a1 p2 = some o) : Rs V 3 M_X7_fill [.ref (V.2.2.1 + 31), .ref (V.2.2.1 + a1), .int p2] σ (some (.int o.1), o.2) := by
  refine Rs.of (by decide +kernel) (Nat.le_of_ble_eq_true rfl) (fun Γ X => ?_)
  exact tm_Si_fill X (A := fun o1 => o1 = o) k1 (fun _ _ e => by rw [← e]) h rfl
theorem dX7_openIn_0 : decode cX7_openIn 0 = .ok (.aload_n 0, 1) := by decide +kernel
theorem dX7_openIn_1 : decode cX7_openIn 1 = .ok (.getfield 9, 3) := by decide +kernel
theorem dX7_openIn_4 : decode cX7_openIn 4 = .ok (.iload_n 1, 1) := by decide +kernel
theorem dX7_openIn_5 : decode cX7_openIn 5 = .ok (.laload, 1) := by decide +kernel
theorem dX7_openIn_6 : decode cX7_openIn 6 = .ok (.ldc2_w 69, 3) := by decide +kernel
theorem dX7_openIn_9 : decode cX7_openIn 9 = .ok (.lxor, 1) := by decide +kernel
theorem dX7_openIn_10 : decode cX7_openIn 10 = .ok (.aload_n 0, 1) := by decide +kernel
theorem dX7_openIn_11 : decode cX7_openIn 11 = .ok (.getfield 21, 3) := by decide +kernel
theorem dX7_openIn_14 : decode cX7_openIn 14 = .ok (.iload_n 1, 1) := by decide +kernel
theorem dX7_openIn_15 : decode cX7_openIn 15 = .ok (.invokestatic 71, 3) := by decide +kernel
theorem dX7_openIn_18 : decode cX7_openIn 18 = .ok (.land, 1) := by decide +kernel
theorem dX7_openIn_19 : decode cX7_openIn 19 = .ok (.lreturn, 1) := by decide +kernel
noncomputable def Si_openIn (σ : St) (p1 : Int32) : Option Int64 :=
  chk (ix p1 79) (bd (RC_insideOf (σ.1 31 3) p1) (fun r3 => some (((σ.2 32 (tn p1)) ^^^ (-1)) &&& r3)))
set_option maxRecDepth 100000 in
set_option maxHeartbeats 4000000 in
theorem tm_Si_openIn {V : Ev} {Γ : Cn} {fin : Option Value × St} {σ : St} {p1 : Int32} {o : Int64} (X : Cx V Γ M_X7_openIn) {A : Int64 → Prop}  (hr : ∀ (r : Int64), A r → (some (.long r), σ) = fin) (h : Si_openIn σ p1 = some o) (hA : A o) : Go V Γ M_X7_openIn (Zm V Γ 2 fin) 0 [(0, .ref (V.2.2.1 + 31)), (1, .int p1)] [] σ := by
  unfold Si_openIn at h
  refine g_aload_n (pc := 0) X 0 rfl dX7_openIn_0 ?_
  refine g_getR (r := 32) (pc := 1) X k_fl_X7_9 s_31 rfl dX7_openIn_1 ?_
  refine g_iload_n (pc := 4) X 1 rfl dX7_openIn_4 ?_
  obtain ⟨c1, h⟩ := chk_e h
  refine g_lald (pc := 5) X s_32 c1 dX7_openIn_5 ?_
  refine g_ldc2 (v := (-1)) (pc := 6) X k_constl_X7_69 dX7_openIn_6 ?_
  refine g_lxor (pc := 9) X dX7_openIn_9 ?_
  refine g_aload_n (pc := 10) X 0 rfl dX7_openIn_10 ?_
  refine g_getI (pc := 11) X k_fl_X7_21 s_31 rfl dX7_openIn_11 ?_
  refine g_iload_n (pc := 14) X 1 rfl dX7_openIn_14 ?_
  obtain ⟨r3, hc2, h⟩ := bd_e h
  refine g_callS (pc := 15) X k_ml_X7_71 (run_RC_insideOf  hc2) rfl (room_ok (Nat.le_of_ble_eq_true rfl) (Nat.le_of_ble_eq_true rfl)) ⟨Nat.le_refl _, Nat.le_refl _⟩ _ rfl (Nat.le_of_ble_eq_true rfl) dX7_openIn_15 ?_
  show Go V Γ M_X7_openIn (Zm V Γ 2 fin) 18 [(0, .ref (V.2.2.1 + 31)), (1, .int p1)] [.long r3, .long ((σ.2 32 (tn p1)) ^^^ (-1))] σ
  refine g_land (pc := 18) X dX7_openIn_18 ?_
  cases h
  exact g_lret (pc := 19) X rfl (hr _ hA) dX7_openIn_19
set_option maxRecDepth 100000 in
theorem run_Si_openIn {V : Ev} {σ : St} {p1 : Int32} {o : Int64}   (h : Si_openIn σ p1 = some o) : Rs V 2 M_X7_openIn [.ref (V.2.2.1 + 31), .int p1] σ (some (.long o), σ) := by
  refine Rs.of (by decide +kernel) (Nat.le_of_ble_eq_true rfl) (fun Γ X => ?_)
  exact tm_Si_openIn X (A := fun o1 => o1 = o)  (fun _ e => by rw [e]) h rfl
theorem dJ13_bitCount_95d88_0 : decode cJ13_bitCount_95d88 0 = .ok (.lload_n 0, 1) := by decide +kernel
theorem dJ13_bitCount_95d88_1 : decode cJ13_bitCount_95d88 1 = .ok (.lload_n 0, 1) := by decide +kernel
theorem dJ13_bitCount_95d88_2 : decode cJ13_bitCount_95d88 2 = .ok (.iconst 1, 1) := by decide +kernel
theorem dJ13_bitCount_95d88_3 : decode cJ13_bitCount_95d88 3 = .ok (.lushr, 1) := by decide +kernel
theorem dJ13_bitCount_95d88_4 : decode cJ13_bitCount_95d88 4 = .ok (.ldc2_w 314, 3) := by decide +kernel
theorem dJ13_bitCount_95d88_7 : decode cJ13_bitCount_95d88 7 = .ok (.land, 1) := by decide +kernel
theorem dJ13_bitCount_95d88_8 : decode cJ13_bitCount_95d88 8 = .ok (.lsub, 1) := by decide +kernel
theorem dJ13_bitCount_95d88_9 : decode cJ13_bitCount_95d88 9 = .ok (.lstore_n 0, 1) := by decide +kernel
theorem dJ13_bitCount_95d88_10 : decode cJ13_bitCount_95d88 10 = .ok (.lload_n 0, 1) := by decide +kernel
theorem dJ13_bitCount_95d88_11 : decode cJ13_bitCount_95d88 11 = .ok (.ldc2_w 316, 3) := by decide +kernel
theorem dJ13_bitCount_95d88_14 : decode cJ13_bitCount_95d88 14 = .ok (.land, 1) := by decide +kernel
theorem dJ13_bitCount_95d88_15 : decode cJ13_bitCount_95d88 15 = .ok (.lload_n 0, 1) := by decide +kernel
theorem dJ13_bitCount_95d88_16 : decode cJ13_bitCount_95d88 16 = .ok (.iconst 2, 1) := by decide +kernel
theorem dJ13_bitCount_95d88_17 : decode cJ13_bitCount_95d88 17 = .ok (.lushr, 1) := by decide +kernel
theorem dJ13_bitCount_95d88_18 : decode cJ13_bitCount_95d88 18 = .ok (.ldc2_w 316, 3) := by decide +kernel
theorem dJ13_bitCount_95d88_21 : decode cJ13_bitCount_95d88 21 = .ok (.land, 1) := by decide +kernel
theorem dJ13_bitCount_95d88_22 : decode cJ13_bitCount_95d88 22 = .ok (.ladd, 1) := by decide +kernel
theorem dJ13_bitCount_95d88_23 : decode cJ13_bitCount_95d88 23 = .ok (.lstore_n 0, 1) := by decide +kernel
theorem dJ13_bitCount_95d88_24 : decode cJ13_bitCount_95d88 24 = .ok (.lload_n 0, 1) := by decide +kernel
theorem dJ13_bitCount_95d88_25 : decode cJ13_bitCount_95d88 25 = .ok (.lload_n 0, 1) := by decide +kernel
theorem dJ13_bitCount_95d88_26 : decode cJ13_bitCount_95d88 26 = .ok (.iconst 4, 1) := by decide +kernel
theorem dJ13_bitCount_95d88_27 : decode cJ13_bitCount_95d88 27 = .ok (.lushr, 1) := by decide +kernel
theorem dJ13_bitCount_95d88_28 : decode cJ13_bitCount_95d88 28 = .ok (.ladd, 1) := by decide +kernel
theorem dJ13_bitCount_95d88_29 : decode cJ13_bitCount_95d88 29 = .ok (.ldc2_w 318, 3) := by decide +kernel
theorem dJ13_bitCount_95d88_32 : decode cJ13_bitCount_95d88 32 = .ok (.land, 1) := by decide +kernel
theorem dJ13_bitCount_95d88_33 : decode cJ13_bitCount_95d88 33 = .ok (.lstore_n 0, 1) := by decide +kernel
theorem dJ13_bitCount_95d88_34 : decode cJ13_bitCount_95d88 34 = .ok (.lload_n 0, 1) := by decide +kernel
theorem dJ13_bitCount_95d88_35 : decode cJ13_bitCount_95d88 35 = .ok (.lload_n 0, 1) := by decide +kernel
theorem dJ13_bitCount_95d88_36 : decode cJ13_bitCount_95d88 36 = .ok (.bipush 8, 2) := by decide +kernel
theorem dJ13_bitCount_95d88_38 : decode cJ13_bitCount_95d88 38 = .ok (.lushr, 1) := by decide +kernel
theorem dJ13_bitCount_95d88_39 : decode cJ13_bitCount_95d88 39 = .ok (.ladd, 1) := by decide +kernel
theorem dJ13_bitCount_95d88_40 : decode cJ13_bitCount_95d88 40 = .ok (.lstore_n 0, 1) := by decide +kernel
theorem dJ13_bitCount_95d88_41 : decode cJ13_bitCount_95d88 41 = .ok (.lload_n 0, 1) := by decide +kernel
theorem dJ13_bitCount_95d88_42 : decode cJ13_bitCount_95d88 42 = .ok (.lload_n 0, 1) := by decide +kernel
theorem dJ13_bitCount_95d88_43 : decode cJ13_bitCount_95d88 43 = .ok (.bipush 16, 2) := by decide +kernel
theorem dJ13_bitCount_95d88_45 : decode cJ13_bitCount_95d88 45 = .ok (.lushr, 1) := by decide +kernel
theorem dJ13_bitCount_95d88_46 : decode cJ13_bitCount_95d88 46 = .ok (.ladd, 1) := by decide +kernel
theorem dJ13_bitCount_95d88_47 : decode cJ13_bitCount_95d88 47 = .ok (.lstore_n 0, 1) := by decide +kernel
theorem dJ13_bitCount_95d88_48 : decode cJ13_bitCount_95d88 48 = .ok (.lload_n 0, 1) := by decide +kernel
theorem dJ13_bitCount_95d88_49 : decode cJ13_bitCount_95d88 49 = .ok (.lload_n 0, 1) := by decide +kernel
theorem dJ13_bitCount_95d88_50 : decode cJ13_bitCount_95d88 50 = .ok (.bipush 32, 2) := by decide +kernel
theorem dJ13_bitCount_95d88_52 : decode cJ13_bitCount_95d88 52 = .ok (.lushr, 1) := by decide +kernel
theorem dJ13_bitCount_95d88_53 : decode cJ13_bitCount_95d88 53 = .ok (.ladd, 1) := by decide +kernel
theorem dJ13_bitCount_95d88_54 : decode cJ13_bitCount_95d88 54 = .ok (.lstore_n 0, 1) := by decide +kernel
theorem dJ13_bitCount_95d88_55 : decode cJ13_bitCount_95d88 55 = .ok (.lload_n 0, 1) := by decide +kernel
theorem dJ13_bitCount_95d88_56 : decode cJ13_bitCount_95d88 56 = .ok (.l2i, 1) := by decide +kernel
theorem dJ13_bitCount_95d88_57 : decode cJ13_bitCount_95d88 57 = .ok (.bipush 127, 2) := by decide +kernel
theorem dJ13_bitCount_95d88_59 : decode cJ13_bitCount_95d88 59 = .ok (.iand, 1) := by decide +kernel
theorem dJ13_bitCount_95d88_60 : decode cJ13_bitCount_95d88 60 = .ok (.ireturn, 1) := by decide +kernel
noncomputable def JL_bitCount_95d88 (p0 : Int64) : Option Int32 :=
  bnd ((p0 - (((p0.toUInt64 >>> ((1 : Int32).toInt64.toUInt64 &&& Int64.toUInt64 63)).toInt64) &&& 6148914691236517205))) (fun v1 => bnd (((v1 &&& 3689348814741910323) + (((v1.toUInt64 >>> ((2 : Int32).toInt64.toUInt64 &&& Int64.toUInt64 63)).toInt64) &&& 3689348814741910323))) (fun v2 => bnd (((v2 + ((v2.toUInt64 >>> ((4 : Int32).toInt64.toUInt64 &&& Int64.toUInt64 63)).toInt64)) &&& 1085102592571150095)) (fun v3 => bnd ((v3 + ((v3.toUInt64 >>> ((8 : Int32).toInt64.toUInt64 &&& Int64.toUInt64 63)).toInt64))) (fun v4 => bnd ((v4 + ((v4.toUInt64 >>> ((16 : Int32).toInt64.toUInt64 &&& Int64.toUInt64 63)).toInt64))) (fun v5 => bnd ((v5 + ((v5.toUInt64 >>> ((32 : Int32).toInt64.toUInt64 &&& Int64.toUInt64 63)).toInt64))) (fun v6 => some (v6.toInt32 &&& 127)))))))
set_option maxRecDepth 100000 in
set_option maxHeartbeats 4000000 in
theorem tm_JL_bitCount_95d88 {V : Ev} {Γ : Cn} {fin : Option Value × St} {σ : St} {p0 : Int64} {o : Int32} (X : Cx V Γ M_J13_bitCount_95d88) {A : Int32 → Prop}  (hr : ∀ (r : Int32), A r → (some (.int r), σ) = fin) (h : JL_bitCount_95d88 p0 = some o) (hA : A o) : Go V Γ M_J13_bitCount_95d88 (Zm V Γ 0 fin) 0 [(0, .long p0)] [] σ := by
  unfold JL_bitCount_95d88 at h
  refine g_lload_n (pc := 0) X 0 rfl dJ13_bitCount_95d88_0 ?_
  refine g_lload_n (pc := 1) X 0 rfl dJ13_bitCount_95d88_1 ?_
  refine g_iconst (v := 1) (pc := 2) X rfl dJ13_bitCount_95d88_2 ?_
  refine g_lushr (pc := 3) X dJ13_bitCount_95d88_3 ?_
  refine g_ldc2 (v := 6148914691236517205) (pc := 4) X k_constl_J13_314 dJ13_bitCount_95d88_4 ?_
  refine g_land (pc := 7) X dJ13_bitCount_95d88_7 ?_
  refine g_lsub (pc := 8) X dJ13_bitCount_95d88_8 ?_
  obtain ⟨v1, e_v1, h⟩ := bnd_e h
  refine g_nmL e_v1 ?_
  refine g_lstore_n (pc := 9) X [(0, .long v1)] rfl (Nat.le_of_ble_eq_true rfl) rfl dJ13_bitCount_95d88_9 ?_
  refine g_lload_n (pc := 10) X 0 rfl dJ13_bitCount_95d88_10 ?_
  refine g_ldc2 (v := 3689348814741910323) (pc := 11) X k_constl_J13_316 dJ13_bitCount_95d88_11 ?_
  refine g_land (pc := 14) X dJ13_bitCount_95d88_14 ?_
  refine g_lload_n (pc := 15) X 0 rfl dJ13_bitCount_95d88_15 ?_
  refine g_iconst (v := 2) (pc := 16) X rfl dJ13_bitCount_95d88_16 ?_
  refine g_lushr (pc := 17) X dJ13_bitCount_95d88_17 ?_
  refine g_ldc2 (v := 3689348814741910323) (pc := 18) X k_constl_J13_316 dJ13_bitCount_95d88_18 ?_
  refine g_land (pc := 21) X dJ13_bitCount_95d88_21 ?_
  refine g_ladd (pc := 22) X dJ13_bitCount_95d88_22 ?_
  obtain ⟨v2, e_v2, h⟩ := bnd_e h
  refine g_nmL e_v2 ?_
  refine g_lstore_n (pc := 23) X [(0, .long v2)] rfl (Nat.le_of_ble_eq_true rfl) rfl dJ13_bitCount_95d88_23 ?_
  refine g_lload_n (pc := 24) X 0 rfl dJ13_bitCount_95d88_24 ?_
  refine g_lload_n (pc := 25) X 0 rfl dJ13_bitCount_95d88_25 ?_
  refine g_iconst (v := 4) (pc := 26) X rfl dJ13_bitCount_95d88_26 ?_
  refine g_lushr (pc := 27) X dJ13_bitCount_95d88_27 ?_
  refine g_ladd (pc := 28) X dJ13_bitCount_95d88_28 ?_
  refine g_ldc2 (v := 1085102592571150095) (pc := 29) X k_constl_J13_318 dJ13_bitCount_95d88_29 ?_
  refine g_land (pc := 32) X dJ13_bitCount_95d88_32 ?_
  obtain ⟨v3, e_v3, h⟩ := bnd_e h
  refine g_nmL e_v3 ?_
  refine g_lstore_n (pc := 33) X [(0, .long v3)] rfl (Nat.le_of_ble_eq_true rfl) rfl dJ13_bitCount_95d88_33 ?_
  refine g_lload_n (pc := 34) X 0 rfl dJ13_bitCount_95d88_34 ?_
  refine g_lload_n (pc := 35) X 0 rfl dJ13_bitCount_95d88_35 ?_
  refine g_bipush (v := 8) (pc := 36) X (by decide) dJ13_bitCount_95d88_36 ?_
  refine g_lushr (pc := 38) X dJ13_bitCount_95d88_38 ?_
  refine g_ladd (pc := 39) X dJ13_bitCount_95d88_39 ?_
  obtain ⟨v4, e_v4, h⟩ := bnd_e h
  refine g_nmL e_v4 ?_
  refine g_lstore_n (pc := 40) X [(0, .long v4)] rfl (Nat.le_of_ble_eq_true rfl) rfl dJ13_bitCount_95d88_40 ?_
  refine g_lload_n (pc := 41) X 0 rfl dJ13_bitCount_95d88_41 ?_
  refine g_lload_n (pc := 42) X 0 rfl dJ13_bitCount_95d88_42 ?_
  refine g_bipush (v := 16) (pc := 43) X (by decide) dJ13_bitCount_95d88_43 ?_
  refine g_lushr (pc := 45) X dJ13_bitCount_95d88_45 ?_
  refine g_ladd (pc := 46) X dJ13_bitCount_95d88_46 ?_
  obtain ⟨v5, e_v5, h⟩ := bnd_e h
  refine g_nmL e_v5 ?_
  refine g_lstore_n (pc := 47) X [(0, .long v5)] rfl (Nat.le_of_ble_eq_true rfl) rfl dJ13_bitCount_95d88_47 ?_
  refine g_lload_n (pc := 48) X 0 rfl dJ13_bitCount_95d88_48 ?_
  refine g_lload_n (pc := 49) X 0 rfl dJ13_bitCount_95d88_49 ?_
  refine g_bipush (v := 32) (pc := 50) X (by decide) dJ13_bitCount_95d88_50 ?_
  refine g_lushr (pc := 52) X dJ13_bitCount_95d88_52 ?_
  refine g_ladd (pc := 53) X dJ13_bitCount_95d88_53 ?_
  obtain ⟨v6, e_v6, h⟩ := bnd_e h
  refine g_nmL e_v6 ?_
  refine g_lstore_n (pc := 54) X [(0, .long v6)] rfl (Nat.le_of_ble_eq_true rfl) rfl dJ13_bitCount_95d88_54 ?_
  refine g_lload_n (pc := 55) X 0 rfl dJ13_bitCount_95d88_55 ?_
  refine g_l2i (pc := 56) X dJ13_bitCount_95d88_56 ?_
  refine g_bipush (v := 127) (pc := 57) X (by decide) dJ13_bitCount_95d88_57 ?_
  refine g_iand (pc := 59) X dJ13_bitCount_95d88_59 ?_
  cases h
  exact g_iret (pc := 60) X rfl rfl (hr _ hA) dJ13_bitCount_95d88_60
set_option maxRecDepth 100000 in
theorem run_JL_bitCount_95d88 {V : Ev} {σ : St} {p0 : Int64} {o : Int32}   (h : JL_bitCount_95d88 p0 = some o) : Rs V 0 M_J13_bitCount_95d88 [.long p0] σ (some (.int o), σ) := by
  refine Rs.of (by decide +kernel) (Nat.le_of_ble_eq_true rfl) (fun Γ X => ?_)
  exact tm_JL_bitCount_95d88 X (A := fun o1 => o1 = o)  (fun _ e => by rw [e]) h rfl
theorem dX7_countGaps_0 : decode cX7_countGaps 0 = .ok (.iconst 0, 1) := by decide +kernel
theorem dX7_countGaps_1 : decode cX7_countGaps 1 = .ok (.istore_n 1, 1) := by decide +kernel
theorem dX7_countGaps_2 : decode cX7_countGaps 2 = .ok (.iconst 0, 1) := by decide +kernel
theorem dX7_countGaps_3 : decode cX7_countGaps 3 = .ok (.istore_n 2, 1) := by decide +kernel
theorem dX7_countGaps_4 : decode cX7_countGaps 4 = .ok (.iload_n 2, 1) := by decide +kernel
theorem dX7_countGaps_5 : decode cX7_countGaps 5 = .ok (.aload_n 0, 1) := by decide +kernel
theorem dX7_countGaps_6 : decode cX7_countGaps 6 = .ok (.getfield 25, 3) := by decide +kernel
theorem dX7_countGaps_9 : decode cX7_countGaps 9 = .ok (.if_icmp .ge 20, 3) := by decide +kernel
theorem dX7_countGaps_12 : decode cX7_countGaps 12 = .ok (.iload_n 1, 1) := by decide +kernel
theorem dX7_countGaps_13 : decode cX7_countGaps 13 = .ok (.aload_n 0, 1) := by decide +kernel
theorem dX7_countGaps_14 : decode cX7_countGaps 14 = .ok (.iload_n 2, 1) := by decide +kernel
theorem dX7_countGaps_15 : decode cX7_countGaps 15 = .ok (.invokevirtual 75, 3) := by decide +kernel
theorem dX7_countGaps_18 : decode cX7_countGaps 18 = .ok (.invokestatic 78, 3) := by decide +kernel
theorem dX7_countGaps_21 : decode cX7_countGaps 21 = .ok (.iadd, 1) := by decide +kernel
theorem dX7_countGaps_22 : decode cX7_countGaps 22 = .ok (.istore_n 1, 1) := by decide +kernel
theorem dX7_countGaps_23 : decode cX7_countGaps 23 = .ok (.iinc 2 1, 3) := by decide +kernel
theorem dX7_countGaps_26 : decode cX7_countGaps 26 = .ok (.goto (-22), 3) := by decide +kernel
theorem dX7_countGaps_29 : decode cX7_countGaps 29 = .ok (.iload_n 1, 1) := by decide +kernel
theorem dX7_countGaps_30 : decode cX7_countGaps 30 = .ok (.ireturn, 1) := by decide +kernel
noncomputable def Si_countGaps_L4 (σ : St) (x1 : Int32) (x2 : Int32) : Option ((Int32 × Int32) ⊕ Int32) :=
  if (σ.1 31 4) ≤ x2 then (some (.inr x1)) else (bd (Si_openIn σ x2) (fun r2 => bd (JL_bitCount_95d88 r2) (fun r4 => bnd ((x1 + r4)) (fun v5 => bnd (x2 + 1) (fun v6 => some (.inl (v5, v6)))))))
set_option maxRecDepth 100000 in
set_option maxHeartbeats 4000000 in
theorem tb_Si_countGaps_L4 {V : Ev} {Γ : Cn} {fin : Option Value × St} {σ : St} {x1 : Int32} {x2 : Int32} {o : ((Int32 × Int32) ⊕ Int32)} (X : Cx V Γ M_X7_countGaps) {A : ((Int32 × Int32) ⊕ Int32) → Prop}  (hb4 : ∀ (x1 : Int32) (x2 : Int32), A (.inl (x1, x2)) → Go V Γ M_X7_countGaps (Zm V Γ 3 fin) 4 [(0, .ref (V.2.2.1 + 31)), (1, .int x1), (2, .int x2)] [] σ) (hx4 : ∀ (x1 : Int32), A (.inr x1) → Go V Γ M_X7_countGaps (Zm V Γ 3 fin) 29 [(1, .int x1)] [] σ) (h : Si_countGaps_L4 σ x1 x2 = some o) (hA : A o) : Go V Γ M_X7_countGaps (Zm V Γ 3 fin) 4 [(0, .ref (V.2.2.1 + 31)), (1, .int x1), (2, .int x2)] [] σ := by
  unfold Si_countGaps_L4 at h
  refine g_iload_n (pc := 4) X 2 rfl dX7_countGaps_4 ?_
  refine g_aload_n (pc := 5) X 0 rfl dX7_countGaps_5 ?_
  refine g_getI (pc := 6) X k_fl_X7_25 s_31 rfl dX7_countGaps_6 ?_
  refine g_icmp_ge (pc := 9) (tgt := 29) X dX7_countGaps_9 rfl (fun c7 => ?_) (fun c7 => ?_)
  · replace h := if_t c7 h
    refine g_sub [1] rfl ?_
    cases h
    exact hx4 _ hA
  · replace h := if_f c7 h
    refine g_iload_n (pc := 12) X 1 rfl dX7_countGaps_12 ?_
    refine g_aload_n (pc := 13) X 0 rfl dX7_countGaps_13 ?_
    refine g_iload_n (pc := 14) X 2 rfl dX7_countGaps_14 ?_
    obtain ⟨r2, hc1, h⟩ := bd_e h
    refine g_callV (pc := 15) X k_ml_X7_75 (run_Si_openIn  hc1) s_31 rfl (room_ok (Nat.le_of_ble_eq_true rfl) (Nat.le_of_ble_eq_true rfl)) ⟨Nat.le_refl _, Nat.le_refl _⟩ _ rfl (Nat.le_of_ble_eq_true rfl) dX7_countGaps_15 ?_
    show Go V Γ M_X7_countGaps (Zm V Γ 3 fin) 18 [(0, .ref (V.2.2.1 + 31)), (1, .int x1), (2, .int x2)] [.long r2, .int x1] σ
    obtain ⟨r4, hc3, h⟩ := bd_e h
    refine g_callS (pc := 18) X k_ml_X7_78 (run_JL_bitCount_95d88  hc3) rfl (room_ok (Nat.le_of_ble_eq_true rfl) (Nat.le_of_ble_eq_true rfl)) ⟨Nat.le_refl _, Nat.le_refl _⟩ _ rfl (Nat.le_of_ble_eq_true rfl) dX7_countGaps_18 ?_
    show Go V Γ M_X7_countGaps (Zm V Γ 3 fin) 21 [(0, .ref (V.2.2.1 + 31)), (1, .int x1), (2, .int x2)] [.int r4, .int x1] σ
    refine g_iadd (pc := 21) X dX7_countGaps_21 ?_
    obtain ⟨v5, e_v5, h⟩ := bnd_e h
    refine g_nmI e_v5 ?_
    refine g_istore_n (pc := 22) X [(1, .int v5), (0, .ref (V.2.2.1 + 31)), (2, .int x2)] rfl (Nat.le_of_ble_eq_true rfl) rfl dX7_countGaps_22 ?_
    obtain ⟨v6, e_v6, h⟩ := bnd_e h
    refine g_iinc (pc := 23) (v := v6) X [(2, .int v6), (1, .int v5), (0, .ref (V.2.2.1 + 31))] 2 rfl (by rw [e_v6]; rfl) (Nat.le_of_ble_eq_true rfl) rfl dX7_countGaps_23 ?_
    refine g_goto (pc := 26) (tgt := 4) X dX7_countGaps_26 rfl ?_
    refine g_sub [2, 1, 0] rfl ?_
    cases h
    exact hb4 _ _ hA
set_option maxRecDepth 100000 in
theorem tl_Si_countGaps_L4 {V : Ev} {Γ : Cn} {fin : Option Value × St} {σ : St} {x1 : Int32} {x2 : Int32} (X : Cx V Γ M_X7_countGaps)  {y1 : Int32} {n : Nat} (h : iter (fun s : (Int32 × Int32) => Si_countGaps_L4 σ s.1 s.2) n (x1, x2) = some y1) (hK : Go V Γ M_X7_countGaps (Zm V Γ 3 fin) 29 [(1, .int y1)] [] σ) : Go V Γ M_X7_countGaps (Zm V Γ 3 fin) 4 [(0, .ref (V.2.2.1 + 31)), (1, .int x1), (2, .int x2)] [] σ := by
  refine iter_go (G := (fun s : (Int32 × Int32) => Go V Γ M_X7_countGaps (Zm V Γ 3 fin) 4 [(0, .ref (V.2.2.1 + 31)), (1, .int s.1), (2, .int s.2)] [] σ)) (fun s o ho hS => ?_) n (x1, x2) h
  exact tb_Si_countGaps_L4 X  (fun _ _ h9 => h9) (fun _ he => by cases he; exact hK) ho hS
noncomputable def Si_countGaps (σ : St) : Option Int32 :=
  bd (iter (fun s : (Int32 × Int32) => Si_countGaps_L4 σ s.1 s.2) FUEL (0, 0)) (fun v8 => some v8)
set_option maxRecDepth 100000 in
set_option maxHeartbeats 4000000 in
theorem tm_Si_countGaps {V : Ev} {Γ : Cn} {fin : Option Value × St} {σ : St} {o : Int32} (X : Cx V Γ M_X7_countGaps) {A : Int32 → Prop}  (hr : ∀ (r : Int32), A r → (some (.int r), σ) = fin) (h : Si_countGaps σ = some o) (hA : A o) : Go V Γ M_X7_countGaps (Zm V Γ 3 fin) 0 [(0, .ref (V.2.2.1 + 31))] [] σ := by
  unfold Si_countGaps at h
  refine g_iconst (v := 0) (pc := 0) X rfl dX7_countGaps_0 ?_
  refine g_istore_n (pc := 1) X [(1, .int 0), (0, .ref (V.2.2.1 + 31))] rfl (Nat.le_of_ble_eq_true rfl) rfl dX7_countGaps_1 ?_
  refine g_iconst (v := 0) (pc := 2) X rfl dX7_countGaps_2 ?_
  refine g_istore_n (pc := 3) X [(2, .int 0), (1, .int 0), (0, .ref (V.2.2.1 + 31))] rfl (Nat.le_of_ble_eq_true rfl) rfl dX7_countGaps_3 ?_
  refine g_sub [2, 1, 0] rfl ?_
  obtain ⟨v8, hi9, h⟩ := bd_e h
  refine tl_Si_countGaps_L4 X  hi9 ?_
  refine g_iload_n (pc := 29) X 0 rfl dX7_countGaps_29 ?_
  cases h
  exact g_iret (pc := 30) X rfl rfl (hr _ hA) dX7_countGaps_30
set_option maxRecDepth 100000 in
theorem run_Si_countGaps {V : Ev} {σ : St} {o : Int32}   (h : Si_countGaps σ = some o) : Rs V 3 M_X7_countGaps [.ref (V.2.2.1 + 31)] σ (some (.int o), σ) := by
  refine Rs.of (by decide +kernel) (Nat.le_of_ble_eq_true rfl) (fun Γ X => ?_)
  exact tm_Si_countGaps X (A := fun o1 => o1 = o)  (fun _ e => by rw [e]) h rfl
theorem dX4_worth_0 : decode cX4_worth 0 = .ok (.iload_n 3, 1) := by decide +kernel
theorem dX4_worth_1 : decode cX4_worth 1 = .ok (.iconst 1, 1) := by decide +kernel
theorem dX4_worth_2 : decode cX4_worth 2 = .ok (.if_icmp .ge 32, 3) := by decide +kernel
theorem dX4_worth_5 : decode cX4_worth 5 = .ok (.aload_n 1, 1) := by decide +kernel
theorem dX4_worth_6 : decode cX4_worth 6 = .ok (.aload_n 0, 1) := by decide +kernel
theorem dX4_worth_7 : decode cX4_worth 7 = .ok (.iload_n 2, 1) := by decide +kernel
theorem dX4_worth_8 : decode cX4_worth 8 = .ok (.invokevirtual 9, 3) := by decide +kernel
theorem dX4_worth_11 : decode cX4_worth 11 = .ok (.ifCond .eq 21, 3) := by decide +kernel
theorem dX4_worth_14 : decode cX4_worth 14 = .ok (.aload_n 1, 1) := by decide +kernel
theorem dX4_worth_15 : decode cX4_worth 15 = .ok (.invokevirtual 15, 3) := by decide +kernel
theorem dX4_worth_18 : decode cX4_worth 18 = .ok (.sipush 5040, 3) := by decide +kernel
theorem dX4_worth_21 : decode cX4_worth 21 = .ok (.imul, 1) := by decide +kernel
theorem dX4_worth_22 : decode cX4_worth 22 = .ok (.aload_n 1, 1) := by decide +kernel
theorem dX4_worth_23 : decode cX4_worth 23 = .ok (.getfield 19, 3) := by decide +kernel
theorem dX4_worth_26 : decode cX4_worth 26 = .ok (.invokestatic 23, 3) := by decide +kernel
theorem dX4_worth_29 : decode cX4_worth 29 = .ok (.goto 4, 3) := by decide +kernel
theorem dX4_worth_32 : decode cX4_worth 32 = .ok (.iconst 0, 1) := by decide +kernel
theorem dX4_worth_33 : decode cX4_worth 33 = .ok (.ireturn, 1) := by decide +kernel
theorem dX4_worth_34 : decode cX4_worth 34 = .ok (.aload_n 0, 1) := by decide +kernel
theorem dX4_worth_35 : decode cX4_worth 35 = .ok (.aload_n 1, 1) := by decide +kernel
theorem dX4_worth_36 : decode cX4_worth 36 = .ok (.iload_n 2, 1) := by decide +kernel
theorem dX4_worth_37 : decode cX4_worth 37 = .ok (.iload_n 3, 1) := by decide +kernel
theorem dX4_worth_38 : decode cX4_worth 38 = .ok (.iconst 1, 1) := by decide +kernel
theorem dX4_worth_39 : decode cX4_worth 39 = .ok (.isub, 1) := by decide +kernel
theorem dX4_worth_40 : decode cX4_worth 40 = .ok (.iload 4, 2) := by decide +kernel
theorem dX4_worth_42 : decode cX4_worth 42 = .ok (.ifCond .ne 7, 3) := by decide +kernel
theorem dX4_worth_45 : decode cX4_worth 45 = .ok (.iconst 1, 1) := by decide +kernel
theorem dX4_worth_46 : decode cX4_worth 46 = .ok (.goto 4, 3) := by decide +kernel
theorem dX4_worth_49 : decode cX4_worth 49 = .ok (.iconst 0, 1) := by decide +kernel
theorem dX4_worth_50 : decode cX4_worth 50 = .ok (.invokestatic 27, 3) := by decide +kernel
theorem dX4_worth_53 : decode cX4_worth 53 = .ok (.istore 5, 2) := by decide +kernel
theorem dX4_worth_55 : decode cX4_worth 55 = .ok (.iconst 0, 1) := by decide +kernel
theorem dX4_worth_56 : decode cX4_worth 56 = .ok (.istore 6, 2) := by decide +kernel
theorem dX4_worth_58 : decode cX4_worth 58 = .ok (.iload 6, 2) := by decide +kernel
theorem dX4_worth_60 : decode cX4_worth 60 = .ok (.aload_n 0, 1) := by decide +kernel
theorem dX4_worth_61 : decode cX4_worth 61 = .ok (.getfield 33, 3) := by decide +kernel
theorem dX4_worth_64 : decode cX4_worth 64 = .ok (.if_icmp .ge 72, 3) := by decide +kernel
theorem dX4_worth_67 : decode cX4_worth 67 = .ok (.iload_n 2, 1) := by decide +kernel
theorem dX4_worth_68 : decode cX4_worth 68 = .ok (.iconst 1, 1) := by decide +kernel
theorem dX4_worth_69 : decode cX4_worth 69 = .ok (.iload 6, 2) := by decide +kernel
theorem dX4_worth_71 : decode cX4_worth 71 = .ok (.ishl, 1) := by decide +kernel
theorem dX4_worth_72 : decode cX4_worth 72 = .ok (.ixor, 1) := by decide +kernel
theorem dX4_worth_73 : decode cX4_worth 73 = .ok (.istore 7, 2) := by decide +kernel
theorem dX4_worth_75 : decode cX4_worth 75 = .ok (.aload_n 0, 1) := by decide +kernel
theorem dX4_worth_76 : decode cX4_worth 76 = .ok (.iload 7, 2) := by decide +kernel
theorem dX4_worth_78 : decode cX4_worth 78 = .ok (.invokevirtual 38, 3) := by decide +kernel
theorem dX4_worth_81 : decode cX4_worth 81 = .ok (.ifCond .eq 49, 3) := by decide +kernel
theorem dX4_worth_84 : decode cX4_worth 84 = .ok (.aload_n 0, 1) := by decide +kernel
theorem dX4_worth_85 : decode cX4_worth 85 = .ok (.aload_n 1, 1) := by decide +kernel
theorem dX4_worth_86 : decode cX4_worth 86 = .ok (.iload 7, 2) := by decide +kernel
theorem dX4_worth_88 : decode cX4_worth 88 = .ok (.iload_n 3, 1) := by decide +kernel
theorem dX4_worth_89 : decode cX4_worth 89 = .ok (.iconst 1, 1) := by decide +kernel
theorem dX4_worth_90 : decode cX4_worth 90 = .ok (.isub, 1) := by decide +kernel
theorem dX4_worth_91 : decode cX4_worth 91 = .ok (.iload 4, 2) := by decide +kernel
theorem dX4_worth_93 : decode cX4_worth 93 = .ok (.ifCond .ne 7, 3) := by decide +kernel
theorem dX4_worth_96 : decode cX4_worth 96 = .ok (.iconst 1, 1) := by decide +kernel
theorem dX4_worth_97 : decode cX4_worth 97 = .ok (.goto 4, 3) := by decide +kernel
theorem dX4_worth_100 : decode cX4_worth 100 = .ok (.iconst 0, 1) := by decide +kernel
theorem dX4_worth_101 : decode cX4_worth 101 = .ok (.invokestatic 27, 3) := by decide +kernel
theorem dX4_worth_104 : decode cX4_worth 104 = .ok (.istore 8, 2) := by decide +kernel
theorem dX4_worth_106 : decode cX4_worth 106 = .ok (.iload 4, 2) := by decide +kernel
theorem dX4_worth_108 : decode cX4_worth 108 = .ok (.ifCond .eq 13, 3) := by decide +kernel
theorem dX4_worth_111 : decode cX4_worth 111 = .ok (.iload 5, 2) := by decide +kernel
theorem dX4_worth_113 : decode cX4_worth 113 = .ok (.iload 8, 2) := by decide +kernel
theorem dX4_worth_115 : decode cX4_worth 115 = .ok (.invokestatic 42, 3) := by decide +kernel
theorem dX4_worth_118 : decode cX4_worth 118 = .ok (.goto 10, 3) := by decide +kernel
theorem dX4_worth_121 : decode cX4_worth 121 = .ok (.iload 5, 2) := by decide +kernel
theorem dX4_worth_123 : decode cX4_worth 123 = .ok (.iload 8, 2) := by decide +kernel
theorem dX4_worth_125 : decode cX4_worth 125 = .ok (.invokestatic 47, 3) := by decide +kernel
theorem dX4_worth_128 : decode cX4_worth 128 = .ok (.istore 5, 2) := by decide +kernel
theorem dX4_worth_130 : decode cX4_worth 130 = .ok (.iinc 6 1, 3) := by decide +kernel
theorem dX4_worth_133 : decode cX4_worth 133 = .ok (.goto (-75), 3) := by decide +kernel
theorem dX4_worth_136 : decode cX4_worth 136 = .ok (.iload 5, 2) := by decide +kernel
theorem dX4_worth_138 : decode cX4_worth 138 = .ok (.ireturn, 1) := by decide +kernel
noncomputable def Ga_worth_J101_58 (rec : St → Nat → Int32 → Int32 → Int32 → Option (Int32 × St)) (σ : St) (l0 : Nat) (l2 : Int32) (l3 : Int32) (l4 : Int32) (l5 : Int32) (l6 : Int32) (s0 : Int32) (s1 : Int32) (s2 : Int32) (s4 : Nat) : Option (((Int32 × Int32 × St) ⊕ (Int32 × St))) :=
  bd2 (rec σ s4 s2 s1 s0) (fun r9 σ10 => if l4 = 0 then (bnd ((jmin l5 r9)) (fun v11 => bnd (l6 + 1) (fun v12 => some (.inl (v11, v12, σ10))))) else (bnd ((jmax l5 r9)) (fun v13 => bnd (l6 + 1) (fun v14 => some (.inl (v13, v14, σ10))))))
set_option maxRecDepth 100000 in
set_option maxHeartbeats 4000000 in
theorem tj_Ga_worth_J101_58 {V : Ev} {Γ : Cn} {rec : St → Nat → Int32 → Int32 → Int32 → Option (Int32 × St)} {dr : Nat} {fin : Option Value × St} {σ : St} {l0 : Nat} {l2 : Int32} {l3 : Int32} {l4 : Int32} {l5 : Int32} {l6 : Int32} {s0 : Int32} {s1 : Int32} {s2 : Int32} {s4 : Nat} {o : ((Int32 × Int32 × St) ⊕ (Int32 × St))} (X : Cx V Γ M_X4_worth) (hdr : 4 ≤ dr) (hrec : ∀ {σ0 : St} {a0' : Nat} {p2' : Int32} {p3' : Int32} {p4' : Int32} {o : (Int32 × St)} (k0' : okCl a0'), rec σ0 a0' p2' p3' p4' = some o → Rs V dr M_X4_worth [.ref (V.2.2.1 + a0'), .ref (V.2.2.1 + 31), .int p2', .int p3', .int p4'] σ0 (some (.int o.1), o.2)) {A : ((Int32 × Int32 × St) ⊕ (Int32 × St)) → Prop} (k_l0 : okCl l0) (k_s4 : okCl s4) (hb58 : ∀ (x5 : Int32) (x6 : Int32) (σ9 : St), A (.inl (x5, x6, σ9)) → Go V Γ M_X4_worth (Zm V Γ (dr + 1) fin) 58 [(0, .ref (V.2.2.1 + l0)), (1, .ref (V.2.2.1 + 31)), (2, .int l2), (3, .int l3), (4, .int l4), (5, .int x5), (6, .int x6)] [] σ9) (hx58 : ∀ (x5 : Int32) (σ9 : St), A (.inr (x5, σ9)) → Go V Γ M_X4_worth (Zm V Γ (dr + 1) fin) 136 [(5, .int x5)] [] σ9) (h : Ga_worth_J101_58 rec σ l0 l2 l3 l4 l5 l6 s0 s1 s2 s4 = some o) (hA : A o) : Go V Γ M_X4_worth (Zm V Γ (dr + 1) fin) 101 [(0, .ref (V.2.2.1 + l0)), (1, .ref (V.2.2.1 + 31)), (2, .int l2), (3, .int l3), (4, .int l4), (5, .int l5), (6, .int l6)] [.int s0, .int s1, .int s2, .ref (V.2.2.1 + 31), .ref (V.2.2.1 + s4)] σ := by
  unfold Ga_worth_J101_58 at h
  obtain ⟨r9, σ10, hc8, h⟩ := bd2_e h
  refine g_callS (pc := 101) X k_ml_X4_27 (hrec k_s4 hc8) rfl (room_ok (Nat.le_refl _) (Nat.le_of_ble_eq_true rfl)) ⟨Nat.le_refl _, Nat.le_refl _⟩ _ rfl (Nat.le_of_ble_eq_true rfl) dX4_worth_101 ?_
  show Go V Γ M_X4_worth (Zm V Γ (dr + 1) fin) 104 [(0, .ref (V.2.2.1 + l0)), (1, .ref (V.2.2.1 + 31)), (2, .int l2), (3, .int l3), (4, .int l4), (5, .int l5), (6, .int l6)] [.int r9] σ10
  refine g_istore (pc := 104) X [(8, .int r9), (0, .ref (V.2.2.1 + l0)), (1, .ref (V.2.2.1 + 31)), (2, .int l2), (3, .int l3), (4, .int l4), (5, .int l5), (6, .int l6)] (Nat.le_of_ble_eq_true rfl) rfl dX4_worth_104 ?_
  refine g_iload (pc := 106) X 5 rfl dX4_worth_106 ?_
  refine g_if_eq (pc := 108) (tgt := 121) X dX4_worth_108 rfl (fun c15 => ?_) (fun c15 => ?_)
  · replace h := if_t c15 h
    refine g_iload (pc := 121) X 6 rfl dX4_worth_121 ?_
    refine g_iload (pc := 123) X 0 rfl dX4_worth_123 ?_
    refine g_min (pc := 125) X k_ml_X4_47 (by show 1 ≤ _ + 1; omega) (by show _ ≤ 100 * (_ + 1); simp [Value.category]; omega) (Nat.le_refl _) (Nat.le_refl _) dX4_worth_125 ?_
    obtain ⟨v11, e_v11, h⟩ := bnd_e h
    refine g_nmI e_v11 ?_
    refine g_istore (pc := 128) X [(5, .int v11), (8, .int r9), (0, .ref (V.2.2.1 + l0)), (1, .ref (V.2.2.1 + 31)), (2, .int l2), (3, .int l3), (4, .int l4), (6, .int l6)] (Nat.le_of_ble_eq_true rfl) rfl dX4_worth_128 ?_
    obtain ⟨v12, e_v12, h⟩ := bnd_e h
    refine g_iinc (pc := 130) (v := v12) X [(6, .int v12), (5, .int v11), (8, .int r9), (0, .ref (V.2.2.1 + l0)), (1, .ref (V.2.2.1 + 31)), (2, .int l2), (3, .int l3), (4, .int l4)] 7 rfl (by rw [e_v12]; rfl) (Nat.le_of_ble_eq_true rfl) rfl dX4_worth_130 ?_
    refine g_goto (pc := 133) (tgt := 58) X dX4_worth_133 rfl ?_
    refine g_sub [3, 4, 5, 6, 7, 1, 0] rfl ?_
    cases h
    exact hb58 _ _ _ hA
  · replace h := if_f c15 h
    refine g_iload (pc := 111) X 6 rfl dX4_worth_111 ?_
    refine g_iload (pc := 113) X 0 rfl dX4_worth_113 ?_
    refine g_max (pc := 115) X k_ml_X4_42 (by show 1 ≤ _ + 1; omega) (by show _ ≤ 100 * (_ + 1); simp [Value.category]; omega) (Nat.le_refl _) (Nat.le_refl _) dX4_worth_115 ?_
    refine g_goto (pc := 118) (tgt := 128) X dX4_worth_118 rfl ?_
    obtain ⟨v13, e_v13, h⟩ := bnd_e h
    refine g_nmI e_v13 ?_
    refine g_istore (pc := 128) X [(5, .int v13), (8, .int r9), (0, .ref (V.2.2.1 + l0)), (1, .ref (V.2.2.1 + 31)), (2, .int l2), (3, .int l3), (4, .int l4), (6, .int l6)] (Nat.le_of_ble_eq_true rfl) rfl dX4_worth_128 ?_
    obtain ⟨v14, e_v14, h⟩ := bnd_e h
    refine g_iinc (pc := 130) (v := v14) X [(6, .int v14), (5, .int v13), (8, .int r9), (0, .ref (V.2.2.1 + l0)), (1, .ref (V.2.2.1 + 31)), (2, .int l2), (3, .int l3), (4, .int l4)] 7 rfl (by rw [e_v14]; rfl) (Nat.le_of_ble_eq_true rfl) rfl dX4_worth_130 ?_
    refine g_goto (pc := 133) (tgt := 58) X dX4_worth_133 rfl ?_
    refine g_sub [3, 4, 5, 6, 7, 1, 0] rfl ?_
    cases h
    exact hb58 _ _ _ hA
noncomputable def Ga_worth_L58 (rec : St → Nat → Int32 → Int32 → Int32 → Option (Int32 × St)) (l0 : Nat) (l2 : Int32) (l3 : Int32) (l4 : Int32) (σ : St) (x5 : Int32) (x6 : Int32) : Option ((Int32 × Int32 × St) ⊕ (Int32 × St)) :=
  if (σ.1 l0 3) ≤ x6 then (some (.inr (x5, σ))) else (bnd ((l2 ^^^ (1 <<< (x6 &&& 31)))) (fun v4 => bd (Cl_spanOf σ l0 v4) (fun r6 => if r6 = 0 then (bnd (x6 + 1) (fun v7 => some (.inl (x5, v7, σ)))) else (if l4 = 0 then (Ga_worth_J101_58 rec σ l0 l2 l3 l4 x5 x6 1 (l3 - 1) v4 l0) else (Ga_worth_J101_58 rec σ l0 l2 l3 l4 x5 x6 0 (l3 - 1) v4 l0)))))
set_option maxRecDepth 100000 in
set_option maxHeartbeats 4000000 in
theorem tb_Ga_worth_L58 {V : Ev} {Γ : Cn} {rec : St → Nat → Int32 → Int32 → Int32 → Option (Int32 × St)} {dr : Nat} {fin : Option Value × St} {l0 : Nat} {l2 : Int32} {l3 : Int32} {l4 : Int32} {σ : St} {x5 : Int32} {x6 : Int32} {o : ((Int32 × Int32 × St) ⊕ (Int32 × St))} (X : Cx V Γ M_X4_worth) (hdr : 4 ≤ dr) (hrec : ∀ {σ0 : St} {a0' : Nat} {p2' : Int32} {p3' : Int32} {p4' : Int32} {o : (Int32 × St)} (k0' : okCl a0'), rec σ0 a0' p2' p3' p4' = some o → Rs V dr M_X4_worth [.ref (V.2.2.1 + a0'), .ref (V.2.2.1 + 31), .int p2', .int p3', .int p4'] σ0 (some (.int o.1), o.2)) {A : ((Int32 × Int32 × St) ⊕ (Int32 × St)) → Prop} (k_l0 : okCl l0) (hb58 : ∀ (x5 : Int32) (x6 : Int32) (σ9 : St), A (.inl (x5, x6, σ9)) → Go V Γ M_X4_worth (Zm V Γ (dr + 1) fin) 58 [(0, .ref (V.2.2.1 + l0)), (1, .ref (V.2.2.1 + 31)), (2, .int l2), (3, .int l3), (4, .int l4), (5, .int x5), (6, .int x6)] [] σ9) (hx58 : ∀ (x5 : Int32) (σ9 : St), A (.inr (x5, σ9)) → Go V Γ M_X4_worth (Zm V Γ (dr + 1) fin) 136 [(5, .int x5)] [] σ9) (h : Ga_worth_L58 rec l0 l2 l3 l4 σ x5 x6 = some o) (hA : A o) : Go V Γ M_X4_worth (Zm V Γ (dr + 1) fin) 58 [(0, .ref (V.2.2.1 + l0)), (1, .ref (V.2.2.1 + 31)), (2, .int l2), (3, .int l3), (4, .int l4), (5, .int x5), (6, .int x6)] [] σ := by
  unfold Ga_worth_L58 at h
  refine g_iload (pc := 58) X 6 rfl dX4_worth_58 ?_
  refine g_aload_n (pc := 60) X 0 rfl dX4_worth_60 ?_
  refine g_getI (pc := 61) X k_fl_X4_33 (sCl_0 k_l0) rfl dX4_worth_61 ?_
  refine g_icmp_ge (pc := 64) (tgt := 136) X dX4_worth_64 rfl (fun c18 => ?_) (fun c18 => ?_)
  · replace h := if_t c18 h
    refine g_sub [5] rfl ?_
    cases h
    exact hx58 _ _ hA
  · replace h := if_f c18 h
    refine g_iload_n (pc := 67) X 2 rfl dX4_worth_67 ?_
    refine g_iconst (v := 1) (pc := 68) X rfl dX4_worth_68 ?_
    refine g_iload (pc := 69) X 6 rfl dX4_worth_69 ?_
    refine g_ishl (pc := 71) X dX4_worth_71 ?_
    refine g_ixor (pc := 72) X dX4_worth_72 ?_
    obtain ⟨v4, e_v4, h⟩ := bnd_e h
    refine g_nmI e_v4 ?_
    refine g_istore (pc := 73) X [(7, .int v4), (0, .ref (V.2.2.1 + l0)), (1, .ref (V.2.2.1 + 31)), (2, .int l2), (3, .int l3), (4, .int l4), (5, .int x5), (6, .int x6)] (Nat.le_of_ble_eq_true rfl) rfl dX4_worth_73 ?_
    refine g_aload_n (pc := 75) X 1 rfl dX4_worth_75 ?_
    refine g_iload (pc := 76) X 0 rfl dX4_worth_76 ?_
    obtain ⟨r6, hc5, h⟩ := bd_e h
    refine g_callV (pc := 78) X k_ml_X4_38 (run_Cl_spanOf k_l0 hc5) (sCl_0 k_l0) rfl (room_ok (by omega) (Nat.le_of_ble_eq_true rfl)) ⟨Nat.le_refl _, Nat.le_refl _⟩ _ rfl (Nat.le_of_ble_eq_true rfl) dX4_worth_78 ?_
    show Go V Γ M_X4_worth (Zm V Γ (dr + 1) fin) 81 [(7, .int v4), (0, .ref (V.2.2.1 + l0)), (1, .ref (V.2.2.1 + 31)), (2, .int l2), (3, .int l3), (4, .int l4), (5, .int x5), (6, .int x6)] [.int r6] σ
    refine g_if_eq (pc := 81) (tgt := 130) X dX4_worth_81 rfl (fun c17 => ?_) (fun c17 => ?_)
    · replace h := if_t c17 h
      obtain ⟨v7, e_v7, h⟩ := bnd_e h
      refine g_iinc (pc := 130) (v := v7) X [(6, .int v7), (7, .int v4), (0, .ref (V.2.2.1 + l0)), (1, .ref (V.2.2.1 + 31)), (2, .int l2), (3, .int l3), (4, .int l4), (5, .int x5)] 7 rfl (by rw [e_v7]; rfl) (Nat.le_of_ble_eq_true rfl) rfl dX4_worth_130 ?_
      refine g_goto (pc := 133) (tgt := 58) X dX4_worth_133 rfl ?_
      refine g_sub [2, 3, 4, 5, 6, 7, 0] rfl ?_
      cases h
      exact hb58 _ _ _ hA
    · replace h := if_f c17 h
      refine g_aload_n (pc := 84) X 1 rfl dX4_worth_84 ?_
      refine g_aload_n (pc := 85) X 2 rfl dX4_worth_85 ?_
      refine g_iload (pc := 86) X 0 rfl dX4_worth_86 ?_
      refine g_iload_n (pc := 88) X 4 rfl dX4_worth_88 ?_
      refine g_iconst (v := 1) (pc := 89) X rfl dX4_worth_89 ?_
      refine g_isub (pc := 90) X dX4_worth_90 ?_
      refine g_iload (pc := 91) X 5 rfl dX4_worth_91 ?_
      refine g_if_ne (pc := 93) (tgt := 100) X dX4_worth_93 rfl (fun c16 => ?_) (fun c16 => ?_)
      · replace h := if_f c16 h
        refine g_iconst (v := 0) (pc := 100) X rfl dX4_worth_100 ?_
        refine g_sub [1, 2, 3, 4, 5, 6, 7] rfl ?_
        exact tj_Ga_worth_J101_58 X hdr hrec k_l0 k_l0 hb58 hx58 h hA
      · replace h := if_t c16 h
        refine g_iconst (v := 1) (pc := 96) X rfl dX4_worth_96 ?_
        refine g_goto (pc := 97) (tgt := 101) X dX4_worth_97 rfl ?_
        refine g_sub [1, 2, 3, 4, 5, 6, 7] rfl ?_
        exact tj_Ga_worth_J101_58 X hdr hrec k_l0 k_l0 hb58 hx58 h hA
set_option maxRecDepth 100000 in
theorem tl_Ga_worth_L58 {V : Ev} {Γ : Cn} {rec : St → Nat → Int32 → Int32 → Int32 → Option (Int32 × St)} {dr : Nat} {fin : Option Value × St} {l0 : Nat} {l2 : Int32} {l3 : Int32} {l4 : Int32} {x5 : Int32} {x6 : Int32} {σ9 : St} (X : Cx V Γ M_X4_worth) (hdr : 4 ≤ dr) (hrec : ∀ {σ0 : St} {a0' : Nat} {p2' : Int32} {p3' : Int32} {p4' : Int32} {o : (Int32 × St)} (k0' : okCl a0'), rec σ0 a0' p2' p3' p4' = some o → Rs V dr M_X4_worth [.ref (V.2.2.1 + a0'), .ref (V.2.2.1 + 31), .int p2', .int p3', .int p4'] σ0 (some (.int o.1), o.2)) (k_l0 : okCl l0) {y5 : Int32} {σ8 : St} {n : Nat} (h : iter (fun s : (Int32 × Int32 × St) => Ga_worth_L58 rec l0 l2 l3 l4 s.2.2 s.1 s.2.1) n (x5, x6, σ9) = some (y5, σ8)) (hK : Go V Γ M_X4_worth (Zm V Γ (dr + 1) fin) 136 [(5, .int y5)] [] σ8) : Go V Γ M_X4_worth (Zm V Γ (dr + 1) fin) 58 [(0, .ref (V.2.2.1 + l0)), (1, .ref (V.2.2.1 + 31)), (2, .int l2), (3, .int l3), (4, .int l4), (5, .int x5), (6, .int x6)] [] σ9 := by
  refine iter_go (G := (fun s : (Int32 × Int32 × St) => Go V Γ M_X4_worth (Zm V Γ (dr + 1) fin) 58 [(0, .ref (V.2.2.1 + l0)), (1, .ref (V.2.2.1 + 31)), (2, .int l2), (3, .int l3), (4, .int l4), (5, .int s.1), (6, .int s.2.1)] [] s.2.2)) (fun s o ho hS => ?_) n (x5, x6, σ9) h
  exact tb_Ga_worth_L58 X hdr hrec k_l0 (fun _ _ _ h9 => h9) (fun _ _ he => by cases he; exact hK) ho hS
noncomputable def Ga_worth_F (rec : St → Nat → Int32 → Int32 → Int32 → Option (Int32 × St)) (σ : St) (a0 : Nat) (p2 : Int32) (p3 : Int32) (p4 : Int32) : Option (Int32 × St) :=
  if 1 ≤ p3 then (if p4 = 0 then (bd2 (rec σ a0 p2 (p3 - 1) 1) (fun r23 σ24 => bd2 (iter (fun s : (Int32 × Int32 × St) => Ga_worth_L58 rec a0 p2 p3 p4 s.2.2 s.1 s.2.1) FUEL (r23, 0, σ24)) (fun v25 σ26 => some (v25, σ26)))) else (bd2 (rec σ a0 p2 (p3 - 1) 0) (fun r2 σ3 => bd2 (iter (fun s : (Int32 × Int32 × St) => Ga_worth_L58 rec a0 p2 p3 p4 s.2.2 s.1 s.2.1) FUEL (r2, 0, σ3)) (fun v19 σ20 => some (v19, σ20))))) else (bd2 (Si_fill σ a0 p2) (fun r30 σ31 => if r30 = 0 then (some (0, σ31)) else (bd (Si_countGaps σ31) (fun r33 => bd (RC_partBy_ (r33 * 5040) (σ31.1 31 3)) (fun r35 => some (r35, σ31))))))
set_option maxRecDepth 100000 in
set_option maxHeartbeats 4000000 in
theorem tm_Ga_worth_F {V : Ev} {Γ : Cn} {rec : St → Nat → Int32 → Int32 → Int32 → Option (Int32 × St)} {dr : Nat} {fin : Option Value × St} {σ : St} {a0 : Nat} {p2 : Int32} {p3 : Int32} {p4 : Int32} {o : (Int32 × St)} (X : Cx V Γ M_X4_worth) (hdr : 4 ≤ dr) (hrec : ∀ {σ0 : St} {a0' : Nat} {p2' : Int32} {p3' : Int32} {p4' : Int32} {o : (Int32 × St)} (k0' : okCl a0'), rec σ0 a0' p2' p3' p4' = some o → Rs V dr M_X4_worth [.ref (V.2.2.1 + a0'), .ref (V.2.2.1 + 31), .int p2', .int p3', .int p4'] σ0 (some (.int o.1), o.2)) {A : (Int32 × St) → Prop} (k0 : okCl a0) (hr : ∀ (r : Int32) (σ9 : St), A (r, σ9) → (some (.int r), σ9) = fin) (h : Ga_worth_F rec σ a0 p2 p3 p4 = some o) (hA : A o) : Go V Γ M_X4_worth (Zm V Γ (dr + 1) fin) 0 [(0, .ref (V.2.2.1 + a0)), (1, .ref (V.2.2.1 + 31)), (2, .int p2), (3, .int p3), (4, .int p4)] [] σ := by
  unfold Ga_worth_F at h
  refine g_iload_n (pc := 0) X 3 rfl dX4_worth_0 ?_
  refine g_iconst (v := 1) (pc := 1) X rfl dX4_worth_1 ?_
  refine g_icmp_ge (pc := 2) (tgt := 34) X dX4_worth_2 rfl (fun c37 => ?_) (fun c37 => ?_)
  · replace h := if_t c37 h
    refine g_aload_n (pc := 34) X 0 rfl dX4_worth_34 ?_
    refine g_aload_n (pc := 35) X 1 rfl dX4_worth_35 ?_
    refine g_iload_n (pc := 36) X 2 rfl dX4_worth_36 ?_
    refine g_iload_n (pc := 37) X 3 rfl dX4_worth_37 ?_
    refine g_iconst (v := 1) (pc := 38) X rfl dX4_worth_38 ?_
    refine g_isub (pc := 39) X dX4_worth_39 ?_
    refine g_iload (pc := 40) X 4 rfl dX4_worth_40 ?_
    refine g_if_ne (pc := 42) (tgt := 49) X dX4_worth_42 rfl (fun c28 => ?_) (fun c28 => ?_)
    · replace h := if_f c28 h
      refine g_iconst (v := 0) (pc := 49) X rfl dX4_worth_49 ?_
      obtain ⟨r2, σ3, hc1, h⟩ := bd2_e h
      refine g_callS (pc := 50) X k_ml_X4_27 (hrec k0 hc1) rfl (room_ok (Nat.le_refl _) (Nat.le_of_ble_eq_true rfl)) ⟨Nat.le_refl _, Nat.le_refl _⟩ _ rfl (Nat.le_of_ble_eq_true rfl) dX4_worth_50 ?_
      show Go V Γ M_X4_worth (Zm V Γ (dr + 1) fin) 53 [(0, .ref (V.2.2.1 + a0)), (1, .ref (V.2.2.1 + 31)), (2, .int p2), (3, .int p3), (4, .int p4)] [.int r2] σ3
      refine g_istore (pc := 53) X [(5, .int r2), (0, .ref (V.2.2.1 + a0)), (1, .ref (V.2.2.1 + 31)), (2, .int p2), (3, .int p3), (4, .int p4)] (Nat.le_of_ble_eq_true rfl) rfl dX4_worth_53 ?_
      refine g_iconst (v := 0) (pc := 55) X rfl dX4_worth_55 ?_
      refine g_istore (pc := 56) X [(6, .int 0), (5, .int r2), (0, .ref (V.2.2.1 + a0)), (1, .ref (V.2.2.1 + 31)), (2, .int p2), (3, .int p3), (4, .int p4)] (Nat.le_of_ble_eq_true rfl) rfl dX4_worth_56 ?_
      refine g_sub [2, 3, 4, 5, 6, 1, 0] rfl ?_
      obtain ⟨v19, σ20, hi21, h⟩ := bd2_e h
      refine tl_Ga_worth_L58 X hdr hrec k0 hi21 ?_
      refine g_iload (pc := 136) X 0 rfl dX4_worth_136 ?_
      cases h
      exact g_iret (pc := 138) X rfl rfl (hr _ _ hA) dX4_worth_138
    · replace h := if_t c28 h
      refine g_iconst (v := 1) (pc := 45) X rfl dX4_worth_45 ?_
      refine g_goto (pc := 46) (tgt := 50) X dX4_worth_46 rfl ?_
      obtain ⟨r23, σ24, hc22, h⟩ := bd2_e h
      refine g_callS (pc := 50) X k_ml_X4_27 (hrec k0 hc22) rfl (room_ok (Nat.le_refl _) (Nat.le_of_ble_eq_true rfl)) ⟨Nat.le_refl _, Nat.le_refl _⟩ _ rfl (Nat.le_of_ble_eq_true rfl) dX4_worth_50 ?_
      show Go V Γ M_X4_worth (Zm V Γ (dr + 1) fin) 53 [(0, .ref (V.2.2.1 + a0)), (1, .ref (V.2.2.1 + 31)), (2, .int p2), (3, .int p3), (4, .int p4)] [.int r23] σ24
      refine g_istore (pc := 53) X [(5, .int r23), (0, .ref (V.2.2.1 + a0)), (1, .ref (V.2.2.1 + 31)), (2, .int p2), (3, .int p3), (4, .int p4)] (Nat.le_of_ble_eq_true rfl) rfl dX4_worth_53 ?_
      refine g_iconst (v := 0) (pc := 55) X rfl dX4_worth_55 ?_
      refine g_istore (pc := 56) X [(6, .int 0), (5, .int r23), (0, .ref (V.2.2.1 + a0)), (1, .ref (V.2.2.1 + 31)), (2, .int p2), (3, .int p3), (4, .int p4)] (Nat.le_of_ble_eq_true rfl) rfl dX4_worth_56 ?_
      refine g_sub [2, 3, 4, 5, 6, 1, 0] rfl ?_
      obtain ⟨v25, σ26, hi27, h⟩ := bd2_e h
      refine tl_Ga_worth_L58 X hdr hrec k0 hi27 ?_
      refine g_iload (pc := 136) X 0 rfl dX4_worth_136 ?_
      cases h
      exact g_iret (pc := 138) X rfl rfl (hr _ _ hA) dX4_worth_138
  · replace h := if_f c37 h
    refine g_aload_n (pc := 5) X 1 rfl dX4_worth_5 ?_
    refine g_aload_n (pc := 6) X 0 rfl dX4_worth_6 ?_
    refine g_iload_n (pc := 7) X 2 rfl dX4_worth_7 ?_
    obtain ⟨r30, σ31, hc29, h⟩ := bd2_e h
    refine g_callV (pc := 8) X k_ml_X4_9 (run_Si_fill k0 hc29) s_31 rfl (room_ok (by omega) (Nat.le_of_ble_eq_true rfl)) ⟨Nat.le_refl _, Nat.le_refl _⟩ _ rfl (Nat.le_of_ble_eq_true rfl) dX4_worth_8 ?_
    show Go V Γ M_X4_worth (Zm V Γ (dr + 1) fin) 11 [(0, .ref (V.2.2.1 + a0)), (1, .ref (V.2.2.1 + 31)), (2, .int p2), (3, .int p3), (4, .int p4)] [.int r30] σ31
    refine g_if_eq (pc := 11) (tgt := 32) X dX4_worth_11 rfl (fun c36 => ?_) (fun c36 => ?_)
    · replace h := if_t c36 h
      refine g_iconst (v := 0) (pc := 32) X rfl dX4_worth_32 ?_
      cases h
      exact g_iret (pc := 33) X rfl rfl (hr _ _ hA) dX4_worth_33
    · replace h := if_f c36 h
      refine g_aload_n (pc := 14) X 1 rfl dX4_worth_14 ?_
      obtain ⟨r33, hc32, h⟩ := bd_e h
      refine g_callV (pc := 15) X k_ml_X4_15 (run_Si_countGaps  hc32) s_31 rfl (room_ok (by omega) (Nat.le_of_ble_eq_true rfl)) ⟨Nat.le_refl _, Nat.le_refl _⟩ _ rfl (Nat.le_of_ble_eq_true rfl) dX4_worth_15 ?_
      show Go V Γ M_X4_worth (Zm V Γ (dr + 1) fin) 18 [(0, .ref (V.2.2.1 + a0)), (1, .ref (V.2.2.1 + 31)), (2, .int p2), (3, .int p3), (4, .int p4)] [.int r33] σ31
      refine g_sipush (v := 5040) (pc := 18) X (by decide) dX4_worth_18 ?_
      refine g_imul (pc := 21) X dX4_worth_21 ?_
      refine g_aload_n (pc := 22) X 1 rfl dX4_worth_22 ?_
      refine g_getI (pc := 23) X k_fl_X4_19 s_31 rfl dX4_worth_23 ?_
      obtain ⟨r35, hc34, h⟩ := bd_e h
      refine g_callS (pc := 26) X k_ml_X4_23 (run_RC_partBy_  hc34) rfl (room_ok (by omega) (Nat.le_of_ble_eq_true rfl)) ⟨Nat.le_refl _, Nat.le_refl _⟩ _ rfl (Nat.le_of_ble_eq_true rfl) dX4_worth_26 ?_
      show Go V Γ M_X4_worth (Zm V Γ (dr + 1) fin) 29 [(0, .ref (V.2.2.1 + a0)), (1, .ref (V.2.2.1 + 31)), (2, .int p2), (3, .int p3), (4, .int p4)] [.int r35] σ31
      refine g_goto (pc := 29) (tgt := 33) X dX4_worth_29 rfl ?_
      cases h
      exact g_iret (pc := 33) X rfl rfl (hr _ _ hA) dX4_worth_33
set_option maxRecDepth 100000 in
theorem run_Ga_worth_F {V : Ev} {rec : St → Nat → Int32 → Int32 → Int32 → Option (Int32 × St)} {dr : Nat} (hdr : 4 ≤ dr) {σ : St} {a0 : Nat} {p2 : Int32} {p3 : Int32} {p4 : Int32} {o : (Int32 × St)} (k0 : okCl a0) (hrec : ∀ {σ0 : St} {a0' : Nat} {p2' : Int32} {p3' : Int32} {p4' : Int32} {o : (Int32 × St)} (k0' : okCl a0'), rec σ0 a0' p2' p3' p4' = some o → Rs V dr M_X4_worth [.ref (V.2.2.1 + a0'), .ref (V.2.2.1 + 31), .int p2', .int p3', .int p4'] σ0 (some (.int o.1), o.2)) (h : Ga_worth_F rec σ a0 p2 p3 p4 = some o) : Rs V (dr + 1) M_X4_worth [.ref (V.2.2.1 + a0), .ref (V.2.2.1 + 31), .int p2, .int p3, .int p4] σ (some (.int o.1), o.2) := by
  refine Rs.of (by decide +kernel) (Nat.le_of_ble_eq_true rfl) (fun Γ X => ?_)
  exact tm_Ga_worth_F X hdr hrec (A := fun o1 => o1 = o) k0 (fun _ _ e => by rw [← e]) h rfl
noncomputable def Ga_worth : Nat → St → Nat → Int32 → Int32 → Int32 → Option (Int32 × St)
  | 0 => fun _ _ _ _ _ => none
  | n + 1 => fun σ a0 p2 p3 p4 => Ga_worth_F (Ga_worth n) σ a0 p2 p3 p4
theorem run_Ga_worth {V : Ev} : ∀ (n : Nat) {σ : St} {a0 : Nat} {p2 : Int32} {p3 : Int32} {p4 : Int32} {o : (Int32 × St)} (k0 : okCl a0), Ga_worth n σ a0 p2 p3 p4 = some o → Rs V (n + 4) M_X4_worth [.ref (V.2.2.1 + a0), .ref (V.2.2.1 + 31), .int p2, .int p3, .int p4] σ (some (.int o.1), o.2)
  | 0 => by intros; rename_i h; cases h
  | n + 1 => fun k0 h => run_Ga_worth_F (rec := Ga_worth n) (dr := n + 4) (Nat.le_add_left _ _) k0 (fun k0' h => run_Ga_worth n k0' h) h
theorem dX4_bestSwitch_0 : decode cX4_bestSwitch 0 = .ok (.aload_n 0, 1) := by decide +kernel
theorem dX4_bestSwitch_1 : decode cX4_bestSwitch 1 = .ok (.aload_n 1, 1) := by decide +kernel
theorem dX4_bestSwitch_2 : decode cX4_bestSwitch 2 = .ok (.aload_n 0, 1) := by decide +kernel
theorem dX4_bestSwitch_3 : decode cX4_bestSwitch 3 = .ok (.getfield 50, 3) := by decide +kernel
theorem dX4_bestSwitch_6 : decode cX4_bestSwitch 6 = .ok (.iload_n 2, 1) := by decide +kernel
theorem dX4_bestSwitch_7 : decode cX4_bestSwitch 7 = .ok (.iconst 1, 1) := by decide +kernel
theorem dX4_bestSwitch_8 : decode cX4_bestSwitch 8 = .ok (.invokestatic 27, 3) := by decide +kernel
theorem dX4_bestSwitch_11 : decode cX4_bestSwitch 11 = .ok (.istore_n 3, 1) := by decide +kernel
theorem dX4_bestSwitch_12 : decode cX4_bestSwitch 12 = .ok (.iconst 0, 1) := by decide +kernel
theorem dX4_bestSwitch_13 : decode cX4_bestSwitch 13 = .ok (.istore 4, 2) := by decide +kernel
theorem dX4_bestSwitch_15 : decode cX4_bestSwitch 15 = .ok (.iload 4, 2) := by decide +kernel
theorem dX4_bestSwitch_17 : decode cX4_bestSwitch 17 = .ok (.aload_n 0, 1) := by decide +kernel
theorem dX4_bestSwitch_18 : decode cX4_bestSwitch 18 = .ok (.getfield 33, 3) := by decide +kernel
theorem dX4_bestSwitch_21 : decode cX4_bestSwitch 21 = .ok (.if_icmp .ge 47, 3) := by decide +kernel
theorem dX4_bestSwitch_24 : decode cX4_bestSwitch 24 = .ok (.aload_n 0, 1) := by decide +kernel
theorem dX4_bestSwitch_25 : decode cX4_bestSwitch 25 = .ok (.getfield 50, 3) := by decide +kernel
theorem dX4_bestSwitch_28 : decode cX4_bestSwitch 28 = .ok (.iconst 1, 1) := by decide +kernel
theorem dX4_bestSwitch_29 : decode cX4_bestSwitch 29 = .ok (.iload 4, 2) := by decide +kernel
theorem dX4_bestSwitch_31 : decode cX4_bestSwitch 31 = .ok (.ishl, 1) := by decide +kernel
theorem dX4_bestSwitch_32 : decode cX4_bestSwitch 32 = .ok (.ixor, 1) := by decide +kernel
theorem dX4_bestSwitch_33 : decode cX4_bestSwitch 33 = .ok (.istore 5, 2) := by decide +kernel
theorem dX4_bestSwitch_35 : decode cX4_bestSwitch 35 = .ok (.aload_n 0, 1) := by decide +kernel
theorem dX4_bestSwitch_36 : decode cX4_bestSwitch 36 = .ok (.iload 5, 2) := by decide +kernel
theorem dX4_bestSwitch_38 : decode cX4_bestSwitch 38 = .ok (.invokevirtual 38, 3) := by decide +kernel
theorem dX4_bestSwitch_41 : decode cX4_bestSwitch 41 = .ok (.ifCond .eq 21, 3) := by decide +kernel
theorem dX4_bestSwitch_44 : decode cX4_bestSwitch 44 = .ok (.aload_n 0, 1) := by decide +kernel
theorem dX4_bestSwitch_45 : decode cX4_bestSwitch 45 = .ok (.aload_n 1, 1) := by decide +kernel
theorem dX4_bestSwitch_46 : decode cX4_bestSwitch 46 = .ok (.iload 5, 2) := by decide +kernel
theorem dX4_bestSwitch_48 : decode cX4_bestSwitch 48 = .ok (.iload_n 2, 1) := by decide +kernel
theorem dX4_bestSwitch_49 : decode cX4_bestSwitch 49 = .ok (.iconst 1, 1) := by decide +kernel
theorem dX4_bestSwitch_50 : decode cX4_bestSwitch 50 = .ok (.isub, 1) := by decide +kernel
theorem dX4_bestSwitch_51 : decode cX4_bestSwitch 51 = .ok (.iconst 0, 1) := by decide +kernel
theorem dX4_bestSwitch_52 : decode cX4_bestSwitch 52 = .ok (.invokestatic 27, 3) := by decide +kernel
theorem dX4_bestSwitch_55 : decode cX4_bestSwitch 55 = .ok (.iload_n 3, 1) := by decide +kernel
theorem dX4_bestSwitch_56 : decode cX4_bestSwitch 56 = .ok (.if_icmp .ne 6, 3) := by decide +kernel
theorem dX4_bestSwitch_59 : decode cX4_bestSwitch 59 = .ok (.iload 4, 2) := by decide +kernel
theorem dX4_bestSwitch_61 : decode cX4_bestSwitch 61 = .ok (.ireturn, 1) := by decide +kernel
theorem dX4_bestSwitch_62 : decode cX4_bestSwitch 62 = .ok (.iinc 4 1, 3) := by decide +kernel
theorem dX4_bestSwitch_65 : decode cX4_bestSwitch 65 = .ok (.goto (-50), 3) := by decide +kernel
theorem dX4_bestSwitch_68 : decode cX4_bestSwitch 68 = .ok (.iconst (-1), 1) := by decide +kernel
theorem dX4_bestSwitch_69 : decode cX4_bestSwitch 69 = .ok (.ireturn, 1) := by decide +kernel
noncomputable def Ga_bestSwitch_L15 (l0 : Nat) (l2 : Int32) (l3 : Int32) (σ : St) (x4 : Int32) : Option ((Int32 × St) ⊕ (Int32 × St)) :=
  if (σ.1 l0 3) ≤ x4 then (some (.inr ((-1), σ))) else (bnd (((σ.1 l0 4) ^^^ (1 <<< (x4 &&& 31)))) (fun v4 => bd (Cl_spanOf σ l0 v4) (fun r6 => if r6 = 0 then (bnd (x4 + 1) (fun v7 => some (.inl (v7, σ)))) else (bd2 (Ga_worth 60 σ l0 v4 (l2 - 1) 0) (fun r9 σ10 => if r9 = l3 then (some (.inr (x4, σ10))) else (bnd (x4 + 1) (fun v11 => some (.inl (v11, σ10)))))))))
set_option maxRecDepth 100000 in
set_option maxHeartbeats 4000000 in
theorem tb_Ga_bestSwitch_L15 {V : Ev} {Γ : Cn} {fin : Option Value × St} {l0 : Nat} {l2 : Int32} {l3 : Int32} {σ : St} {x4 : Int32} {o : ((Int32 × St) ⊕ (Int32 × St))} (X : Cx V Γ M_X4_bestSwitch) {A : ((Int32 × St) ⊕ (Int32 × St)) → Prop} (k_l0 : okCl l0) (hr : ∀ (r : Int32) (σ9 : St), A (.inr (r, σ9)) → (some (.int r), σ9) = fin) (hb15 : ∀ (x4 : Int32) (σ9 : St), A (.inl (x4, σ9)) → Go V Γ M_X4_bestSwitch (Zm V Γ 65 fin) 15 [(0, .ref (V.2.2.1 + l0)), (1, .ref (V.2.2.1 + 31)), (2, .int l2), (3, .int l3), (4, .int x4)] [] σ9) (h : Ga_bestSwitch_L15 l0 l2 l3 σ x4 = some o) (hA : A o) : Go V Γ M_X4_bestSwitch (Zm V Γ 65 fin) 15 [(0, .ref (V.2.2.1 + l0)), (1, .ref (V.2.2.1 + 31)), (2, .int l2), (3, .int l3), (4, .int x4)] [] σ := by
  unfold Ga_bestSwitch_L15 at h
  refine g_iload (pc := 15) X 4 rfl dX4_bestSwitch_15 ?_
  refine g_aload_n (pc := 17) X 0 rfl dX4_bestSwitch_17 ?_
  refine g_getI (pc := 18) X k_fl_X4_33 (sCl_0 k_l0) rfl dX4_bestSwitch_18 ?_
  refine g_icmp_ge (pc := 21) (tgt := 68) X dX4_bestSwitch_21 rfl (fun c14 => ?_) (fun c14 => ?_)
  · replace h := if_t c14 h
    refine g_iconst (v := (-1)) (pc := 68) X rfl dX4_bestSwitch_68 ?_
    cases h
    exact g_iret (pc := 69) X rfl rfl (hr _ _ hA) dX4_bestSwitch_69
  · replace h := if_f c14 h
    refine g_aload_n (pc := 24) X 0 rfl dX4_bestSwitch_24 ?_
    refine g_getI (pc := 25) X k_fl_X4_50 (sCl_0 k_l0) rfl dX4_bestSwitch_25 ?_
    refine g_iconst (v := 1) (pc := 28) X rfl dX4_bestSwitch_28 ?_
    refine g_iload (pc := 29) X 4 rfl dX4_bestSwitch_29 ?_
    refine g_ishl (pc := 31) X dX4_bestSwitch_31 ?_
    refine g_ixor (pc := 32) X dX4_bestSwitch_32 ?_
    obtain ⟨v4, e_v4, h⟩ := bnd_e h
    refine g_nmI e_v4 ?_
    refine g_istore (pc := 33) X [(5, .int v4), (0, .ref (V.2.2.1 + l0)), (1, .ref (V.2.2.1 + 31)), (2, .int l2), (3, .int l3), (4, .int x4)] (Nat.le_of_ble_eq_true rfl) rfl dX4_bestSwitch_33 ?_
    refine g_aload_n (pc := 35) X 1 rfl dX4_bestSwitch_35 ?_
    refine g_iload (pc := 36) X 0 rfl dX4_bestSwitch_36 ?_
    obtain ⟨r6, hc5, h⟩ := bd_e h
    refine g_callV (pc := 38) X k_ml_X4_38 (run_Cl_spanOf k_l0 hc5) (sCl_0 k_l0) rfl (room_ok (Nat.le_of_ble_eq_true rfl) (Nat.le_of_ble_eq_true rfl)) ⟨Nat.le_refl _, Nat.le_refl _⟩ _ rfl (Nat.le_of_ble_eq_true rfl) dX4_bestSwitch_38 ?_
    show Go V Γ M_X4_bestSwitch (Zm V Γ 65 fin) 41 [(5, .int v4), (0, .ref (V.2.2.1 + l0)), (1, .ref (V.2.2.1 + 31)), (2, .int l2), (3, .int l3), (4, .int x4)] [.int r6] σ
    refine g_if_eq (pc := 41) (tgt := 62) X dX4_bestSwitch_41 rfl (fun c13 => ?_) (fun c13 => ?_)
    · replace h := if_t c13 h
      obtain ⟨v7, e_v7, h⟩ := bnd_e h
      refine g_iinc (pc := 62) (v := v7) X [(4, .int v7), (5, .int v4), (0, .ref (V.2.2.1 + l0)), (1, .ref (V.2.2.1 + 31)), (2, .int l2), (3, .int l3)] 5 rfl (by rw [e_v7]; rfl) (Nat.le_of_ble_eq_true rfl) rfl dX4_bestSwitch_62 ?_
      refine g_goto (pc := 65) (tgt := 15) X dX4_bestSwitch_65 rfl ?_
      refine g_sub [2, 3, 4, 5, 0] rfl ?_
      cases h
      exact hb15 _ _ hA
    · replace h := if_f c13 h
      refine g_aload_n (pc := 44) X 1 rfl dX4_bestSwitch_44 ?_
      refine g_aload_n (pc := 45) X 2 rfl dX4_bestSwitch_45 ?_
      refine g_iload (pc := 46) X 0 rfl dX4_bestSwitch_46 ?_
      refine g_iload_n (pc := 48) X 3 rfl dX4_bestSwitch_48 ?_
      refine g_iconst (v := 1) (pc := 49) X rfl dX4_bestSwitch_49 ?_
      refine g_isub (pc := 50) X dX4_bestSwitch_50 ?_
      refine g_iconst (v := 0) (pc := 51) X rfl dX4_bestSwitch_51 ?_
      obtain ⟨r9, σ10, hc8, h⟩ := bd2_e h
      refine g_callS (pc := 52) X k_ml_X4_27 (run_Ga_worth 60 k_l0 hc8) rfl (room_ok (Nat.le_of_ble_eq_true rfl) (Nat.le_of_ble_eq_true rfl)) ⟨Nat.le_refl _, Nat.le_refl _⟩ _ rfl (Nat.le_of_ble_eq_true rfl) dX4_bestSwitch_52 ?_
      show Go V Γ M_X4_bestSwitch (Zm V Γ 65 fin) 55 [(5, .int v4), (0, .ref (V.2.2.1 + l0)), (1, .ref (V.2.2.1 + 31)), (2, .int l2), (3, .int l3), (4, .int x4)] [.int r9] σ10
      refine g_iload_n (pc := 55) X 4 rfl dX4_bestSwitch_55 ?_
      refine g_icmp_ne (pc := 56) (tgt := 62) X dX4_bestSwitch_56 rfl (fun c12 => ?_) (fun c12 => ?_)
      · replace h := if_f c12 h
        obtain ⟨v11, e_v11, h⟩ := bnd_e h
        refine g_iinc (pc := 62) (v := v11) X [(4, .int v11), (5, .int v4), (0, .ref (V.2.2.1 + l0)), (1, .ref (V.2.2.1 + 31)), (2, .int l2), (3, .int l3)] 5 rfl (by rw [e_v11]; rfl) (Nat.le_of_ble_eq_true rfl) rfl dX4_bestSwitch_62 ?_
        refine g_goto (pc := 65) (tgt := 15) X dX4_bestSwitch_65 rfl ?_
        refine g_sub [2, 3, 4, 5, 0] rfl ?_
        cases h
        exact hb15 _ _ hA
      · replace h := if_t c12 h
        refine g_iload (pc := 59) X 5 rfl dX4_bestSwitch_59 ?_
        cases h
        exact g_iret (pc := 61) X rfl rfl (hr _ _ hA) dX4_bestSwitch_61
set_option maxRecDepth 100000 in
theorem tl_Ga_bestSwitch_L15 {V : Ev} {Γ : Cn} {fin : Option Value × St} {l0 : Nat} {l2 : Int32} {l3 : Int32} {x4 : Int32} {σ9 : St} (X : Cx V Γ M_X4_bestSwitch) (k_l0 : okCl l0) {e : (Int32 × St)} {A : (Int32 × St) → Prop} (hr : ∀ (r : Int32) (σ9 : St), A (r, σ9) → (some (.int r), σ9) = fin) {n : Nat} (h : iter (fun s : (Int32 × St) => Ga_bestSwitch_L15 l0 l2 l3 s.2 s.1) n (x4, σ9) = some e) (hA : A e) : Go V Γ M_X4_bestSwitch (Zm V Γ 65 fin) 15 [(0, .ref (V.2.2.1 + l0)), (1, .ref (V.2.2.1 + 31)), (2, .int l2), (3, .int l3), (4, .int x4)] [] σ9 := by
  refine iter_go (G := (fun s : (Int32 × St) => Go V Γ M_X4_bestSwitch (Zm V Γ 65 fin) 15 [(0, .ref (V.2.2.1 + l0)), (1, .ref (V.2.2.1 + 31)), (2, .int l2), (3, .int l3), (4, .int s.1)] [] s.2)) (fun s o ho hS => ?_) n (x4, σ9) h
  exact tb_Ga_bestSwitch_L15 X k_l0 (fun z0 z1 he => hr z0 z1 (by rw [he]; exact hA)) (fun _ _ h9 => h9) ho hS
noncomputable def Ga_bestSwitch (σ : St) (a0 : Nat) (p2 : Int32) : Option (Int32 × St) :=
  bd2 (Ga_worth 60 σ a0 (σ.1 a0 4) p2 1) (fun r2 σ3 => iter (fun s : (Int32 × St) => Ga_bestSwitch_L15 a0 p2 r2 s.2 s.1) FUEL (0, σ3))
set_option maxRecDepth 100000 in
set_option maxHeartbeats 4000000 in
theorem tm_Ga_bestSwitch {V : Ev} {Γ : Cn} {fin : Option Value × St} {σ : St} {a0 : Nat} {p2 : Int32} {o : (Int32 × St)} (X : Cx V Γ M_X4_bestSwitch) {A : (Int32 × St) → Prop} (k0 : okCl a0) (hr : ∀ (r : Int32) (σ9 : St), A (r, σ9) → (some (.int r), σ9) = fin) (h : Ga_bestSwitch σ a0 p2 = some o) (hA : A o) : Go V Γ M_X4_bestSwitch (Zm V Γ 65 fin) 0 [(0, .ref (V.2.2.1 + a0)), (1, .ref (V.2.2.1 + 31)), (2, .int p2)] [] σ := by
  unfold Ga_bestSwitch at h
  refine g_aload_n (pc := 0) X 0 rfl dX4_bestSwitch_0 ?_
  refine g_aload_n (pc := 1) X 1 rfl dX4_bestSwitch_1 ?_
  refine g_aload_n (pc := 2) X 0 rfl dX4_bestSwitch_2 ?_
  refine g_getI (pc := 3) X k_fl_X4_50 (sCl_0 k0) rfl dX4_bestSwitch_3 ?_
  refine g_iload_n (pc := 6) X 2 rfl dX4_bestSwitch_6 ?_
  refine g_iconst (v := 1) (pc := 7) X rfl dX4_bestSwitch_7 ?_
  obtain ⟨r2, σ3, hc1, h⟩ := bd2_e h
  refine g_callS (pc := 8) X k_ml_X4_27 (run_Ga_worth 60 k0 hc1) rfl (room_ok (Nat.le_of_ble_eq_true rfl) (Nat.le_of_ble_eq_true rfl)) ⟨Nat.le_refl _, Nat.le_refl _⟩ _ rfl (Nat.le_of_ble_eq_true rfl) dX4_bestSwitch_8 ?_
  show Go V Γ M_X4_bestSwitch (Zm V Γ 65 fin) 11 [(0, .ref (V.2.2.1 + a0)), (1, .ref (V.2.2.1 + 31)), (2, .int p2)] [.int r2] σ3
  refine g_istore_n (pc := 11) X [(3, .int r2), (0, .ref (V.2.2.1 + a0)), (1, .ref (V.2.2.1 + 31)), (2, .int p2)] rfl (Nat.le_of_ble_eq_true rfl) rfl dX4_bestSwitch_11 ?_
  refine g_iconst (v := 0) (pc := 12) X rfl dX4_bestSwitch_12 ?_
  refine g_istore (pc := 13) X [(4, .int 0), (3, .int r2), (0, .ref (V.2.2.1 + a0)), (1, .ref (V.2.2.1 + 31)), (2, .int p2)] (Nat.le_of_ble_eq_true rfl) rfl dX4_bestSwitch_13 ?_
  refine g_sub [2, 3, 4, 1, 0] rfl ?_
  exact tl_Ga_bestSwitch_L15 X k0 hr h hA
set_option maxRecDepth 100000 in
theorem run_Ga_bestSwitch {V : Ev} {σ : St} {a0 : Nat} {p2 : Int32} {o : (Int32 × St)} (k0 : okCl a0)  (h : Ga_bestSwitch σ a0 p2 = some o) : Rs V 65 M_X4_bestSwitch [.ref (V.2.2.1 + a0), .ref (V.2.2.1 + 31), .int p2] σ (some (.int o.1), o.2) := by
  refine Rs.of (by decide +kernel) (Nat.le_of_ble_eq_true rfl) (fun Γ X => ?_)
  exact tm_Ga_bestSwitch X (A := fun o1 => o1 = o) k0 (fun _ _ e => by rw [← e]) h rfl
theorem dX5_behindEnd_0 : decode cX5_behindEnd 0 = .ok (.aload_n 1, 1) := by decide +kernel
theorem dX5_behindEnd_1 : decode cX5_behindEnd 1 = .ok (.getfield 62, 3) := by decide +kernel
theorem dX5_behindEnd_4 : decode cX5_behindEnd 4 = .ok (.iload_n 2, 1) := by decide +kernel
theorem dX5_behindEnd_5 : decode cX5_behindEnd 5 = .ok (.iaload, 1) := by decide +kernel
theorem dX5_behindEnd_6 : decode cX5_behindEnd 6 = .ok (.istore_n 3, 1) := by decide +kernel
theorem dX5_behindEnd_7 : decode cX5_behindEnd 7 = .ok (.iload_n 3, 1) := by decide +kernel
theorem dX5_behindEnd_8 : decode cX5_behindEnd 8 = .ok (.ifCond .lt 14, 3) := by decide +kernel
theorem dX5_behindEnd_11 : decode cX5_behindEnd 11 = .ok (.aload_n 1, 1) := by decide +kernel
theorem dX5_behindEnd_12 : decode cX5_behindEnd 12 = .ok (.getfield 51, 3) := by decide +kernel
theorem dX5_behindEnd_15 : decode cX5_behindEnd 15 = .ok (.iload_n 3, 1) := by decide +kernel
theorem dX5_behindEnd_16 : decode cX5_behindEnd 16 = .ok (.iaload, 1) := by decide +kernel
theorem dX5_behindEnd_17 : decode cX5_behindEnd 17 = .ok (.bipush 23, 2) := by decide +kernel
theorem dX5_behindEnd_19 : decode cX5_behindEnd 19 = .ok (.if_icmp .eq 7, 3) := by decide +kernel
theorem dX5_behindEnd_22 : decode cX5_behindEnd 22 = .ok (.iload_n 2, 1) := by decide +kernel
theorem dX5_behindEnd_23 : decode cX5_behindEnd 23 = .ok (.iconst 1, 1) := by decide +kernel
theorem dX5_behindEnd_24 : decode cX5_behindEnd 24 = .ok (.iadd, 1) := by decide +kernel
theorem dX5_behindEnd_25 : decode cX5_behindEnd 25 = .ok (.ireturn, 1) := by decide +kernel
theorem dX5_behindEnd_26 : decode cX5_behindEnd 26 = .ok (.aload_n 0, 1) := by decide +kernel
theorem dX5_behindEnd_27 : decode cX5_behindEnd 27 = .ok (.getfield 11, 3) := by decide +kernel
theorem dX5_behindEnd_30 : decode cX5_behindEnd 30 = .ok (.iload_n 3, 1) := by decide +kernel
theorem dX5_behindEnd_31 : decode cX5_behindEnd 31 = .ok (.dup2, 1) := by decide +kernel
theorem dX5_behindEnd_32 : decode cX5_behindEnd 32 = .ok (.iaload, 1) := by decide +kernel
theorem dX5_behindEnd_33 : decode cX5_behindEnd 33 = .ok (.iconst 1, 1) := by decide +kernel
theorem dX5_behindEnd_34 : decode cX5_behindEnd 34 = .ok (.isub, 1) := by decide +kernel
theorem dX5_behindEnd_35 : decode cX5_behindEnd 35 = .ok (.iastore, 1) := by decide +kernel
theorem dX5_behindEnd_36 : decode cX5_behindEnd 36 = .ok (.aload_n 0, 1) := by decide +kernel
theorem dX5_behindEnd_37 : decode cX5_behindEnd 37 = .ok (.getfield 11, 3) := by decide +kernel
theorem dX5_behindEnd_40 : decode cX5_behindEnd 40 = .ok (.iload_n 3, 1) := by decide +kernel
theorem dX5_behindEnd_41 : decode cX5_behindEnd 41 = .ok (.iaload, 1) := by decide +kernel
theorem dX5_behindEnd_42 : decode cX5_behindEnd 42 = .ok (.ifCond .le 9, 3) := by decide +kernel
theorem dX5_behindEnd_45 : decode cX5_behindEnd 45 = .ok (.iload_n 3, 1) := by decide +kernel
theorem dX5_behindEnd_46 : decode cX5_behindEnd 46 = .ok (.iconst 1, 1) := by decide +kernel
theorem dX5_behindEnd_47 : decode cX5_behindEnd 47 = .ok (.iadd, 1) := by decide +kernel
theorem dX5_behindEnd_48 : decode cX5_behindEnd 48 = .ok (.goto 6, 3) := by decide +kernel
theorem dX5_behindEnd_51 : decode cX5_behindEnd 51 = .ok (.iload_n 2, 1) := by decide +kernel
theorem dX5_behindEnd_52 : decode cX5_behindEnd 52 = .ok (.iconst 1, 1) := by decide +kernel
theorem dX5_behindEnd_53 : decode cX5_behindEnd 53 = .ok (.iadd, 1) := by decide +kernel
theorem dX5_behindEnd_54 : decode cX5_behindEnd 54 = .ok (.ireturn, 1) := by decide +kernel
noncomputable def Li_behindEnd (σ : St) (a0 : Nat) (a1 : Nat) (p2 : Int32) : Option (Int32 × St) :=
  chk (ix p2 60) (bnd ((σ.1 (a1 + 6) (tn p2))) (fun v2 => if v2 < 0 then (some ((p2 + 1), σ)) else (chk (ix v2 60) (if (σ.1 (a1 + 1) (tn v2)) = 23 then (chk (ix v2 60) (chk (ix v2 60) (bnd (wI σ (a0 + 1) (tn v2) ((σ.1 (a0 + 1) (tn v2)) - 1)) (fun σ6 => chk (ix v2 60) (if (σ6.1 (a0 + 1) (tn v2)) ≤ 0 then (some ((p2 + 1), σ6)) else (some ((v2 + 1), σ6))))))) else (some ((p2 + 1), σ))))))
set_option maxRecDepth 100000 in
set_option maxHeartbeats 4000000 in
theorem tm_Li_behindEnd {V : Ev} {Γ : Cn} {fin : Option Value × St} {σ : St} {a0 : Nat} {a1 : Nat} {p2 : Int32} {o : (Int32 × St)} (X : Cx V Γ M_X5_behindEnd) {A : (Int32 × St) → Prop} (k0 : okLi a0) (k1 : okDa a1) (hr : ∀ (r : Int32) (σ9 : St), A (r, σ9) → (some (.int r), σ9) = fin) (h : Li_behindEnd σ a0 a1 p2 = some o) (hA : A o) : Go V Γ M_X5_behindEnd (Zm V Γ 0 fin) 0 [(0, .ref (V.2.2.1 + a0)), (1, .ref (V.2.2.1 + a1)), (2, .int p2)] [] σ := by
  unfold Li_behindEnd at h
  refine g_aload_n (pc := 0) X 1 rfl dX5_behindEnd_0 ?_
  refine g_getR (r := (a1 + 6)) (pc := 1) X k_fl_X5_62 (sDa_0 k1) rfl dX5_behindEnd_1 ?_
  refine g_iload_n (pc := 4) X 2 rfl dX5_behindEnd_4 ?_
  obtain ⟨c1, h⟩ := chk_e h
  refine g_iald (pc := 5) X (sDa_6 k1) c1 dX5_behindEnd_5 ?_
  obtain ⟨v2, e_v2, h⟩ := bnd_e h
  refine g_nmI e_v2 ?_
  refine g_istore_n (pc := 6) X [(3, .int v2), (0, .ref (V.2.2.1 + a0)), (1, .ref (V.2.2.1 + a1)), (2, .int p2)] rfl (Nat.le_of_ble_eq_true rfl) rfl dX5_behindEnd_6 ?_
  refine g_iload_n (pc := 7) X 0 rfl dX5_behindEnd_7 ?_
  refine g_if_lt (pc := 8) (tgt := 22) X dX5_behindEnd_8 rfl (fun c10 => ?_) (fun c10 => ?_)
  · replace h := if_t c10 h
    refine g_iload_n (pc := 22) X 3 rfl dX5_behindEnd_22 ?_
    refine g_iconst (v := 1) (pc := 23) X rfl dX5_behindEnd_23 ?_
    refine g_iadd (pc := 24) X dX5_behindEnd_24 ?_
    cases h
    exact g_iret (pc := 25) X rfl rfl (hr _ _ hA) dX5_behindEnd_25
  · replace h := if_f c10 h
    refine g_aload_n (pc := 11) X 2 rfl dX5_behindEnd_11 ?_
    refine g_getR (r := (a1 + 1)) (pc := 12) X k_fl_X5_51 (sDa_0 k1) rfl dX5_behindEnd_12 ?_
    refine g_iload_n (pc := 15) X 0 rfl dX5_behindEnd_15 ?_
    obtain ⟨c3, h⟩ := chk_e h
    refine g_iald (pc := 16) X (sDa_1 k1) c3 dX5_behindEnd_16 ?_
    refine g_bipush (v := 23) (pc := 17) X (by decide) dX5_behindEnd_17 ?_
    refine g_icmp_eq (pc := 19) (tgt := 26) X dX5_behindEnd_19 rfl (fun c9 => ?_) (fun c9 => ?_)
    · replace h := if_t c9 h
      refine g_aload_n (pc := 26) X 1 rfl dX5_behindEnd_26 ?_
      refine g_getR (r := (a0 + 1)) (pc := 27) X k_fl_X5_11 (sLi_0 k0) rfl dX5_behindEnd_27 ?_
      refine g_iload_n (pc := 30) X 0 rfl dX5_behindEnd_30 ?_
      refine g_dup2 (pc := 31) X rfl rfl dX5_behindEnd_31 ?_
      obtain ⟨c4, h⟩ := chk_e h
      refine g_iald (pc := 32) X (sLi_1 k0) c4 dX5_behindEnd_32 ?_
      refine g_iconst (v := 1) (pc := 33) X rfl dX5_behindEnd_33 ?_
      refine g_isub (pc := 34) X dX5_behindEnd_34 ?_
      obtain ⟨c5, h⟩ := chk_e h
      refine g_iast (pc := 35) X (sLi_1 k0) c5 dX5_behindEnd_35 ?_
      obtain ⟨σ6, e_σ6, h⟩ := bnd_e h
      refine g_nmS e_σ6 ?_
      refine g_aload_n (pc := 36) X 1 rfl dX5_behindEnd_36 ?_
      refine g_getR (r := (a0 + 1)) (pc := 37) X k_fl_X5_11 (sLi_0 k0) rfl dX5_behindEnd_37 ?_
      refine g_iload_n (pc := 40) X 0 rfl dX5_behindEnd_40 ?_
      obtain ⟨c7, h⟩ := chk_e h
      refine g_iald (pc := 41) X (sLi_1 k0) c7 dX5_behindEnd_41 ?_
      refine g_if_le (pc := 42) (tgt := 51) X dX5_behindEnd_42 rfl (fun c8 => ?_) (fun c8 => ?_)
      · replace h := if_t c8 h
        refine g_iload_n (pc := 51) X 3 rfl dX5_behindEnd_51 ?_
        refine g_iconst (v := 1) (pc := 52) X rfl dX5_behindEnd_52 ?_
        refine g_iadd (pc := 53) X dX5_behindEnd_53 ?_
        cases h
        exact g_iret (pc := 54) X rfl rfl (hr _ _ hA) dX5_behindEnd_54
      · replace h := if_f c8 h
        refine g_iload_n (pc := 45) X 0 rfl dX5_behindEnd_45 ?_
        refine g_iconst (v := 1) (pc := 46) X rfl dX5_behindEnd_46 ?_
        refine g_iadd (pc := 47) X dX5_behindEnd_47 ?_
        refine g_goto (pc := 48) (tgt := 54) X dX5_behindEnd_48 rfl ?_
        cases h
        exact g_iret (pc := 54) X rfl rfl (hr _ _ hA) dX5_behindEnd_54
    · replace h := if_f c9 h
      refine g_iload_n (pc := 22) X 3 rfl dX5_behindEnd_22 ?_
      refine g_iconst (v := 1) (pc := 23) X rfl dX5_behindEnd_23 ?_
      refine g_iadd (pc := 24) X dX5_behindEnd_24 ?_
      cases h
      exact g_iret (pc := 25) X rfl rfl (hr _ _ hA) dX5_behindEnd_25
set_option maxRecDepth 100000 in
theorem run_Li_behindEnd {V : Ev} {σ : St} {a0 : Nat} {a1 : Nat} {p2 : Int32} {o : (Int32 × St)} (k0 : okLi a0) (k1 : okDa a1)  (h : Li_behindEnd σ a0 a1 p2 = some o) : Rs V 0 M_X5_behindEnd [.ref (V.2.2.1 + a0), .ref (V.2.2.1 + a1), .int p2] σ (some (.int o.1), o.2) := by
  refine Rs.of (by decide +kernel) (Nat.le_of_ble_eq_true rfl) (fun Γ X => ?_)
  exact tm_Li_behindEnd X (A := fun o1 => o1 = o) k0 k1 (fun _ _ e => by rw [← e]) h rfl
theorem dX5_compares_0 : decode cX5_compares 0 = .ok (.iload_n 1, 1) := by decide +kernel
theorem dX5_compares_1 : decode cX5_compares 1 = .ok (.bipush 6, 2) := by decide +kernel
theorem dX5_compares_3 : decode cX5_compares 3 = .ok (.if_icmp .ne 14, 3) := by decide +kernel
theorem dX5_compares_6 : decode cX5_compares 6 = .ok (.iload_n 0, 1) := by decide +kernel
theorem dX5_compares_7 : decode cX5_compares 7 = .ok (.iload_n 2, 1) := by decide +kernel
theorem dX5_compares_8 : decode cX5_compares 8 = .ok (.if_icmp .ge 7, 3) := by decide +kernel
theorem dX5_compares_11 : decode cX5_compares 11 = .ok (.iconst 1, 1) := by decide +kernel
theorem dX5_compares_12 : decode cX5_compares 12 = .ok (.goto 4, 3) := by decide +kernel
theorem dX5_compares_15 : decode cX5_compares 15 = .ok (.iconst 0, 1) := by decide +kernel
theorem dX5_compares_16 : decode cX5_compares 16 = .ok (.ireturn, 1) := by decide +kernel
theorem dX5_compares_17 : decode cX5_compares 17 = .ok (.iload_n 1, 1) := by decide +kernel
theorem dX5_compares_18 : decode cX5_compares 18 = .ok (.bipush 7, 2) := by decide +kernel
theorem dX5_compares_20 : decode cX5_compares 20 = .ok (.if_icmp .ne 16, 3) := by decide +kernel
theorem dX5_compares_23 : decode cX5_compares 23 = .ok (.iload_n 0, 1) := by decide +kernel
theorem dX5_compares_24 : decode cX5_compares 24 = .ok (.iload_n 2, 1) := by decide +kernel
theorem dX5_compares_25 : decode cX5_compares 25 = .ok (.if_icmp .le 7, 3) := by decide +kernel
theorem dX5_compares_28 : decode cX5_compares 28 = .ok (.iconst 1, 1) := by decide +kernel
theorem dX5_compares_29 : decode cX5_compares 29 = .ok (.goto 17, 3) := by decide +kernel
theorem dX5_compares_32 : decode cX5_compares 32 = .ok (.iconst 0, 1) := by decide +kernel
theorem dX5_compares_33 : decode cX5_compares 33 = .ok (.goto 13, 3) := by decide +kernel
theorem dX5_compares_36 : decode cX5_compares 36 = .ok (.iload_n 0, 1) := by decide +kernel
theorem dX5_compares_37 : decode cX5_compares 37 = .ok (.iload_n 2, 1) := by decide +kernel
theorem dX5_compares_38 : decode cX5_compares 38 = .ok (.if_icmp .ne 7, 3) := by decide +kernel
theorem dX5_compares_41 : decode cX5_compares 41 = .ok (.iconst 1, 1) := by decide +kernel
theorem dX5_compares_42 : decode cX5_compares 42 = .ok (.goto 4, 3) := by decide +kernel
theorem dX5_compares_45 : decode cX5_compares 45 = .ok (.iconst 0, 1) := by decide +kernel
theorem dX5_compares_46 : decode cX5_compares 46 = .ok (.ireturn, 1) := by decide +kernel
noncomputable def Li_compares (p0 : Int32) (p1 : Int32) (p2 : Int32) : Option Int32 :=
  if p1 = 6 then (if p2 ≤ p0 then (some 0) else (some 1)) else (if p1 = 7 then (if p0 ≤ p2 then (some 0) else (some 1)) else (if p0 = p2 then (some 1) else (some 0)))
set_option maxRecDepth 100000 in
set_option maxHeartbeats 4000000 in
theorem tm_Li_compares {V : Ev} {Γ : Cn} {fin : Option Value × St} {σ : St} {p0 : Int32} {p1 : Int32} {p2 : Int32} {o : Int32} (X : Cx V Γ M_X5_compares) {A : Int32 → Prop}  (hr : ∀ (r : Int32), A r → (some (.int r), σ) = fin) (h : Li_compares p0 p1 p2 = some o) (hA : A o) : Go V Γ M_X5_compares (Zm V Γ 0 fin) 0 [(0, .int p0), (1, .int p1), (2, .int p2)] [] σ := by
  unfold Li_compares at h
  refine g_iload_n (pc := 0) X 1 rfl dX5_compares_0 ?_
  refine g_bipush (v := 6) (pc := 1) X (by decide) dX5_compares_1 ?_
  refine g_icmp_ne (pc := 3) (tgt := 17) X dX5_compares_3 rfl (fun c5 => ?_) (fun c5 => ?_)
  · replace h := if_f c5 h
    refine g_iload_n (pc := 17) X 1 rfl dX5_compares_17 ?_
    refine g_bipush (v := 7) (pc := 18) X (by decide) dX5_compares_18 ?_
    refine g_icmp_ne (pc := 20) (tgt := 36) X dX5_compares_20 rfl (fun c3 => ?_) (fun c3 => ?_)
    · replace h := if_f c3 h
      refine g_iload_n (pc := 36) X 0 rfl dX5_compares_36 ?_
      refine g_iload_n (pc := 37) X 2 rfl dX5_compares_37 ?_
      refine g_icmp_ne (pc := 38) (tgt := 45) X dX5_compares_38 rfl (fun c1 => ?_) (fun c1 => ?_)
      · replace h := if_f c1 h
        refine g_iconst (v := 0) (pc := 45) X rfl dX5_compares_45 ?_
        cases h
        exact g_iret (pc := 46) X rfl nz0.1 (hr _ hA) dX5_compares_46
      · replace h := if_t c1 h
        refine g_iconst (v := 1) (pc := 41) X rfl dX5_compares_41 ?_
        refine g_goto (pc := 42) (tgt := 46) X dX5_compares_42 rfl ?_
        cases h
        exact g_iret (pc := 46) X rfl nz1.1 (hr _ hA) dX5_compares_46
    · replace h := if_t c3 h
      refine g_iload_n (pc := 23) X 0 rfl dX5_compares_23 ?_
      refine g_iload_n (pc := 24) X 2 rfl dX5_compares_24 ?_
      refine g_icmp_le (pc := 25) (tgt := 32) X dX5_compares_25 rfl (fun c2 => ?_) (fun c2 => ?_)
      · replace h := if_t c2 h
        refine g_iconst (v := 0) (pc := 32) X rfl dX5_compares_32 ?_
        refine g_goto (pc := 33) (tgt := 46) X dX5_compares_33 rfl ?_
        cases h
        exact g_iret (pc := 46) X rfl nz0.1 (hr _ hA) dX5_compares_46
      · replace h := if_f c2 h
        refine g_iconst (v := 1) (pc := 28) X rfl dX5_compares_28 ?_
        refine g_goto (pc := 29) (tgt := 46) X dX5_compares_29 rfl ?_
        cases h
        exact g_iret (pc := 46) X rfl nz1.1 (hr _ hA) dX5_compares_46
  · replace h := if_t c5 h
    refine g_iload_n (pc := 6) X 0 rfl dX5_compares_6 ?_
    refine g_iload_n (pc := 7) X 2 rfl dX5_compares_7 ?_
    refine g_icmp_ge (pc := 8) (tgt := 15) X dX5_compares_8 rfl (fun c4 => ?_) (fun c4 => ?_)
    · replace h := if_t c4 h
      refine g_iconst (v := 0) (pc := 15) X rfl dX5_compares_15 ?_
      cases h
      exact g_iret (pc := 16) X rfl nz0.1 (hr _ hA) dX5_compares_16
    · replace h := if_f c4 h
      refine g_iconst (v := 1) (pc := 11) X rfl dX5_compares_11 ?_
      refine g_goto (pc := 12) (tgt := 16) X dX5_compares_12 rfl ?_
      cases h
      exact g_iret (pc := 16) X rfl nz1.1 (hr _ hA) dX5_compares_16
set_option maxRecDepth 100000 in
theorem run_Li_compares {V : Ev} {σ : St} {p0 : Int32} {p1 : Int32} {p2 : Int32} {o : Int32}   (h : Li_compares p0 p1 p2 = some o) : Rs V 0 M_X5_compares [.int p0, .int p1, .int p2] σ (some (.int o), σ) := by
  refine Rs.of (by decide +kernel) (Nat.le_of_ble_eq_true rfl) (fun Γ X => ?_)
  exact tm_Li_compares X (A := fun o1 => o1 = o)  (fun _ e => by rw [e]) h rfl
theorem dX5_isSo_0 : decode cX5_isSo 0 = .ok (.aload_n 1, 1) := by decide +kernel
theorem dX5_isSo_1 : decode cX5_isSo 1 = .ok (.getfield 71, 3) := by decide +kernel
theorem dX5_isSo_4 : decode cX5_isSo 4 = .ok (.iload_n 2, 1) := by decide +kernel
theorem dX5_isSo_5 : decode cX5_isSo 5 = .ok (.iaload, 1) := by decide +kernel
theorem dX5_isSo_6 : decode cX5_isSo 6 = .ok (.istore 4, 2) := by decide +kernel
theorem dX5_isSo_8 : decode cX5_isSo 8 = .ok (.aload_n 1, 1) := by decide +kernel
theorem dX5_isSo_9 : decode cX5_isSo 9 = .ok (.getfield 89, 3) := by decide +kernel
theorem dX5_isSo_12 : decode cX5_isSo 12 = .ok (.iload_n 2, 1) := by decide +kernel
theorem dX5_isSo_13 : decode cX5_isSo 13 = .ok (.iaload, 1) := by decide +kernel
theorem dX5_isSo_14 : decode cX5_isSo 14 = .ok (.lookupswitch 85 #[(15, 49), (20, 60), (21, 34)], 34) := by decide +kernel
theorem dX5_isSo_48 : decode cX5_isSo 48 = .ok (.aload_n 0, 1) := by decide +kernel
theorem dX5_isSo_49 : decode cX5_isSo 49 = .ok (.iload 4, 2) := by decide +kernel
theorem dX5_isSo_51 : decode cX5_isSo 51 = .ok (.invokevirtual 92, 3) := by decide +kernel
theorem dX5_isSo_54 : decode cX5_isSo 54 = .ok (.ifCond .eq 7, 3) := by decide +kernel
theorem dX5_isSo_57 : decode cX5_isSo 57 = .ok (.iconst 1, 1) := by decide +kernel
theorem dX5_isSo_58 : decode cX5_isSo 58 = .ok (.goto 4, 3) := by decide +kernel
theorem dX5_isSo_61 : decode cX5_isSo 61 = .ok (.iconst 0, 1) := by decide +kernel
theorem dX5_isSo_62 : decode cX5_isSo 62 = .ok (.ireturn, 1) := by decide +kernel
theorem dX5_isSo_63 : decode cX5_isSo 63 = .ok (.aload_n 0, 1) := by decide +kernel
theorem dX5_isSo_64 : decode cX5_isSo 64 = .ok (.aload_n 1, 1) := by decide +kernel
theorem dX5_isSo_65 : decode cX5_isSo 65 = .ok (.getfield 78, 3) := by decide +kernel
theorem dX5_isSo_68 : decode cX5_isSo 68 = .ok (.iload_n 2, 1) := by decide +kernel
theorem dX5_isSo_69 : decode cX5_isSo 69 = .ok (.iaload, 1) := by decide +kernel
theorem dX5_isSo_70 : decode cX5_isSo 70 = .ok (.invokevirtual 98, 3) := by decide +kernel
theorem dX5_isSo_73 : decode cX5_isSo 73 = .ok (.ireturn, 1) := by decide +kernel
theorem dX5_isSo_74 : decode cX5_isSo 74 = .ok (.aload_n 3, 1) := by decide +kernel
theorem dX5_isSo_75 : decode cX5_isSo 75 = .ok (.aload_n 0, 1) := by decide +kernel
theorem dX5_isSo_76 : decode cX5_isSo 76 = .ok (.aload_n 0, 1) := by decide +kernel
theorem dX5_isSo_77 : decode cX5_isSo 77 = .ok (.getfield 102, 3) := by decide +kernel
theorem dX5_isSo_80 : decode cX5_isSo 80 = .ok (.invokevirtual 105, 3) := by decide +kernel
theorem dX5_isSo_83 : decode cX5_isSo 83 = .ok (.ifCond .eq 14, 3) := by decide +kernel
theorem dX5_isSo_86 : decode cX5_isSo 86 = .ok (.aload_n 3, 1) := by decide +kernel
theorem dX5_isSo_87 : decode cX5_isSo 87 = .ok (.invokevirtual 111, 3) := by decide +kernel
theorem dX5_isSo_90 : decode cX5_isSo 90 = .ok (.ifCond .ne 7, 3) := by decide +kernel
theorem dX5_isSo_93 : decode cX5_isSo 93 = .ok (.iconst 1, 1) := by decide +kernel
theorem dX5_isSo_94 : decode cX5_isSo 94 = .ok (.goto 4, 3) := by decide +kernel
theorem dX5_isSo_97 : decode cX5_isSo 97 = .ok (.iconst 0, 1) := by decide +kernel
theorem dX5_isSo_98 : decode cX5_isSo 98 = .ok (.ireturn, 1) := by decide +kernel
theorem dX5_isSo_99 : decode cX5_isSo 99 = .ok (.aload_n 3, 1) := by decide +kernel
theorem dX5_isSo_100 : decode cX5_isSo 100 = .ok (.aload_n 0, 1) := by decide +kernel
theorem dX5_isSo_101 : decode cX5_isSo 101 = .ok (.aload_n 0, 1) := by decide +kernel
theorem dX5_isSo_102 : decode cX5_isSo 102 = .ok (.getfield 102, 3) := by decide +kernel
theorem dX5_isSo_105 : decode cX5_isSo 105 = .ok (.invokevirtual 105, 3) := by decide +kernel
theorem dX5_isSo_108 : decode cX5_isSo 108 = .ok (.ifCond .eq 25, 3) := by decide +kernel
theorem dX5_isSo_111 : decode cX5_isSo 111 = .ok (.aload_n 3, 1) := by decide +kernel
theorem dX5_isSo_112 : decode cX5_isSo 112 = .ok (.invokevirtual 111, 3) := by decide +kernel
theorem dX5_isSo_115 : decode cX5_isSo 115 = .ok (.aload_n 1, 1) := by decide +kernel
theorem dX5_isSo_116 : decode cX5_isSo 116 = .ok (.getfield 115, 3) := by decide +kernel
theorem dX5_isSo_119 : decode cX5_isSo 119 = .ok (.iload_n 2, 1) := by decide +kernel
theorem dX5_isSo_120 : decode cX5_isSo 120 = .ok (.iaload, 1) := by decide +kernel
theorem dX5_isSo_121 : decode cX5_isSo 121 = .ok (.iload 4, 2) := by decide +kernel
theorem dX5_isSo_123 : decode cX5_isSo 123 = .ok (.invokestatic 118, 3) := by decide +kernel
theorem dX5_isSo_126 : decode cX5_isSo 126 = .ok (.ifCond .eq 7, 3) := by decide +kernel
theorem dX5_isSo_129 : decode cX5_isSo 129 = .ok (.iconst 1, 1) := by decide +kernel
theorem dX5_isSo_130 : decode cX5_isSo 130 = .ok (.goto 4, 3) := by decide +kernel
theorem dX5_isSo_133 : decode cX5_isSo 133 = .ok (.iconst 0, 1) := by decide +kernel
theorem dX5_isSo_134 : decode cX5_isSo 134 = .ok (.ireturn, 1) := by decide +kernel
noncomputable def Li_isSo (σ : St) (a0 : Nat) (a1 : Nat) (p2 : Int32) : Option (Int32 × St) :=
  chk (ix p2 60) (bnd ((σ.1 (a1 + 5) (tn p2))) (fun v2 => chk (ix p2 60) (if (σ.1 (a1 + 2) (tn p2)) = 15 then (chk (ix p2 60) (bd (Cl_isOn σ a0 (σ.1 (a1 + 4) (tn p2))) (fun r6 => chk (ckz r6) (some (r6, σ))))) else if (σ.1 (a1 + 2) (tn p2)) = 20 then (bd2 (Si_fill σ a0 (σ.1 a0 4)) (fun r10 σ11 => if r10 = 0 then (some (0, σ11)) else (bd (Si_countGaps σ11) (fun r13 => if r13 = 0 then (some (1, σ11)) else (some (0, σ11)))))) else if (σ.1 (a1 + 2) (tn p2)) = 21 then (bd (Cl_catchers σ a0 v2) (fun r18 => if r18 = 0 then (some (0, σ)) else (some (1, σ)))) else (bd2 (Si_fill σ a0 (σ.1 a0 4)) (fun r22 σ23 => if r22 = 0 then (some (0, σ23)) else (bd (Si_countGaps σ23) (fun r25 => chk (ix p2 60) (bd (Li_compares r25 (σ23.1 (a1 + 3) (tn p2)) v2) (fun r28 => if r28 = 0 then (some (0, σ23)) else (some (1, σ23)))))))))))
set_option maxRecDepth 100000 in
set_option maxHeartbeats 4000000 in
theorem tm_Li_isSo {V : Ev} {Γ : Cn} {fin : Option Value × St} {σ : St} {a0 : Nat} {a1 : Nat} {p2 : Int32} {o : (Int32 × St)} (X : Cx V Γ M_X5_isSo) {A : (Int32 × St) → Prop} (k0 : okCl a0) (k1 : okDa a1) (hr : ∀ (r : Int32) (σ9 : St), A (r, σ9) → (some (.int r), σ9) = fin) (h : Li_isSo σ a0 a1 p2 = some o) (hA : A o) : Go V Γ M_X5_isSo (Zm V Γ 4 fin) 0 [(0, .ref (V.2.2.1 + a0)), (1, .ref (V.2.2.1 + a1)), (2, .int p2), (3, .ref (V.2.2.1 + 31))] [] σ := by
  unfold Li_isSo at h
  refine g_aload_n (pc := 0) X 1 rfl dX5_isSo_0 ?_
  refine g_getR (r := (a1 + 5)) (pc := 1) X k_fl_X5_71 (sDa_0 k1) rfl dX5_isSo_1 ?_
  refine g_iload_n (pc := 4) X 2 rfl dX5_isSo_4 ?_
  obtain ⟨c1, h⟩ := chk_e h
  refine g_iald (pc := 5) X (sDa_5 k1) c1 dX5_isSo_5 ?_
  obtain ⟨v2, e_v2, h⟩ := bnd_e h
  refine g_nmI e_v2 ?_
  refine g_istore (pc := 6) X [(4, .int v2), (0, .ref (V.2.2.1 + a0)), (1, .ref (V.2.2.1 + a1)), (2, .int p2), (3, .ref (V.2.2.1 + 31))] (Nat.le_of_ble_eq_true rfl) rfl dX5_isSo_6 ?_
  refine g_aload_n (pc := 8) X 2 rfl dX5_isSo_8 ?_
  refine g_getR (r := (a1 + 2)) (pc := 9) X k_fl_X5_89 (sDa_0 k1) rfl dX5_isSo_9 ?_
  refine g_iload_n (pc := 12) X 3 rfl dX5_isSo_12 ?_
  obtain ⟨c3, h⟩ := chk_e h
  refine g_iald (pc := 13) X (sDa_2 k1) c3 dX5_isSo_13 ?_
  by_cases c8 : (σ.1 (a1 + 2) (tn p2)) = 15
  · replace h := if_t c8 h
    refine g_lookIn (pc := 14) (tgt := 63) X c8 dX5_isSo_14 (by decide) rfl rfl ?_
    refine g_aload_n (pc := 63) X 1 rfl dX5_isSo_63 ?_
    refine g_aload_n (pc := 64) X 2 rfl dX5_isSo_64 ?_
    refine g_getR (r := (a1 + 4)) (pc := 65) X k_fl_X5_78 (sDa_0 k1) rfl dX5_isSo_65 ?_
    refine g_iload_n (pc := 68) X 3 rfl dX5_isSo_68 ?_
    obtain ⟨c4, h⟩ := chk_e h
    refine g_iald (pc := 69) X (sDa_4 k1) c4 dX5_isSo_69 ?_
    obtain ⟨r6, hc5, h⟩ := bd_e h
    refine g_callV (pc := 70) X k_ml_X5_98 (run_Cl_isOn k0 hc5) (sCl_0 k0) rfl (room_ok (Nat.le_of_ble_eq_true rfl) (Nat.le_of_ble_eq_true rfl)) ⟨Nat.le_refl _, Nat.le_refl _⟩ _ rfl (Nat.le_of_ble_eq_true rfl) dX5_isSo_70 ?_
    show Go V Γ M_X5_isSo (Zm V Γ 4 fin) 73 [(4, .int v2), (0, .ref (V.2.2.1 + a0)), (1, .ref (V.2.2.1 + a1)), (2, .int p2), (3, .ref (V.2.2.1 + 31))] [.int r6] σ
    obtain ⟨c7, h⟩ := chk_e h
    cases h
    exact g_iret (pc := 73) X rfl (ckz_e c7).1 (hr _ _ hA) dX5_isSo_73
  replace h := if_f c8 h
  by_cases c16 : (σ.1 (a1 + 2) (tn p2)) = 20
  · replace h := if_t c16 h
    refine g_lookIn (pc := 14) (tgt := 74) X c16 dX5_isSo_14 (by decide) rfl rfl ?_
    refine g_aload_n (pc := 74) X 4 rfl dX5_isSo_74 ?_
    refine g_aload_n (pc := 75) X 1 rfl dX5_isSo_75 ?_
    refine g_aload_n (pc := 76) X 1 rfl dX5_isSo_76 ?_
    refine g_getI (pc := 77) X k_fl_X5_102 (sCl_0 k0) rfl dX5_isSo_77 ?_
    obtain ⟨r10, σ11, hc9, h⟩ := bd2_e h
    refine g_callV (pc := 80) X k_ml_X5_105 (run_Si_fill k0 hc9) s_31 rfl (room_ok (Nat.le_of_ble_eq_true rfl) (Nat.le_of_ble_eq_true rfl)) ⟨Nat.le_refl _, Nat.le_refl _⟩ _ rfl (Nat.le_of_ble_eq_true rfl) dX5_isSo_80 ?_
    show Go V Γ M_X5_isSo (Zm V Γ 4 fin) 83 [(4, .int v2), (0, .ref (V.2.2.1 + a0)), (1, .ref (V.2.2.1 + a1)), (2, .int p2), (3, .ref (V.2.2.1 + 31))] [.int r10] σ11
    refine g_if_eq (pc := 83) (tgt := 97) X dX5_isSo_83 rfl (fun c15 => ?_) (fun c15 => ?_)
    · replace h := if_t c15 h
      refine g_iconst (v := 0) (pc := 97) X rfl dX5_isSo_97 ?_
      cases h
      exact g_iret (pc := 98) X rfl nz0.1 (hr _ _ hA) dX5_isSo_98
    · replace h := if_f c15 h
      refine g_aload_n (pc := 86) X 4 rfl dX5_isSo_86 ?_
      obtain ⟨r13, hc12, h⟩ := bd_e h
      refine g_callV (pc := 87) X k_ml_X5_111 (run_Si_countGaps  hc12) s_31 rfl (room_ok (Nat.le_of_ble_eq_true rfl) (Nat.le_of_ble_eq_true rfl)) ⟨Nat.le_refl _, Nat.le_refl _⟩ _ rfl (Nat.le_of_ble_eq_true rfl) dX5_isSo_87 ?_
      show Go V Γ M_X5_isSo (Zm V Γ 4 fin) 90 [(4, .int v2), (0, .ref (V.2.2.1 + a0)), (1, .ref (V.2.2.1 + a1)), (2, .int p2), (3, .ref (V.2.2.1 + 31))] [.int r13] σ11
      refine g_if_ne (pc := 90) (tgt := 97) X dX5_isSo_90 rfl (fun c14 => ?_) (fun c14 => ?_)
      · replace h := if_f c14 h
        refine g_iconst (v := 0) (pc := 97) X rfl dX5_isSo_97 ?_
        cases h
        exact g_iret (pc := 98) X rfl nz0.1 (hr _ _ hA) dX5_isSo_98
      · replace h := if_t c14 h
        refine g_iconst (v := 1) (pc := 93) X rfl dX5_isSo_93 ?_
        refine g_goto (pc := 94) (tgt := 98) X dX5_isSo_94 rfl ?_
        cases h
        exact g_iret (pc := 98) X rfl nz1.1 (hr _ _ hA) dX5_isSo_98
  replace h := if_f c16 h
  by_cases c20 : (σ.1 (a1 + 2) (tn p2)) = 21
  · replace h := if_t c20 h
    refine g_lookIn (pc := 14) (tgt := 48) X c20 dX5_isSo_14 (by decide) rfl rfl ?_
    refine g_aload_n (pc := 48) X 1 rfl dX5_isSo_48 ?_
    refine g_iload (pc := 49) X 0 rfl dX5_isSo_49 ?_
    obtain ⟨r18, hc17, h⟩ := bd_e h
    refine g_callV (pc := 51) X k_ml_X5_92 (run_Cl_catchers k0 hc17) (sCl_0 k0) rfl (room_ok (Nat.le_of_ble_eq_true rfl) (Nat.le_of_ble_eq_true rfl)) ⟨Nat.le_refl _, Nat.le_refl _⟩ _ rfl (Nat.le_of_ble_eq_true rfl) dX5_isSo_51 ?_
    show Go V Γ M_X5_isSo (Zm V Γ 4 fin) 54 [(4, .int v2), (0, .ref (V.2.2.1 + a0)), (1, .ref (V.2.2.1 + a1)), (2, .int p2), (3, .ref (V.2.2.1 + 31))] [.int r18] σ
    refine g_if_eq (pc := 54) (tgt := 61) X dX5_isSo_54 rfl (fun c19 => ?_) (fun c19 => ?_)
    · replace h := if_t c19 h
      refine g_iconst (v := 0) (pc := 61) X rfl dX5_isSo_61 ?_
      cases h
      exact g_iret (pc := 62) X rfl nz0.1 (hr _ _ hA) dX5_isSo_62
    · replace h := if_f c19 h
      refine g_iconst (v := 1) (pc := 57) X rfl dX5_isSo_57 ?_
      refine g_goto (pc := 58) (tgt := 62) X dX5_isSo_58 rfl ?_
      cases h
      exact g_iret (pc := 62) X rfl nz1.1 (hr _ _ hA) dX5_isSo_62
  replace h := if_f c20 h
  refine g_lookOut (pc := 14) (tgt := 99) X dX5_isSo_14 (by decide) ?_ rfl ?_
  · show Op.lookupswitch.offset [(15, 49), (20, 60), (21, 34)] _ _ = _
    rw [lv_osw (k := 15) (a := 15) c8 rfl, lv_osw (k := 20) (a := 20) c16 rfl, lv_osw (k := 21) (a := 21) c20 rfl]; rfl
  refine g_aload_n (pc := 99) X 4 rfl dX5_isSo_99 ?_
  refine g_aload_n (pc := 100) X 1 rfl dX5_isSo_100 ?_
  refine g_aload_n (pc := 101) X 1 rfl dX5_isSo_101 ?_
  refine g_getI (pc := 102) X k_fl_X5_102 (sCl_0 k0) rfl dX5_isSo_102 ?_
  obtain ⟨r22, σ23, hc21, h⟩ := bd2_e h
  refine g_callV (pc := 105) X k_ml_X5_105 (run_Si_fill k0 hc21) s_31 rfl (room_ok (Nat.le_of_ble_eq_true rfl) (Nat.le_of_ble_eq_true rfl)) ⟨Nat.le_refl _, Nat.le_refl _⟩ _ rfl (Nat.le_of_ble_eq_true rfl) dX5_isSo_105 ?_
  show Go V Γ M_X5_isSo (Zm V Γ 4 fin) 108 [(4, .int v2), (0, .ref (V.2.2.1 + a0)), (1, .ref (V.2.2.1 + a1)), (2, .int p2), (3, .ref (V.2.2.1 + 31))] [.int r22] σ23
  refine g_if_eq (pc := 108) (tgt := 133) X dX5_isSo_108 rfl (fun c30 => ?_) (fun c30 => ?_)
  · replace h := if_t c30 h
    refine g_iconst (v := 0) (pc := 133) X rfl dX5_isSo_133 ?_
    cases h
    exact g_iret (pc := 134) X rfl nz0.1 (hr _ _ hA) dX5_isSo_134
  · replace h := if_f c30 h
    refine g_aload_n (pc := 111) X 4 rfl dX5_isSo_111 ?_
    obtain ⟨r25, hc24, h⟩ := bd_e h
    refine g_callV (pc := 112) X k_ml_X5_111 (run_Si_countGaps  hc24) s_31 rfl (room_ok (Nat.le_of_ble_eq_true rfl) (Nat.le_of_ble_eq_true rfl)) ⟨Nat.le_refl _, Nat.le_refl _⟩ _ rfl (Nat.le_of_ble_eq_true rfl) dX5_isSo_112 ?_
    show Go V Γ M_X5_isSo (Zm V Γ 4 fin) 115 [(4, .int v2), (0, .ref (V.2.2.1 + a0)), (1, .ref (V.2.2.1 + a1)), (2, .int p2), (3, .ref (V.2.2.1 + 31))] [.int r25] σ23
    refine g_aload_n (pc := 115) X 2 rfl dX5_isSo_115 ?_
    refine g_getR (r := (a1 + 3)) (pc := 116) X k_fl_X5_115 (sDa_0 k1) rfl dX5_isSo_116 ?_
    refine g_iload_n (pc := 119) X 3 rfl dX5_isSo_119 ?_
    obtain ⟨c26, h⟩ := chk_e h
    refine g_iald (pc := 120) X (sDa_3 k1) c26 dX5_isSo_120 ?_
    refine g_iload (pc := 121) X 0 rfl dX5_isSo_121 ?_
    obtain ⟨r28, hc27, h⟩ := bd_e h
    refine g_callS (pc := 123) X k_ml_X5_118 (run_Li_compares  hc27) rfl (room_ok (Nat.le_of_ble_eq_true rfl) (Nat.le_of_ble_eq_true rfl)) ⟨Nat.le_refl _, Nat.le_refl _⟩ _ rfl (Nat.le_of_ble_eq_true rfl) dX5_isSo_123 ?_
    show Go V Γ M_X5_isSo (Zm V Γ 4 fin) 126 [(4, .int v2), (0, .ref (V.2.2.1 + a0)), (1, .ref (V.2.2.1 + a1)), (2, .int p2), (3, .ref (V.2.2.1 + 31))] [.int r28] σ23
    refine g_if_eq (pc := 126) (tgt := 133) X dX5_isSo_126 rfl (fun c29 => ?_) (fun c29 => ?_)
    · replace h := if_t c29 h
      refine g_iconst (v := 0) (pc := 133) X rfl dX5_isSo_133 ?_
      cases h
      exact g_iret (pc := 134) X rfl nz0.1 (hr _ _ hA) dX5_isSo_134
    · replace h := if_f c29 h
      refine g_iconst (v := 1) (pc := 129) X rfl dX5_isSo_129 ?_
      refine g_goto (pc := 130) (tgt := 134) X dX5_isSo_130 rfl ?_
      cases h
      exact g_iret (pc := 134) X rfl nz1.1 (hr _ _ hA) dX5_isSo_134
set_option maxRecDepth 100000 in
theorem run_Li_isSo {V : Ev} {σ : St} {a0 : Nat} {a1 : Nat} {p2 : Int32} {o : (Int32 × St)} (k0 : okCl a0) (k1 : okDa a1)  (h : Li_isSo σ a0 a1 p2 = some o) : Rs V 4 M_X5_isSo [.ref (V.2.2.1 + a0), .ref (V.2.2.1 + a1), .int p2, .ref (V.2.2.1 + 31)] σ (some (.int o.1), o.2) := by
  refine Rs.of (by decide +kernel) (Nat.le_of_ble_eq_true rfl) (fun Γ X => ?_)
  exact tm_Li_isSo X (A := fun o1 => o1 = o) k0 k1 (fun _ _ e => by rw [← e]) h rfl
theorem dX5_draw_0 : decode cX5_draw 0 = .ok (.aload_n 0, 1) := by decide +kernel
theorem dX5_draw_1 : decode cX5_draw 1 = .ok (.aload_n 0, 1) := by decide +kernel
theorem dX5_draw_2 : decode cX5_draw 2 = .ok (.getfield 40, 3) := by decide +kernel
theorem dX5_draw_5 : decode cX5_draw 5 = .ok (.sipush 3299, 3) := by decide +kernel
theorem dX5_draw_8 : decode cX5_draw 8 = .ok (.imul, 1) := by decide +kernel
theorem dX5_draw_9 : decode cX5_draw 9 = .ok (.sipush 11531, 3) := by decide +kernel
theorem dX5_draw_12 : decode cX5_draw 12 = .ok (.iadd, 1) := by decide +kernel
theorem dX5_draw_13 : decode cX5_draw 13 = .ok (.ldc 150, 2) := by decide +kernel
theorem dX5_draw_15 : decode cX5_draw 15 = .ok (.irem, 1) := by decide +kernel
theorem dX5_draw_16 : decode cX5_draw 16 = .ok (.putfield 40, 3) := by decide +kernel
theorem dX5_draw_19 : decode cX5_draw 19 = .ok (.aload_n 0, 1) := by decide +kernel
theorem dX5_draw_20 : decode cX5_draw 20 = .ok (.getfield 40, 3) := by decide +kernel
theorem dX5_draw_23 : decode cX5_draw 23 = .ok (.bipush 8, 2) := by decide +kernel
theorem dX5_draw_25 : decode cX5_draw 25 = .ok (.idiv, 1) := by decide +kernel
theorem dX5_draw_26 : decode cX5_draw 26 = .ok (.iload_n 1, 1) := by decide +kernel
theorem dX5_draw_27 : decode cX5_draw 27 = .ok (.invokestatic 151, 3) := by decide +kernel
theorem dX5_draw_30 : decode cX5_draw 30 = .ok (.ireturn, 1) := by decide +kernel
noncomputable def Li_draw (σ : St) (a0 : Nat) (p1 : Int32) : Option (Int32 × St) :=
  chk (nzI 65536) (bnd (wI σ a0 8 (jrem (((σ.1 a0 8) * 3299) + 11531) 65536)) (fun σ2 => chk (nzI 8) (bd (RC_leftBy ((σ2.1 a0 8) / 8) p1) (fun r5 => some (r5, σ2)))))
set_option maxRecDepth 100000 in
set_option maxHeartbeats 4000000 in
theorem tm_Li_draw {V : Ev} {Γ : Cn} {fin : Option Value × St} {σ : St} {a0 : Nat} {p1 : Int32} {o : (Int32 × St)} (X : Cx V Γ M_X5_draw) {A : (Int32 × St) → Prop} (k0 : okLi a0) (hr : ∀ (r : Int32) (σ9 : St), A (r, σ9) → (some (.int r), σ9) = fin) (h : Li_draw σ a0 p1 = some o) (hA : A o) : Go V Γ M_X5_draw (Zm V Γ 1 fin) 0 [(0, .ref (V.2.2.1 + a0)), (1, .int p1)] [] σ := by
  unfold Li_draw at h
  refine g_aload_n (pc := 0) X 0 rfl dX5_draw_0 ?_
  refine g_aload_n (pc := 1) X 0 rfl dX5_draw_1 ?_
  refine g_getI (pc := 2) X k_fl_X5_40 (sLi_0 k0) rfl dX5_draw_2 ?_
  refine g_sipush (v := 3299) (pc := 5) X (by decide) dX5_draw_5 ?_
  refine g_imul (pc := 8) X dX5_draw_8 ?_
  refine g_sipush (v := 11531) (pc := 9) X (by decide) dX5_draw_9 ?_
  refine g_iadd (pc := 12) X dX5_draw_12 ?_
  refine g_ldc (v := 65536) (pc := 13) X (k_const_X5_150) dX5_draw_13 ?_
  obtain ⟨c1, h⟩ := chk_e h
  refine g_irem (pc := 15) X (nzI_e c1) dX5_draw_15 ?_
  refine g_putI (pc := 16) X k_fl_X5_40 (sLi_0 k0) rfl rfl rfl dX5_draw_16 ?_
  obtain ⟨σ2, e_σ2, h⟩ := bnd_e h
  refine g_nmS e_σ2 ?_
  refine g_aload_n (pc := 19) X 0 rfl dX5_draw_19 ?_
  refine g_getI (pc := 20) X k_fl_X5_40 (sLi_0 k0) rfl dX5_draw_20 ?_
  refine g_bipush (v := 8) (pc := 23) X (by decide) dX5_draw_23 ?_
  obtain ⟨c3, h⟩ := chk_e h
  refine g_idiv (pc := 25) X (nzI_e c3) dX5_draw_25 ?_
  refine g_iload_n (pc := 26) X 1 rfl dX5_draw_26 ?_
  obtain ⟨r5, hc4, h⟩ := bd_e h
  refine g_callS (pc := 27) X k_ml_X5_151 (run_RC_leftBy  hc4) rfl (room_ok (Nat.le_of_ble_eq_true rfl) (Nat.le_of_ble_eq_true rfl)) ⟨Nat.le_refl _, Nat.le_refl _⟩ _ rfl (Nat.le_of_ble_eq_true rfl) dX5_draw_27 ?_
  show Go V Γ M_X5_draw (Zm V Γ 1 fin) 30 [(0, .ref (V.2.2.1 + a0)), (1, .int p1)] [.int r5] σ2
  cases h
  exact g_iret (pc := 30) X rfl rfl (hr _ _ hA) dX5_draw_30
set_option maxRecDepth 100000 in
theorem run_Li_draw {V : Ev} {σ : St} {a0 : Nat} {p1 : Int32} {o : (Int32 × St)} (k0 : okLi a0)  (h : Li_draw σ a0 p1 = some o) : Rs V 1 M_X5_draw [.ref (V.2.2.1 + a0), .int p1] σ (some (.int o.1), o.2) := by
  refine Rs.of (by decide +kernel) (Nat.le_of_ble_eq_true rfl) (fun Γ X => ?_)
  exact tm_Li_draw X (A := fun o1 => o1 = o) k0 (fun _ _ e => by rw [← e]) h rfl
theorem dX5_flip_0 : decode cX5_flip 0 = .ok (.aload_n 1, 1) := by decide +kernel
theorem dX5_flip_1 : decode cX5_flip 1 = .ok (.iload_n 2, 1) := by decide +kernel
theorem dX5_flip_2 : decode cX5_flip 2 = .ok (.invokevirtual 131, 3) := by decide +kernel
theorem dX5_flip_5 : decode cX5_flip 5 = .ok (.aload_n 1, 1) := by decide +kernel
theorem dX5_flip_6 : decode cX5_flip 6 = .ok (.iload_n 2, 1) := by decide +kernel
theorem dX5_flip_7 : decode cX5_flip 7 = .ok (.invokevirtual 98, 3) := by decide +kernel
theorem dX5_flip_10 : decode cX5_flip 10 = .ok (.ifCond .eq 16, 3) := by decide +kernel
theorem dX5_flip_13 : decode cX5_flip 13 = .ok (.aload_n 0, 1) := by decide +kernel
theorem dX5_flip_14 : decode cX5_flip 14 = .ok (.dup, 1) := by decide +kernel
theorem dX5_flip_15 : decode cX5_flip 15 = .ok (.getfield 28, 3) := by decide +kernel
theorem dX5_flip_18 : decode cX5_flip 18 = .ok (.iconst 1, 1) := by decide +kernel
theorem dX5_flip_19 : decode cX5_flip 19 = .ok (.iadd, 1) := by decide +kernel
theorem dX5_flip_20 : decode cX5_flip 20 = .ok (.putfield 28, 3) := by decide +kernel
theorem dX5_flip_23 : decode cX5_flip 23 = .ok (.goto 13, 3) := by decide +kernel
theorem dX5_flip_26 : decode cX5_flip 26 = .ok (.aload_n 0, 1) := by decide +kernel
theorem dX5_flip_27 : decode cX5_flip 27 = .ok (.dup, 1) := by decide +kernel
theorem dX5_flip_28 : decode cX5_flip 28 = .ok (.getfield 31, 3) := by decide +kernel
theorem dX5_flip_31 : decode cX5_flip 31 = .ok (.iconst 1, 1) := by decide +kernel
theorem dX5_flip_32 : decode cX5_flip 32 = .ok (.iadd, 1) := by decide +kernel
theorem dX5_flip_33 : decode cX5_flip 33 = .ok (.putfield 31, 3) := by decide +kernel
theorem dX5_flip_36 : decode cX5_flip 36 = .ok (.iconst 1, 1) := by decide +kernel
theorem dX5_flip_37 : decode cX5_flip 37 = .ok (.ireturn, 1) := by decide +kernel
noncomputable def Li_flip (σ : St) (a0 : Nat) (a1 : Nat) (p2 : Int32) : Option (Int32 × St) :=
  bd (Cl_flip σ a1 p2) (fun σ2 => bd (Cl_isOn σ2 a1 p2) (fun r4 => if r4 = 0 then (bnd (wI σ2 a0 5 ((σ2.1 a0 5) + 1)) (fun σ5 => some (1, σ5))) else (bnd (wI σ2 a0 4 ((σ2.1 a0 4) + 1)) (fun σ6 => some (1, σ6)))))
set_option maxRecDepth 100000 in
set_option maxHeartbeats 4000000 in
theorem tm_Li_flip {V : Ev} {Γ : Cn} {fin : Option Value × St} {σ : St} {a0 : Nat} {a1 : Nat} {p2 : Int32} {o : (Int32 × St)} (X : Cx V Γ M_X5_flip) {A : (Int32 × St) → Prop} (k0 : okLi a0) (k1 : okCl a1) (hr : ∀ (r : Int32) (σ9 : St), A (r, σ9) → (some (.int r), σ9) = fin) (h : Li_flip σ a0 a1 p2 = some o) (hA : A o) : Go V Γ M_X5_flip (Zm V Γ 2 fin) 0 [(0, .ref (V.2.2.1 + a0)), (1, .ref (V.2.2.1 + a1)), (2, .int p2)] [] σ := by
  unfold Li_flip at h
  refine g_aload_n (pc := 0) X 1 rfl dX5_flip_0 ?_
  refine g_iload_n (pc := 1) X 2 rfl dX5_flip_1 ?_
  obtain ⟨σ2, hc1, h⟩ := bd_e h
  refine g_callV (pc := 2) X k_ml_X5_131 (run_Cl_flip k1 hc1) (sCl_0 k1) rfl (room_ok (Nat.le_of_ble_eq_true rfl) (Nat.le_of_ble_eq_true rfl)) ⟨Nat.le_refl _, Nat.le_refl _⟩ _ rfl (Nat.le_of_ble_eq_true rfl) dX5_flip_2 ?_
  show Go V Γ M_X5_flip (Zm V Γ 2 fin) 5 [(0, .ref (V.2.2.1 + a0)), (1, .ref (V.2.2.1 + a1)), (2, .int p2)] [] σ2
  refine g_aload_n (pc := 5) X 1 rfl dX5_flip_5 ?_
  refine g_iload_n (pc := 6) X 2 rfl dX5_flip_6 ?_
  obtain ⟨r4, hc3, h⟩ := bd_e h
  refine g_callV (pc := 7) X k_ml_X5_98 (run_Cl_isOn k1 hc3) (sCl_0 k1) rfl (room_ok (Nat.le_of_ble_eq_true rfl) (Nat.le_of_ble_eq_true rfl)) ⟨Nat.le_refl _, Nat.le_refl _⟩ _ rfl (Nat.le_of_ble_eq_true rfl) dX5_flip_7 ?_
  show Go V Γ M_X5_flip (Zm V Γ 2 fin) 10 [(0, .ref (V.2.2.1 + a0)), (1, .ref (V.2.2.1 + a1)), (2, .int p2)] [.int r4] σ2
  refine g_if_eq (pc := 10) (tgt := 26) X dX5_flip_10 rfl (fun c7 => ?_) (fun c7 => ?_)
  · replace h := if_t c7 h
    refine g_aload_n (pc := 26) X 0 rfl dX5_flip_26 ?_
    refine g_dup (pc := 27) X rfl dX5_flip_27 ?_
    refine g_getI (pc := 28) X k_fl_X5_31 (sLi_0 k0) rfl dX5_flip_28 ?_
    refine g_iconst (v := 1) (pc := 31) X rfl dX5_flip_31 ?_
    refine g_iadd (pc := 32) X dX5_flip_32 ?_
    refine g_putI (pc := 33) X k_fl_X5_31 (sLi_0 k0) rfl rfl rfl dX5_flip_33 ?_
    obtain ⟨σ5, e_σ5, h⟩ := bnd_e h
    refine g_nmS e_σ5 ?_
    refine g_iconst (v := 1) (pc := 36) X rfl dX5_flip_36 ?_
    cases h
    exact g_iret (pc := 37) X rfl nz1.1 (hr _ _ hA) dX5_flip_37
  · replace h := if_f c7 h
    refine g_aload_n (pc := 13) X 0 rfl dX5_flip_13 ?_
    refine g_dup (pc := 14) X rfl dX5_flip_14 ?_
    refine g_getI (pc := 15) X k_fl_X5_28 (sLi_0 k0) rfl dX5_flip_15 ?_
    refine g_iconst (v := 1) (pc := 18) X rfl dX5_flip_18 ?_
    refine g_iadd (pc := 19) X dX5_flip_19 ?_
    refine g_putI (pc := 20) X k_fl_X5_28 (sLi_0 k0) rfl rfl rfl dX5_flip_20 ?_
    obtain ⟨σ6, e_σ6, h⟩ := bnd_e h
    refine g_nmS e_σ6 ?_
    refine g_goto (pc := 23) (tgt := 36) X dX5_flip_23 rfl ?_
    refine g_iconst (v := 1) (pc := 36) X rfl dX5_flip_36 ?_
    cases h
    exact g_iret (pc := 37) X rfl nz1.1 (hr _ _ hA) dX5_flip_37
set_option maxRecDepth 100000 in
theorem run_Li_flip {V : Ev} {σ : St} {a0 : Nat} {a1 : Nat} {p2 : Int32} {o : (Int32 × St)} (k0 : okLi a0) (k1 : okCl a1)  (h : Li_flip σ a0 a1 p2 = some o) : Rs V 2 M_X5_flip [.ref (V.2.2.1 + a0), .ref (V.2.2.1 + a1), .int p2] σ (some (.int o.1), o.2) := by
  refine Rs.of (by decide +kernel) (Nat.le_of_ble_eq_true rfl) (fun Γ X => ?_)
  exact tm_Li_flip X (A := fun o1 => o1 = o) k0 k1 (fun _ _ e => by rw [← e]) h rfl
theorem dX5_slide_0 : decode cX5_slide 0 = .ok (.aload_n 1, 1) := by decide +kernel
theorem dX5_slide_1 : decode cX5_slide 1 = .ok (.iload_n 2, 1) := by decide +kernel
theorem dX5_slide_2 : decode cX5_slide 2 = .ok (.invokevirtual 134, 3) := by decide +kernel
theorem dX5_slide_5 : decode cX5_slide 5 = .ok (.aload_n 0, 1) := by decide +kernel
theorem dX5_slide_6 : decode cX5_slide 6 = .ok (.dup, 1) := by decide +kernel
theorem dX5_slide_7 : decode cX5_slide 7 = .ok (.getfield 34, 3) := by decide +kernel
theorem dX5_slide_10 : decode cX5_slide 10 = .ok (.iconst 1, 1) := by decide +kernel
theorem dX5_slide_11 : decode cX5_slide 11 = .ok (.iadd, 1) := by decide +kernel
theorem dX5_slide_12 : decode cX5_slide 12 = .ok (.putfield 34, 3) := by decide +kernel
theorem dX5_slide_15 : decode cX5_slide 15 = .ok (.iconst 1, 1) := by decide +kernel
theorem dX5_slide_16 : decode cX5_slide 16 = .ok (.ireturn, 1) := by decide +kernel
noncomputable def Li_slide (σ : St) (a0 : Nat) (a1 : Nat) (p2 : Int32) : Option (Int32 × St) :=
  bd (Cl_slide σ a1 p2) (fun σ2 => bnd (wI σ2 a0 6 ((σ2.1 a0 6) + 1)) (fun σ3 => some (1, σ3)))
set_option maxRecDepth 100000 in
set_option maxHeartbeats 4000000 in
theorem tm_Li_slide {V : Ev} {Γ : Cn} {fin : Option Value × St} {σ : St} {a0 : Nat} {a1 : Nat} {p2 : Int32} {o : (Int32 × St)} (X : Cx V Γ M_X5_slide) {A : (Int32 × St) → Prop} (k0 : okLi a0) (k1 : okCl a1) (hr : ∀ (r : Int32) (σ9 : St), A (r, σ9) → (some (.int r), σ9) = fin) (h : Li_slide σ a0 a1 p2 = some o) (hA : A o) : Go V Γ M_X5_slide (Zm V Γ 2 fin) 0 [(0, .ref (V.2.2.1 + a0)), (1, .ref (V.2.2.1 + a1)), (2, .int p2)] [] σ := by
  unfold Li_slide at h
  refine g_aload_n (pc := 0) X 1 rfl dX5_slide_0 ?_
  refine g_iload_n (pc := 1) X 2 rfl dX5_slide_1 ?_
  obtain ⟨σ2, hc1, h⟩ := bd_e h
  refine g_callV (pc := 2) X k_ml_X5_134 (run_Cl_slide k1 hc1) (sCl_0 k1) rfl (room_ok (Nat.le_of_ble_eq_true rfl) (Nat.le_of_ble_eq_true rfl)) ⟨Nat.le_refl _, Nat.le_refl _⟩ _ rfl (Nat.le_of_ble_eq_true rfl) dX5_slide_2 ?_
  show Go V Γ M_X5_slide (Zm V Γ 2 fin) 5 [(0, .ref (V.2.2.1 + a0)), (1, .ref (V.2.2.1 + a1)), (2, .int p2)] [] σ2
  refine g_aload_n (pc := 5) X 0 rfl dX5_slide_5 ?_
  refine g_dup (pc := 6) X rfl dX5_slide_6 ?_
  refine g_getI (pc := 7) X k_fl_X5_34 (sLi_0 k0) rfl dX5_slide_7 ?_
  refine g_iconst (v := 1) (pc := 10) X rfl dX5_slide_10 ?_
  refine g_iadd (pc := 11) X dX5_slide_11 ?_
  refine g_putI (pc := 12) X k_fl_X5_34 (sLi_0 k0) rfl rfl rfl dX5_slide_12 ?_
  obtain ⟨σ3, e_σ3, h⟩ := bnd_e h
  refine g_nmS e_σ3 ?_
  refine g_iconst (v := 1) (pc := 15) X rfl dX5_slide_15 ?_
  cases h
  exact g_iret (pc := 16) X rfl nz1.1 (hr _ _ hA) dX5_slide_16
set_option maxRecDepth 100000 in
theorem run_Li_slide {V : Ev} {σ : St} {a0 : Nat} {a1 : Nat} {p2 : Int32} {o : (Int32 × St)} (k0 : okLi a0) (k1 : okCl a1)  (h : Li_slide σ a0 a1 p2 = some o) : Rs V 2 M_X5_slide [.ref (V.2.2.1 + a0), .ref (V.2.2.1 + a1), .int p2] σ (some (.int o.1), o.2) := by
  refine Rs.of (by decide +kernel) (Nat.le_of_ble_eq_true rfl) (fun Γ X => ?_)
  exact tm_Li_slide X (A := fun o1 => o1 = o) k0 k1 (fun _ _ e => by rw [← e]) h rfl
theorem dX5_chance_0 : decode cX5_chance 0 = .ok (.aload_n 1, 1) := by decide +kernel
theorem dX5_chance_1 : decode cX5_chance 1 = .ok (.getfield 143, 3) := by decide +kernel
theorem dX5_chance_4 : decode cX5_chance 4 = .ok (.ifCond .ne 5, 3) := by decide +kernel
theorem dX5_chance_7 : decode cX5_chance 7 = .ok (.iconst 0, 1) := by decide +kernel
theorem dX5_chance_8 : decode cX5_chance 8 = .ok (.ireturn, 1) := by decide +kernel
theorem dX5_chance_9 : decode cX5_chance 9 = .ok (.aload_n 0, 1) := by decide +kernel
theorem dX5_chance_10 : decode cX5_chance 10 = .ok (.aload_n 1, 1) := by decide +kernel
theorem dX5_chance_11 : decode cX5_chance 11 = .ok (.getfield 143, 3) := by decide +kernel
theorem dX5_chance_14 : decode cX5_chance 14 = .ok (.invokevirtual 144, 3) := by decide +kernel
theorem dX5_chance_17 : decode cX5_chance 17 = .ok (.istore_n 2, 1) := by decide +kernel
theorem dX5_chance_18 : decode cX5_chance 18 = .ok (.aload_n 0, 1) := by decide +kernel
theorem dX5_chance_19 : decode cX5_chance 19 = .ok (.bipush 16, 2) := by decide +kernel
theorem dX5_chance_21 : decode cX5_chance 21 = .ok (.invokevirtual 144, 3) := by decide +kernel
theorem dX5_chance_24 : decode cX5_chance 24 = .ok (.aload_n 1, 1) := by decide +kernel
theorem dX5_chance_25 : decode cX5_chance 25 = .ok (.getfield 147, 3) := by decide +kernel
theorem dX5_chance_28 : decode cX5_chance 28 = .ok (.if_icmp .ge 12, 3) := by decide +kernel
theorem dX5_chance_31 : decode cX5_chance 31 = .ok (.aload_n 0, 1) := by decide +kernel
theorem dX5_chance_32 : decode cX5_chance 32 = .ok (.aload_n 1, 1) := by decide +kernel
theorem dX5_chance_33 : decode cX5_chance 33 = .ok (.iload_n 2, 1) := by decide +kernel
theorem dX5_chance_34 : decode cX5_chance 34 = .ok (.invokevirtual 125, 3) := by decide +kernel
theorem dX5_chance_37 : decode cX5_chance 37 = .ok (.goto 9, 3) := by decide +kernel
theorem dX5_chance_40 : decode cX5_chance 40 = .ok (.aload_n 0, 1) := by decide +kernel
theorem dX5_chance_41 : decode cX5_chance 41 = .ok (.aload_n 1, 1) := by decide +kernel
theorem dX5_chance_42 : decode cX5_chance 42 = .ok (.iconst 1, 1) := by decide +kernel
theorem dX5_chance_43 : decode cX5_chance 43 = .ok (.invokevirtual 128, 3) := by decide +kernel
theorem dX5_chance_46 : decode cX5_chance 46 = .ok (.ireturn, 1) := by decide +kernel
noncomputable def Li_chance (σ : St) (a0 : Nat) (a1 : Nat) : Option (Int32 × St) :=
  if (σ.1 a1 3) = 0 then (some (0, σ)) else (bd2 (Li_draw σ a0 (σ.1 a1 3)) (fun r2 σ3 => bd2 (Li_draw σ3 a0 16) (fun r5 σ6 => if (σ6.1 a1 5) ≤ r5 then (bd2 (Li_slide σ6 a0 a1 1) (fun r8 σ9 => chk (ckz r8) (some (r8, σ9)))) else (bd2 (Li_flip σ6 a0 a1 r2) (fun r12 σ13 => chk (ckz r12) (some (r12, σ13)))))))
set_option maxRecDepth 100000 in
set_option maxHeartbeats 4000000 in
theorem tm_Li_chance {V : Ev} {Γ : Cn} {fin : Option Value × St} {σ : St} {a0 : Nat} {a1 : Nat} {o : (Int32 × St)} (X : Cx V Γ M_X5_chance) {A : (Int32 × St) → Prop} (k0 : okLi a0) (k1 : okCl a1) (hr : ∀ (r : Int32) (σ9 : St), A (r, σ9) → (some (.int r), σ9) = fin) (h : Li_chance σ a0 a1 = some o) (hA : A o) : Go V Γ M_X5_chance (Zm V Γ 3 fin) 0 [(0, .ref (V.2.2.1 + a0)), (1, .ref (V.2.2.1 + a1))] [] σ := by
  unfold Li_chance at h
  refine g_aload_n (pc := 0) X 1 rfl dX5_chance_0 ?_
  refine g_getI (pc := 1) X k_fl_X5_143 (sCl_0 k1) rfl dX5_chance_1 ?_
  refine g_if_ne (pc := 4) (tgt := 9) X dX5_chance_4 rfl (fun c16 => ?_) (fun c16 => ?_)
  · replace h := if_f c16 h
    refine g_aload_n (pc := 9) X 0 rfl dX5_chance_9 ?_
    refine g_aload_n (pc := 10) X 1 rfl dX5_chance_10 ?_
    refine g_getI (pc := 11) X k_fl_X5_143 (sCl_0 k1) rfl dX5_chance_11 ?_
    obtain ⟨r2, σ3, hc1, h⟩ := bd2_e h
    refine g_callV (pc := 14) X k_ml_X5_144 (run_Li_draw k0 hc1) (sLi_0 k0) rfl (room_ok (Nat.le_of_ble_eq_true rfl) (Nat.le_of_ble_eq_true rfl)) ⟨Nat.le_refl _, Nat.le_refl _⟩ _ rfl (Nat.le_of_ble_eq_true rfl) dX5_chance_14 ?_
    show Go V Γ M_X5_chance (Zm V Γ 3 fin) 17 [(0, .ref (V.2.2.1 + a0)), (1, .ref (V.2.2.1 + a1))] [.int r2] σ3
    refine g_istore_n (pc := 17) X [(2, .int r2), (0, .ref (V.2.2.1 + a0)), (1, .ref (V.2.2.1 + a1))] rfl (Nat.le_of_ble_eq_true rfl) rfl dX5_chance_17 ?_
    refine g_aload_n (pc := 18) X 1 rfl dX5_chance_18 ?_
    refine g_bipush (v := 16) (pc := 19) X (by decide) dX5_chance_19 ?_
    obtain ⟨r5, σ6, hc4, h⟩ := bd2_e h
    refine g_callV (pc := 21) X k_ml_X5_144 (run_Li_draw k0 hc4) (sLi_0 k0) rfl (room_ok (Nat.le_of_ble_eq_true rfl) (Nat.le_of_ble_eq_true rfl)) ⟨Nat.le_refl _, Nat.le_refl _⟩ _ rfl (Nat.le_of_ble_eq_true rfl) dX5_chance_21 ?_
    show Go V Γ M_X5_chance (Zm V Γ 3 fin) 24 [(2, .int r2), (0, .ref (V.2.2.1 + a0)), (1, .ref (V.2.2.1 + a1))] [.int r5] σ6
    refine g_aload_n (pc := 24) X 2 rfl dX5_chance_24 ?_
    refine g_getI (pc := 25) X k_fl_X5_147 (sCl_0 k1) rfl dX5_chance_25 ?_
    refine g_icmp_ge (pc := 28) (tgt := 40) X dX5_chance_28 rfl (fun c15 => ?_) (fun c15 => ?_)
    · replace h := if_t c15 h
      refine g_aload_n (pc := 40) X 1 rfl dX5_chance_40 ?_
      refine g_aload_n (pc := 41) X 2 rfl dX5_chance_41 ?_
      refine g_iconst (v := 1) (pc := 42) X rfl dX5_chance_42 ?_
      obtain ⟨r8, σ9, hc7, h⟩ := bd2_e h
      refine g_callV (pc := 43) X k_ml_X5_128 (run_Li_slide k0 k1 hc7) (sLi_0 k0) rfl (room_ok (Nat.le_of_ble_eq_true rfl) (Nat.le_of_ble_eq_true rfl)) ⟨Nat.le_refl _, Nat.le_refl _⟩ _ rfl (Nat.le_of_ble_eq_true rfl) dX5_chance_43 ?_
      show Go V Γ M_X5_chance (Zm V Γ 3 fin) 46 [(2, .int r2), (0, .ref (V.2.2.1 + a0)), (1, .ref (V.2.2.1 + a1))] [.int r8] σ9
      obtain ⟨c10, h⟩ := chk_e h
      cases h
      exact g_iret (pc := 46) X rfl (ckz_e c10).1 (hr _ _ hA) dX5_chance_46
    · replace h := if_f c15 h
      refine g_aload_n (pc := 31) X 1 rfl dX5_chance_31 ?_
      refine g_aload_n (pc := 32) X 2 rfl dX5_chance_32 ?_
      refine g_iload_n (pc := 33) X 0 rfl dX5_chance_33 ?_
      obtain ⟨r12, σ13, hc11, h⟩ := bd2_e h
      refine g_callV (pc := 34) X k_ml_X5_125 (run_Li_flip k0 k1 hc11) (sLi_0 k0) rfl (room_ok (Nat.le_of_ble_eq_true rfl) (Nat.le_of_ble_eq_true rfl)) ⟨Nat.le_refl _, Nat.le_refl _⟩ _ rfl (Nat.le_of_ble_eq_true rfl) dX5_chance_34 ?_
      show Go V Γ M_X5_chance (Zm V Γ 3 fin) 37 [(2, .int r2), (0, .ref (V.2.2.1 + a0)), (1, .ref (V.2.2.1 + a1))] [.int r12] σ13
      refine g_goto (pc := 37) (tgt := 46) X dX5_chance_37 rfl ?_
      obtain ⟨c14, h⟩ := chk_e h
      cases h
      exact g_iret (pc := 46) X rfl (ckz_e c14).1 (hr _ _ hA) dX5_chance_46
  · replace h := if_t c16 h
    refine g_iconst (v := 0) (pc := 7) X rfl dX5_chance_7 ?_
    cases h
    exact g_iret (pc := 8) X rfl nz0.1 (hr _ _ hA) dX5_chance_8
set_option maxRecDepth 100000 in
theorem run_Li_chance {V : Ev} {σ : St} {a0 : Nat} {a1 : Nat} {o : (Int32 × St)} (k0 : okLi a0) (k1 : okCl a1)  (h : Li_chance σ a0 a1 = some o) : Rs V 3 M_X5_chance [.ref (V.2.2.1 + a0), .ref (V.2.2.1 + a1)] σ (some (.int o.1), o.2) := by
  refine Rs.of (by decide +kernel) (Nat.le_of_ble_eq_true rfl) (fun Γ X => ?_)
  exact tm_Li_chance X (A := fun o1 => o1 = o) k0 k1 (fun _ _ e => by rw [← e]) h rfl
theorem dX5_partIfItCan_0 : decode cX5_partIfItCan 0 = .ok (.aload_n 0, 1) := by decide +kernel
theorem dX5_partIfItCan_1 : decode cX5_partIfItCan 1 = .ok (.iload_n 1, 1) := by decide +kernel
theorem dX5_partIfItCan_2 : decode cX5_partIfItCan 2 = .ok (.invokevirtual 122, 3) := by decide +kernel
theorem dX5_partIfItCan_5 : decode cX5_partIfItCan 5 = .ok (.ifCond .eq 12, 3) := by decide +kernel
theorem dX5_partIfItCan_8 : decode cX5_partIfItCan 8 = .ok (.aload_n 0, 1) := by decide +kernel
theorem dX5_partIfItCan_9 : decode cX5_partIfItCan 9 = .ok (.iload_n 1, 1) := by decide +kernel
theorem dX5_partIfItCan_10 : decode cX5_partIfItCan 10 = .ok (.iload_n 2, 1) := by decide +kernel
theorem dX5_partIfItCan_11 : decode cX5_partIfItCan 11 = .ok (.invokevirtual 136, 3) := by decide +kernel
theorem dX5_partIfItCan_14 : decode cX5_partIfItCan 14 = .ok (.ifCond .eq 5, 3) := by decide +kernel
theorem dX5_partIfItCan_17 : decode cX5_partIfItCan 17 = .ok (.iconst 0, 1) := by decide +kernel
theorem dX5_partIfItCan_18 : decode cX5_partIfItCan 18 = .ok (.ireturn, 1) := by decide +kernel
theorem dX5_partIfItCan_19 : decode cX5_partIfItCan 19 = .ok (.aload_n 0, 1) := by decide +kernel
theorem dX5_partIfItCan_20 : decode cX5_partIfItCan 20 = .ok (.iload_n 1, 1) := by decide +kernel
theorem dX5_partIfItCan_21 : decode cX5_partIfItCan 21 = .ok (.iload_n 2, 1) := by decide +kernel
theorem dX5_partIfItCan_22 : decode cX5_partIfItCan 22 = .ok (.invokevirtual 139, 3) := by decide +kernel
theorem dX5_partIfItCan_25 : decode cX5_partIfItCan 25 = .ok (.iconst 1, 1) := by decide +kernel
theorem dX5_partIfItCan_26 : decode cX5_partIfItCan 26 = .ok (.ireturn, 1) := by decide +kernel
noncomputable def Li_partIfItCan (σ : St) (a0 : Nat) (p1 : Int32) (p2 : Int32) : Option (Int32 × St) :=
  bd (Cl_isThere σ a0 p1) (fun r2 => if r2 = 0 then (some (0, σ)) else (bd (Cl_partTrouble σ a0 p1 p2) (fun r4 => if r4 = 0 then (bd (Cl_part σ a0 p1 p2) (fun σ6 => some (1, σ6))) else (some (0, σ)))))
set_option maxRecDepth 100000 in
set_option maxHeartbeats 4000000 in
theorem tm_Li_partIfItCan {V : Ev} {Γ : Cn} {fin : Option Value × St} {σ : St} {a0 : Nat} {p1 : Int32} {p2 : Int32} {o : (Int32 × St)} (X : Cx V Γ M_X5_partIfItCan) {A : (Int32 × St) → Prop} (k0 : okCl a0) (hr : ∀ (r : Int32) (σ9 : St), A (r, σ9) → (some (.int r), σ9) = fin) (h : Li_partIfItCan σ a0 p1 p2 = some o) (hA : A o) : Go V Γ M_X5_partIfItCan (Zm V Γ 3 fin) 0 [(0, .ref (V.2.2.1 + a0)), (1, .int p1), (2, .int p2)] [] σ := by
  unfold Li_partIfItCan at h
  refine g_aload_n (pc := 0) X 0 rfl dX5_partIfItCan_0 ?_
  refine g_iload_n (pc := 1) X 1 rfl dX5_partIfItCan_1 ?_
  obtain ⟨r2, hc1, h⟩ := bd_e h
  refine g_callV (pc := 2) X k_ml_X5_122 (run_Cl_isThere k0 hc1) (sCl_0 k0) rfl (room_ok (Nat.le_of_ble_eq_true rfl) (Nat.le_of_ble_eq_true rfl)) ⟨Nat.le_refl _, Nat.le_refl _⟩ _ rfl (Nat.le_of_ble_eq_true rfl) dX5_partIfItCan_2 ?_
  show Go V Γ M_X5_partIfItCan (Zm V Γ 3 fin) 5 [(0, .ref (V.2.2.1 + a0)), (1, .int p1), (2, .int p2)] [.int r2] σ
  refine g_if_eq (pc := 5) (tgt := 17) X dX5_partIfItCan_5 rfl (fun c8 => ?_) (fun c8 => ?_)
  · replace h := if_t c8 h
    refine g_iconst (v := 0) (pc := 17) X rfl dX5_partIfItCan_17 ?_
    cases h
    exact g_iret (pc := 18) X rfl nz0.1 (hr _ _ hA) dX5_partIfItCan_18
  · replace h := if_f c8 h
    refine g_aload_n (pc := 8) X 0 rfl dX5_partIfItCan_8 ?_
    refine g_iload_n (pc := 9) X 1 rfl dX5_partIfItCan_9 ?_
    refine g_iload_n (pc := 10) X 2 rfl dX5_partIfItCan_10 ?_
    obtain ⟨r4, hc3, h⟩ := bd_e h
    refine g_callV (pc := 11) X k_ml_X5_136 (run_Cl_partTrouble k0 hc3) (sCl_0 k0) rfl (room_ok (Nat.le_of_ble_eq_true rfl) (Nat.le_of_ble_eq_true rfl)) ⟨Nat.le_refl _, Nat.le_refl _⟩ _ rfl (Nat.le_of_ble_eq_true rfl) dX5_partIfItCan_11 ?_
    show Go V Γ M_X5_partIfItCan (Zm V Γ 3 fin) 14 [(0, .ref (V.2.2.1 + a0)), (1, .int p1), (2, .int p2)] [.int r4] σ
    refine g_if_eq (pc := 14) (tgt := 19) X dX5_partIfItCan_14 rfl (fun c7 => ?_) (fun c7 => ?_)
    · replace h := if_t c7 h
      refine g_aload_n (pc := 19) X 0 rfl dX5_partIfItCan_19 ?_
      refine g_iload_n (pc := 20) X 1 rfl dX5_partIfItCan_20 ?_
      refine g_iload_n (pc := 21) X 2 rfl dX5_partIfItCan_21 ?_
      obtain ⟨σ6, hc5, h⟩ := bd_e h
      refine g_callV (pc := 22) X k_ml_X5_139 (run_Cl_part k0 hc5) (sCl_0 k0) rfl (room_ok (Nat.le_of_ble_eq_true rfl) (Nat.le_of_ble_eq_true rfl)) ⟨Nat.le_refl _, Nat.le_refl _⟩ _ rfl (Nat.le_of_ble_eq_true rfl) dX5_partIfItCan_22 ?_
      show Go V Γ M_X5_partIfItCan (Zm V Γ 3 fin) 25 [(0, .ref (V.2.2.1 + a0)), (1, .int p1), (2, .int p2)] [] σ6
      refine g_iconst (v := 1) (pc := 25) X rfl dX5_partIfItCan_25 ?_
      cases h
      exact g_iret (pc := 26) X rfl nz1.1 (hr _ _ hA) dX5_partIfItCan_26
    · replace h := if_f c7 h
      refine g_iconst (v := 0) (pc := 17) X rfl dX5_partIfItCan_17 ?_
      cases h
      exact g_iret (pc := 18) X rfl nz0.1 (hr _ _ hA) dX5_partIfItCan_18
set_option maxRecDepth 100000 in
theorem run_Li_partIfItCan {V : Ev} {σ : St} {a0 : Nat} {p1 : Int32} {p2 : Int32} {o : (Int32 × St)} (k0 : okCl a0)  (h : Li_partIfItCan σ a0 p1 p2 = some o) : Rs V 3 M_X5_partIfItCan [.ref (V.2.2.1 + a0), .int p1, .int p2] σ (some (.int o.1), o.2) := by
  refine Rs.of (by decide +kernel) (Nat.le_of_ble_eq_true rfl) (fun Γ X => ?_)
  exact tm_Li_partIfItCan X (A := fun o1 => o1 = o) k0 (fun _ _ e => by rw [← e]) h rfl
theorem dX5_act_0 : decode cX5_act 0 = .ok (.aload_n 2, 1) := by decide +kernel
theorem dX5_act_1 : decode cX5_act 1 = .ok (.getfield 78, 3) := by decide +kernel
theorem dX5_act_4 : decode cX5_act 4 = .ok (.iload_n 3, 1) := by decide +kernel
theorem dX5_act_5 : decode cX5_act 5 = .ok (.iaload, 1) := by decide +kernel
theorem dX5_act_6 : decode cX5_act 6 = .ok (.istore 4, 2) := by decide +kernel
theorem dX5_act_8 : decode cX5_act 8 = .ok (.aload_n 2, 1) := by decide +kernel
theorem dX5_act_9 : decode cX5_act 9 = .ok (.getfield 51, 3) := by decide +kernel
theorem dX5_act_12 : decode cX5_act 12 = .ok (.iload_n 3, 1) := by decide +kernel
theorem dX5_act_13 : decode cX5_act 13 = .ok (.iaload, 1) := by decide +kernel
theorem dX5_act_14 : decode cX5_act 14 = .ok (.lookupswitch 85 #[(14, 60), (15, 26)], 26) := by decide +kernel
theorem dX5_act_40 : decode cX5_act 40 = .ok (.aload_n 1, 1) := by decide +kernel
theorem dX5_act_41 : decode cX5_act 41 = .ok (.iload 4, 2) := by decide +kernel
theorem dX5_act_43 : decode cX5_act 43 = .ok (.invokevirtual 122, 3) := by decide +kernel
theorem dX5_act_46 : decode cX5_act 46 = .ok (.ifCond .eq 26, 3) := by decide +kernel
theorem dX5_act_49 : decode cX5_act 49 = .ok (.aload_n 1, 1) := by decide +kernel
theorem dX5_act_50 : decode cX5_act 50 = .ok (.iload 4, 2) := by decide +kernel
theorem dX5_act_52 : decode cX5_act 52 = .ok (.invokevirtual 98, 3) := by decide +kernel
theorem dX5_act_55 : decode cX5_act 55 = .ok (.ifCond .ne 17, 3) := by decide +kernel
theorem dX5_act_58 : decode cX5_act 58 = .ok (.aload_n 0, 1) := by decide +kernel
theorem dX5_act_59 : decode cX5_act 59 = .ok (.aload_n 1, 1) := by decide +kernel
theorem dX5_act_60 : decode cX5_act 60 = .ok (.iload 4, 2) := by decide +kernel
theorem dX5_act_62 : decode cX5_act 62 = .ok (.invokevirtual 125, 3) := by decide +kernel
theorem dX5_act_65 : decode cX5_act 65 = .ok (.ifCond .eq 7, 3) := by decide +kernel
theorem dX5_act_68 : decode cX5_act 68 = .ok (.iconst 1, 1) := by decide +kernel
theorem dX5_act_69 : decode cX5_act 69 = .ok (.goto 4, 3) := by decide +kernel
theorem dX5_act_72 : decode cX5_act 72 = .ok (.iconst 0, 1) := by decide +kernel
theorem dX5_act_73 : decode cX5_act 73 = .ok (.ireturn, 1) := by decide +kernel
theorem dX5_act_74 : decode cX5_act 74 = .ok (.aload_n 1, 1) := by decide +kernel
theorem dX5_act_75 : decode cX5_act 75 = .ok (.iload 4, 2) := by decide +kernel
theorem dX5_act_77 : decode cX5_act 77 = .ok (.invokevirtual 98, 3) := by decide +kernel
theorem dX5_act_80 : decode cX5_act 80 = .ok (.ifCond .eq 17, 3) := by decide +kernel
theorem dX5_act_83 : decode cX5_act 83 = .ok (.aload_n 0, 1) := by decide +kernel
theorem dX5_act_84 : decode cX5_act 84 = .ok (.aload_n 1, 1) := by decide +kernel
theorem dX5_act_85 : decode cX5_act 85 = .ok (.iload 4, 2) := by decide +kernel
theorem dX5_act_87 : decode cX5_act 87 = .ok (.invokevirtual 125, 3) := by decide +kernel
theorem dX5_act_90 : decode cX5_act 90 = .ok (.ifCond .eq 7, 3) := by decide +kernel
theorem dX5_act_93 : decode cX5_act 93 = .ok (.iconst 1, 1) := by decide +kernel
theorem dX5_act_94 : decode cX5_act 94 = .ok (.goto 4, 3) := by decide +kernel
theorem dX5_act_97 : decode cX5_act 97 = .ok (.iconst 0, 1) := by decide +kernel
theorem dX5_act_98 : decode cX5_act 98 = .ok (.ireturn, 1) := by decide +kernel
theorem dX5_act_99 : decode cX5_act 99 = .ok (.aload_n 2, 1) := by decide +kernel
theorem dX5_act_100 : decode cX5_act 100 = .ok (.getfield 71, 3) := by decide +kernel
theorem dX5_act_103 : decode cX5_act 103 = .ok (.iload_n 3, 1) := by decide +kernel
theorem dX5_act_104 : decode cX5_act 104 = .ok (.iaload, 1) := by decide +kernel
theorem dX5_act_105 : decode cX5_act 105 = .ok (.ifCond .eq 21, 3) := by decide +kernel
theorem dX5_act_108 : decode cX5_act 108 = .ok (.aload_n 0, 1) := by decide +kernel
theorem dX5_act_109 : decode cX5_act 109 = .ok (.aload_n 1, 1) := by decide +kernel
theorem dX5_act_110 : decode cX5_act 110 = .ok (.aload_n 2, 1) := by decide +kernel
theorem dX5_act_111 : decode cX5_act 111 = .ok (.getfield 71, 3) := by decide +kernel
theorem dX5_act_114 : decode cX5_act 114 = .ok (.iload_n 3, 1) := by decide +kernel
theorem dX5_act_115 : decode cX5_act 115 = .ok (.iaload, 1) := by decide +kernel
theorem dX5_act_116 : decode cX5_act 116 = .ok (.invokevirtual 128, 3) := by decide +kernel
theorem dX5_act_119 : decode cX5_act 119 = .ok (.ifCond .eq 7, 3) := by decide +kernel
theorem dX5_act_122 : decode cX5_act 122 = .ok (.iconst 1, 1) := by decide +kernel
theorem dX5_act_123 : decode cX5_act 123 = .ok (.goto 4, 3) := by decide +kernel
theorem dX5_act_126 : decode cX5_act 126 = .ok (.iconst 0, 1) := by decide +kernel
theorem dX5_act_127 : decode cX5_act 127 = .ok (.ireturn, 1) := by decide +kernel
noncomputable def Li_act (σ : St) (a0 : Nat) (a1 : Nat) (a2 : Nat) (p3 : Int32) : Option (Int32 × St) :=
  chk (ix p3 60) (bnd ((σ.1 (a2 + 4) (tn p3))) (fun v2 => chk (ix p3 60) (if (σ.1 (a2 + 1) (tn p3)) = 14 then (bd (Cl_isOn σ a1 v2) (fun r5 => if r5 = 0 then (some (0, σ)) else (bd2 (Li_flip σ a0 a1 v2) (fun r7 σ8 => if r7 = 0 then (some (0, σ8)) else (some (1, σ8)))))) else if (σ.1 (a2 + 1) (tn p3)) = 15 then (bd (Cl_isThere σ a1 v2) (fun r13 => if r13 = 0 then (some (0, σ)) else (bd (Cl_isOn σ a1 v2) (fun r15 => if r15 = 0 then (bd2 (Li_flip σ a0 a1 v2) (fun r17 σ18 => if r17 = 0 then (some (0, σ18)) else (some (1, σ18)))) else (some (0, σ)))))) else (chk (ix p3 60) (if (σ.1 (a2 + 5) (tn p3)) = 0 then (some (0, σ)) else (chk (ix p3 60) (bd2 (Li_slide σ a0 a1 (σ.1 (a2 + 5) (tn p3))) (fun r26 σ27 => if r26 = 0 then (some (0, σ27)) else (some (1, σ27))))))))))
set_option maxRecDepth 100000 in
set_option maxHeartbeats 4000000 in
theorem tm_Li_act {V : Ev} {Γ : Cn} {fin : Option Value × St} {σ : St} {a0 : Nat} {a1 : Nat} {a2 : Nat} {p3 : Int32} {o : (Int32 × St)} (X : Cx V Γ M_X5_act) {A : (Int32 × St) → Prop} (k0 : okLi a0) (k1 : okCl a1) (k2 : okDa a2) (hr : ∀ (r : Int32) (σ9 : St), A (r, σ9) → (some (.int r), σ9) = fin) (h : Li_act σ a0 a1 a2 p3 = some o) (hA : A o) : Go V Γ M_X5_act (Zm V Γ 3 fin) 0 [(0, .ref (V.2.2.1 + a0)), (1, .ref (V.2.2.1 + a1)), (2, .ref (V.2.2.1 + a2)), (3, .int p3)] [] σ := by
  unfold Li_act at h
  refine g_aload_n (pc := 0) X 2 rfl dX5_act_0 ?_
  refine g_getR (r := (a2 + 4)) (pc := 1) X k_fl_X5_78 (sDa_0 k2) rfl dX5_act_1 ?_
  refine g_iload_n (pc := 4) X 3 rfl dX5_act_4 ?_
  obtain ⟨c1, h⟩ := chk_e h
  refine g_iald (pc := 5) X (sDa_4 k2) c1 dX5_act_5 ?_
  obtain ⟨v2, e_v2, h⟩ := bnd_e h
  refine g_nmI e_v2 ?_
  refine g_istore (pc := 6) X [(4, .int v2), (0, .ref (V.2.2.1 + a0)), (1, .ref (V.2.2.1 + a1)), (2, .ref (V.2.2.1 + a2)), (3, .int p3)] (Nat.le_of_ble_eq_true rfl) rfl dX5_act_6 ?_
  refine g_aload_n (pc := 8) X 3 rfl dX5_act_8 ?_
  refine g_getR (r := (a2 + 1)) (pc := 9) X k_fl_X5_51 (sDa_0 k2) rfl dX5_act_9 ?_
  refine g_iload_n (pc := 12) X 4 rfl dX5_act_12 ?_
  obtain ⟨c3, h⟩ := chk_e h
  refine g_iald (pc := 13) X (sDa_1 k2) c3 dX5_act_13 ?_
  by_cases c11 : (σ.1 (a2 + 1) (tn p3)) = 14
  · replace h := if_t c11 h
    refine g_lookIn (pc := 14) (tgt := 74) X c11 dX5_act_14 (by decide) rfl rfl ?_
    refine g_aload_n (pc := 74) X 2 rfl dX5_act_74 ?_
    refine g_iload (pc := 75) X 0 rfl dX5_act_75 ?_
    obtain ⟨r5, hc4, h⟩ := bd_e h
    refine g_callV (pc := 77) X k_ml_X5_98 (run_Cl_isOn k1 hc4) (sCl_0 k1) rfl (room_ok (Nat.le_of_ble_eq_true rfl) (Nat.le_of_ble_eq_true rfl)) ⟨Nat.le_refl _, Nat.le_refl _⟩ _ rfl (Nat.le_of_ble_eq_true rfl) dX5_act_77 ?_
    show Go V Γ M_X5_act (Zm V Γ 3 fin) 80 [(4, .int v2), (0, .ref (V.2.2.1 + a0)), (1, .ref (V.2.2.1 + a1)), (2, .ref (V.2.2.1 + a2)), (3, .int p3)] [.int r5] σ
    refine g_if_eq (pc := 80) (tgt := 97) X dX5_act_80 rfl (fun c10 => ?_) (fun c10 => ?_)
    · replace h := if_t c10 h
      refine g_iconst (v := 0) (pc := 97) X rfl dX5_act_97 ?_
      cases h
      exact g_iret (pc := 98) X rfl nz0.1 (hr _ _ hA) dX5_act_98
    · replace h := if_f c10 h
      refine g_aload_n (pc := 83) X 1 rfl dX5_act_83 ?_
      refine g_aload_n (pc := 84) X 2 rfl dX5_act_84 ?_
      refine g_iload (pc := 85) X 0 rfl dX5_act_85 ?_
      obtain ⟨r7, σ8, hc6, h⟩ := bd2_e h
      refine g_callV (pc := 87) X k_ml_X5_125 (run_Li_flip k0 k1 hc6) (sLi_0 k0) rfl (room_ok (Nat.le_of_ble_eq_true rfl) (Nat.le_of_ble_eq_true rfl)) ⟨Nat.le_refl _, Nat.le_refl _⟩ _ rfl (Nat.le_of_ble_eq_true rfl) dX5_act_87 ?_
      show Go V Γ M_X5_act (Zm V Γ 3 fin) 90 [(4, .int v2), (0, .ref (V.2.2.1 + a0)), (1, .ref (V.2.2.1 + a1)), (2, .ref (V.2.2.1 + a2)), (3, .int p3)] [.int r7] σ8
      refine g_if_eq (pc := 90) (tgt := 97) X dX5_act_90 rfl (fun c9 => ?_) (fun c9 => ?_)
      · replace h := if_t c9 h
        refine g_iconst (v := 0) (pc := 97) X rfl dX5_act_97 ?_
        cases h
        exact g_iret (pc := 98) X rfl nz0.1 (hr _ _ hA) dX5_act_98
      · replace h := if_f c9 h
        refine g_iconst (v := 1) (pc := 93) X rfl dX5_act_93 ?_
        refine g_goto (pc := 94) (tgt := 98) X dX5_act_94 rfl ?_
        cases h
        exact g_iret (pc := 98) X rfl nz1.1 (hr _ _ hA) dX5_act_98
  replace h := if_f c11 h
  by_cases c22 : (σ.1 (a2 + 1) (tn p3)) = 15
  · replace h := if_t c22 h
    refine g_lookIn (pc := 14) (tgt := 40) X c22 dX5_act_14 (by decide) rfl rfl ?_
    refine g_aload_n (pc := 40) X 2 rfl dX5_act_40 ?_
    refine g_iload (pc := 41) X 0 rfl dX5_act_41 ?_
    obtain ⟨r13, hc12, h⟩ := bd_e h
    refine g_callV (pc := 43) X k_ml_X5_122 (run_Cl_isThere k1 hc12) (sCl_0 k1) rfl (room_ok (Nat.le_of_ble_eq_true rfl) (Nat.le_of_ble_eq_true rfl)) ⟨Nat.le_refl _, Nat.le_refl _⟩ _ rfl (Nat.le_of_ble_eq_true rfl) dX5_act_43 ?_
    show Go V Γ M_X5_act (Zm V Γ 3 fin) 46 [(4, .int v2), (0, .ref (V.2.2.1 + a0)), (1, .ref (V.2.2.1 + a1)), (2, .ref (V.2.2.1 + a2)), (3, .int p3)] [.int r13] σ
    refine g_if_eq (pc := 46) (tgt := 72) X dX5_act_46 rfl (fun c21 => ?_) (fun c21 => ?_)
    · replace h := if_t c21 h
      refine g_iconst (v := 0) (pc := 72) X rfl dX5_act_72 ?_
      cases h
      exact g_iret (pc := 73) X rfl nz0.1 (hr _ _ hA) dX5_act_73
    · replace h := if_f c21 h
      refine g_aload_n (pc := 49) X 2 rfl dX5_act_49 ?_
      refine g_iload (pc := 50) X 0 rfl dX5_act_50 ?_
      obtain ⟨r15, hc14, h⟩ := bd_e h
      refine g_callV (pc := 52) X k_ml_X5_98 (run_Cl_isOn k1 hc14) (sCl_0 k1) rfl (room_ok (Nat.le_of_ble_eq_true rfl) (Nat.le_of_ble_eq_true rfl)) ⟨Nat.le_refl _, Nat.le_refl _⟩ _ rfl (Nat.le_of_ble_eq_true rfl) dX5_act_52 ?_
      show Go V Γ M_X5_act (Zm V Γ 3 fin) 55 [(4, .int v2), (0, .ref (V.2.2.1 + a0)), (1, .ref (V.2.2.1 + a1)), (2, .ref (V.2.2.1 + a2)), (3, .int p3)] [.int r15] σ
      refine g_if_ne (pc := 55) (tgt := 72) X dX5_act_55 rfl (fun c20 => ?_) (fun c20 => ?_)
      · replace h := if_f c20 h
        refine g_iconst (v := 0) (pc := 72) X rfl dX5_act_72 ?_
        cases h
        exact g_iret (pc := 73) X rfl nz0.1 (hr _ _ hA) dX5_act_73
      · replace h := if_t c20 h
        refine g_aload_n (pc := 58) X 1 rfl dX5_act_58 ?_
        refine g_aload_n (pc := 59) X 2 rfl dX5_act_59 ?_
        refine g_iload (pc := 60) X 0 rfl dX5_act_60 ?_
        obtain ⟨r17, σ18, hc16, h⟩ := bd2_e h
        refine g_callV (pc := 62) X k_ml_X5_125 (run_Li_flip k0 k1 hc16) (sLi_0 k0) rfl (room_ok (Nat.le_of_ble_eq_true rfl) (Nat.le_of_ble_eq_true rfl)) ⟨Nat.le_refl _, Nat.le_refl _⟩ _ rfl (Nat.le_of_ble_eq_true rfl) dX5_act_62 ?_
        show Go V Γ M_X5_act (Zm V Γ 3 fin) 65 [(4, .int v2), (0, .ref (V.2.2.1 + a0)), (1, .ref (V.2.2.1 + a1)), (2, .ref (V.2.2.1 + a2)), (3, .int p3)] [.int r17] σ18
        refine g_if_eq (pc := 65) (tgt := 72) X dX5_act_65 rfl (fun c19 => ?_) (fun c19 => ?_)
        · replace h := if_t c19 h
          refine g_iconst (v := 0) (pc := 72) X rfl dX5_act_72 ?_
          cases h
          exact g_iret (pc := 73) X rfl nz0.1 (hr _ _ hA) dX5_act_73
        · replace h := if_f c19 h
          refine g_iconst (v := 1) (pc := 68) X rfl dX5_act_68 ?_
          refine g_goto (pc := 69) (tgt := 73) X dX5_act_69 rfl ?_
          cases h
          exact g_iret (pc := 73) X rfl nz1.1 (hr _ _ hA) dX5_act_73
  replace h := if_f c22 h
  refine g_lookOut (pc := 14) (tgt := 99) X dX5_act_14 (by decide) ?_ rfl ?_
  · show Op.lookupswitch.offset [(14, 60), (15, 26)] _ _ = _
    rw [lv_osw (k := 14) (a := 14) c11 rfl, lv_osw (k := 15) (a := 15) c22 rfl]; rfl
  refine g_aload_n (pc := 99) X 3 rfl dX5_act_99 ?_
  refine g_getR (r := (a2 + 5)) (pc := 100) X k_fl_X5_71 (sDa_0 k2) rfl dX5_act_100 ?_
  refine g_iload_n (pc := 103) X 4 rfl dX5_act_103 ?_
  obtain ⟨c23, h⟩ := chk_e h
  refine g_iald (pc := 104) X (sDa_5 k2) c23 dX5_act_104 ?_
  refine g_if_eq (pc := 105) (tgt := 126) X dX5_act_105 rfl (fun c29 => ?_) (fun c29 => ?_)
  · replace h := if_t c29 h
    refine g_iconst (v := 0) (pc := 126) X rfl dX5_act_126 ?_
    cases h
    exact g_iret (pc := 127) X rfl nz0.1 (hr _ _ hA) dX5_act_127
  · replace h := if_f c29 h
    refine g_aload_n (pc := 108) X 1 rfl dX5_act_108 ?_
    refine g_aload_n (pc := 109) X 2 rfl dX5_act_109 ?_
    refine g_aload_n (pc := 110) X 3 rfl dX5_act_110 ?_
    refine g_getR (r := (a2 + 5)) (pc := 111) X k_fl_X5_71 (sDa_0 k2) rfl dX5_act_111 ?_
    refine g_iload_n (pc := 114) X 4 rfl dX5_act_114 ?_
    obtain ⟨c24, h⟩ := chk_e h
    refine g_iald (pc := 115) X (sDa_5 k2) c24 dX5_act_115 ?_
    obtain ⟨r26, σ27, hc25, h⟩ := bd2_e h
    refine g_callV (pc := 116) X k_ml_X5_128 (run_Li_slide k0 k1 hc25) (sLi_0 k0) rfl (room_ok (Nat.le_of_ble_eq_true rfl) (Nat.le_of_ble_eq_true rfl)) ⟨Nat.le_refl _, Nat.le_refl _⟩ _ rfl (Nat.le_of_ble_eq_true rfl) dX5_act_116 ?_
    show Go V Γ M_X5_act (Zm V Γ 3 fin) 119 [(4, .int v2), (0, .ref (V.2.2.1 + a0)), (1, .ref (V.2.2.1 + a1)), (2, .ref (V.2.2.1 + a2)), (3, .int p3)] [.int r26] σ27
    refine g_if_eq (pc := 119) (tgt := 126) X dX5_act_119 rfl (fun c28 => ?_) (fun c28 => ?_)
    · replace h := if_t c28 h
      refine g_iconst (v := 0) (pc := 126) X rfl dX5_act_126 ?_
      cases h
      exact g_iret (pc := 127) X rfl nz0.1 (hr _ _ hA) dX5_act_127
    · replace h := if_f c28 h
      refine g_iconst (v := 1) (pc := 122) X rfl dX5_act_122 ?_
      refine g_goto (pc := 123) (tgt := 127) X dX5_act_123 rfl ?_
      cases h
      exact g_iret (pc := 127) X rfl nz1.1 (hr _ _ hA) dX5_act_127
set_option maxRecDepth 100000 in
theorem run_Li_act {V : Ev} {σ : St} {a0 : Nat} {a1 : Nat} {a2 : Nat} {p3 : Int32} {o : (Int32 × St)} (k0 : okLi a0) (k1 : okCl a1) (k2 : okDa a2)  (h : Li_act σ a0 a1 a2 p3 = some o) : Rs V 3 M_X5_act [.ref (V.2.2.1 + a0), .ref (V.2.2.1 + a1), .ref (V.2.2.1 + a2), .int p3] σ (some (.int o.1), o.2) := by
  refine Rs.of (by decide +kernel) (Nat.le_of_ble_eq_true rfl) (fun Γ X => ?_)
  exact tm_Li_act X (A := fun o1 => o1 = o) k0 k1 k2 (fun _ _ e => by rw [← e]) h rfl
theorem dX5_follow_0 : decode cX5_follow 0 = .ok (.aload_n 2, 1) := by decide +kernel
theorem dX5_follow_1 : decode cX5_follow 1 = .ok (.getfield 51, 3) := by decide +kernel
theorem dX5_follow_4 : decode cX5_follow 4 = .ok (.iload_n 3, 1) := by decide +kernel
theorem dX5_follow_5 : decode cX5_follow 5 = .ok (.iaload, 1) := by decide +kernel
theorem dX5_follow_6 : decode cX5_follow 6 = .ok (.istore 5, 2) := by decide +kernel
theorem dX5_follow_8 : decode cX5_follow 8 = .ok (.iload 5, 2) := by decide +kernel
theorem dX5_follow_10 : decode cX5_follow 10 = .ok (.bipush 24, 2) := by decide +kernel
theorem dX5_follow_12 : decode cX5_follow 12 = .ok (.if_icmp .ne 10, 3) := by decide +kernel
theorem dX5_follow_15 : decode cX5_follow 15 = .ok (.aload_n 0, 1) := by decide +kernel
theorem dX5_follow_16 : decode cX5_follow 16 = .ok (.aload_n 2, 1) := by decide +kernel
theorem dX5_follow_17 : decode cX5_follow 17 = .ok (.iload_n 3, 1) := by decide +kernel
theorem dX5_follow_18 : decode cX5_follow 18 = .ok (.invokevirtual 54, 3) := by decide +kernel
theorem dX5_follow_21 : decode cX5_follow 21 = .ok (.ireturn, 1) := by decide +kernel
theorem dX5_follow_22 : decode cX5_follow 22 = .ok (.aload_n 0, 1) := by decide +kernel
theorem dX5_follow_23 : decode cX5_follow 23 = .ok (.getfield 21, 3) := by decide +kernel
theorem dX5_follow_26 : decode cX5_follow 26 = .ok (.sipush 300, 3) := by decide +kernel
theorem dX5_follow_29 : decode cX5_follow 29 = .ok (.if_icmp .lt 13, 3) := by decide +kernel
theorem dX5_follow_32 : decode cX5_follow 32 = .ok (.aload_n 0, 1) := by decide +kernel
theorem dX5_follow_33 : decode cX5_follow 33 = .ok (.iconst 1, 1) := by decide +kernel
theorem dX5_follow_34 : decode cX5_follow 34 = .ok (.putfield 37, 3) := by decide +kernel
theorem dX5_follow_37 : decode cX5_follow 37 = .ok (.aload_n 2, 1) := by decide +kernel
theorem dX5_follow_38 : decode cX5_follow 38 = .ok (.getfield 44, 3) := by decide +kernel
theorem dX5_follow_41 : decode cX5_follow 41 = .ok (.ireturn, 1) := by decide +kernel
theorem dX5_follow_42 : decode cX5_follow 42 = .ok (.aload_n 0, 1) := by decide +kernel
theorem dX5_follow_43 : decode cX5_follow 43 = .ok (.dup, 1) := by decide +kernel
theorem dX5_follow_44 : decode cX5_follow 44 = .ok (.getfield 21, 3) := by decide +kernel
theorem dX5_follow_47 : decode cX5_follow 47 = .ok (.iconst 1, 1) := by decide +kernel
theorem dX5_follow_48 : decode cX5_follow 48 = .ok (.iadd, 1) := by decide +kernel
theorem dX5_follow_49 : decode cX5_follow 49 = .ok (.putfield 21, 3) := by decide +kernel
theorem dX5_follow_52 : decode cX5_follow 52 = .ok (.iload 5, 2) := by decide +kernel
theorem dX5_follow_54 : decode cX5_follow 54 = .ok (.tableswitch 164 17 25 #[127, 101, 55, 164, 164, 164, 85, 164, 50], 50) := by decide +kernel
theorem dX5_follow_104 : decode cX5_follow 104 = .ok (.aload_n 2, 1) := by decide +kernel
theorem dX5_follow_105 : decode cX5_follow 105 = .ok (.getfield 44, 3) := by decide +kernel
theorem dX5_follow_108 : decode cX5_follow 108 = .ok (.ireturn, 1) := by decide +kernel
theorem dX5_follow_109 : decode cX5_follow 109 = .ok (.aload_n 1, 1) := by decide +kernel
theorem dX5_follow_110 : decode cX5_follow 110 = .ok (.aload_n 2, 1) := by decide +kernel
theorem dX5_follow_111 : decode cX5_follow 111 = .ok (.iload_n 3, 1) := by decide +kernel
theorem dX5_follow_112 : decode cX5_follow 112 = .ok (.aload 4, 2) := by decide +kernel
theorem dX5_follow_114 : decode cX5_follow 114 = .ok (.invokestatic 58, 3) := by decide +kernel
theorem dX5_follow_117 : decode cX5_follow 117 = .ok (.ifCond .eq 9, 3) := by decide +kernel
theorem dX5_follow_120 : decode cX5_follow 120 = .ok (.iload_n 3, 1) := by decide +kernel
theorem dX5_follow_121 : decode cX5_follow 121 = .ok (.iconst 1, 1) := by decide +kernel
theorem dX5_follow_122 : decode cX5_follow 122 = .ok (.iadd, 1) := by decide +kernel
theorem dX5_follow_123 : decode cX5_follow 123 = .ok (.goto 15, 3) := by decide +kernel
theorem dX5_follow_126 : decode cX5_follow 126 = .ok (.iload_n 3, 1) := by decide +kernel
theorem dX5_follow_127 : decode cX5_follow 127 = .ok (.aload_n 2, 1) := by decide +kernel
theorem dX5_follow_128 : decode cX5_follow 128 = .ok (.getfield 62, 3) := by decide +kernel
theorem dX5_follow_131 : decode cX5_follow 131 = .ok (.iload_n 3, 1) := by decide +kernel
theorem dX5_follow_132 : decode cX5_follow 132 = .ok (.iaload, 1) := by decide +kernel
theorem dX5_follow_133 : decode cX5_follow 133 = .ok (.invokestatic 65, 3) := by decide +kernel
theorem dX5_follow_136 : decode cX5_follow 136 = .ok (.iconst 1, 1) := by decide +kernel
theorem dX5_follow_137 : decode cX5_follow 137 = .ok (.iadd, 1) := by decide +kernel
theorem dX5_follow_138 : decode cX5_follow 138 = .ok (.ireturn, 1) := by decide +kernel
theorem dX5_follow_139 : decode cX5_follow 139 = .ok (.aload_n 0, 1) := by decide +kernel
theorem dX5_follow_140 : decode cX5_follow 140 = .ok (.getfield 11, 3) := by decide +kernel
theorem dX5_follow_143 : decode cX5_follow 143 = .ok (.iload_n 3, 1) := by decide +kernel
theorem dX5_follow_144 : decode cX5_follow 144 = .ok (.aload_n 2, 1) := by decide +kernel
theorem dX5_follow_145 : decode cX5_follow 145 = .ok (.getfield 71, 3) := by decide +kernel
theorem dX5_follow_148 : decode cX5_follow 148 = .ok (.iload_n 3, 1) := by decide +kernel
theorem dX5_follow_149 : decode cX5_follow 149 = .ok (.iaload, 1) := by decide +kernel
theorem dX5_follow_150 : decode cX5_follow 150 = .ok (.iastore, 1) := by decide +kernel
theorem dX5_follow_151 : decode cX5_follow 151 = .ok (.iload_n 3, 1) := by decide +kernel
theorem dX5_follow_152 : decode cX5_follow 152 = .ok (.iconst 1, 1) := by decide +kernel
theorem dX5_follow_153 : decode cX5_follow 153 = .ok (.iadd, 1) := by decide +kernel
theorem dX5_follow_154 : decode cX5_follow 154 = .ok (.ireturn, 1) := by decide +kernel
theorem dX5_follow_155 : decode cX5_follow 155 = .ok (.aload_n 0, 1) := by decide +kernel
theorem dX5_follow_156 : decode cX5_follow 156 = .ok (.dup, 1) := by decide +kernel
theorem dX5_follow_157 : decode cX5_follow 157 = .ok (.getfield 25, 3) := by decide +kernel
theorem dX5_follow_160 : decode cX5_follow 160 = .ok (.aload_n 0, 1) := by decide +kernel
theorem dX5_follow_161 : decode cX5_follow 161 = .ok (.aload_n 1, 1) := by decide +kernel
theorem dX5_follow_162 : decode cX5_follow 162 = .ok (.invokevirtual 74, 3) := by decide +kernel
theorem dX5_follow_165 : decode cX5_follow 165 = .ok (.ifCond .eq 7, 3) := by decide +kernel
theorem dX5_follow_168 : decode cX5_follow 168 = .ok (.iconst 0, 1) := by decide +kernel
theorem dX5_follow_169 : decode cX5_follow 169 = .ok (.goto 4, 3) := by decide +kernel
theorem dX5_follow_172 : decode cX5_follow 172 = .ok (.iconst 1, 1) := by decide +kernel
theorem dX5_follow_173 : decode cX5_follow 173 = .ok (.iadd, 1) := by decide +kernel
theorem dX5_follow_174 : decode cX5_follow 174 = .ok (.putfield 25, 3) := by decide +kernel
theorem dX5_follow_177 : decode cX5_follow 177 = .ok (.iload_n 3, 1) := by decide +kernel
theorem dX5_follow_178 : decode cX5_follow 178 = .ok (.iconst 1, 1) := by decide +kernel
theorem dX5_follow_179 : decode cX5_follow 179 = .ok (.iadd, 1) := by decide +kernel
theorem dX5_follow_180 : decode cX5_follow 180 = .ok (.ireturn, 1) := by decide +kernel
theorem dX5_follow_181 : decode cX5_follow 181 = .ok (.aload_n 0, 1) := by decide +kernel
theorem dX5_follow_182 : decode cX5_follow 182 = .ok (.dup, 1) := by decide +kernel
theorem dX5_follow_183 : decode cX5_follow 183 = .ok (.getfield 25, 3) := by decide +kernel
theorem dX5_follow_186 : decode cX5_follow 186 = .ok (.aload_n 1, 1) := by decide +kernel
theorem dX5_follow_187 : decode cX5_follow 187 = .ok (.aload_n 2, 1) := by decide +kernel
theorem dX5_follow_188 : decode cX5_follow 188 = .ok (.getfield 78, 3) := by decide +kernel
theorem dX5_follow_191 : decode cX5_follow 191 = .ok (.iload_n 3, 1) := by decide +kernel
theorem dX5_follow_192 : decode cX5_follow 192 = .ok (.iaload, 1) := by decide +kernel
theorem dX5_follow_193 : decode cX5_follow 193 = .ok (.aload_n 2, 1) := by decide +kernel
theorem dX5_follow_194 : decode cX5_follow 194 = .ok (.getfield 71, 3) := by decide +kernel
theorem dX5_follow_197 : decode cX5_follow 197 = .ok (.iload_n 3, 1) := by decide +kernel
theorem dX5_follow_198 : decode cX5_follow 198 = .ok (.iaload, 1) := by decide +kernel
theorem dX5_follow_199 : decode cX5_follow 199 = .ok (.invokestatic 81, 3) := by decide +kernel
theorem dX5_follow_202 : decode cX5_follow 202 = .ok (.ifCond .eq 7, 3) := by decide +kernel
theorem dX5_follow_205 : decode cX5_follow 205 = .ok (.iconst 0, 1) := by decide +kernel
theorem dX5_follow_206 : decode cX5_follow 206 = .ok (.goto 4, 3) := by decide +kernel
theorem dX5_follow_209 : decode cX5_follow 209 = .ok (.iconst 1, 1) := by decide +kernel
theorem dX5_follow_210 : decode cX5_follow 210 = .ok (.iadd, 1) := by decide +kernel
theorem dX5_follow_211 : decode cX5_follow 211 = .ok (.putfield 25, 3) := by decide +kernel
theorem dX5_follow_214 : decode cX5_follow 214 = .ok (.iload_n 3, 1) := by decide +kernel
theorem dX5_follow_215 : decode cX5_follow 215 = .ok (.iconst 1, 1) := by decide +kernel
theorem dX5_follow_216 : decode cX5_follow 216 = .ok (.iadd, 1) := by decide +kernel
theorem dX5_follow_217 : decode cX5_follow 217 = .ok (.ireturn, 1) := by decide +kernel
theorem dX5_follow_218 : decode cX5_follow 218 = .ok (.aload_n 0, 1) := by decide +kernel
theorem dX5_follow_219 : decode cX5_follow 219 = .ok (.dup, 1) := by decide +kernel
theorem dX5_follow_220 : decode cX5_follow 220 = .ok (.getfield 25, 3) := by decide +kernel
theorem dX5_follow_223 : decode cX5_follow 223 = .ok (.aload_n 0, 1) := by decide +kernel
theorem dX5_follow_224 : decode cX5_follow 224 = .ok (.aload_n 1, 1) := by decide +kernel
theorem dX5_follow_225 : decode cX5_follow 225 = .ok (.aload_n 2, 1) := by decide +kernel
theorem dX5_follow_226 : decode cX5_follow 226 = .ok (.iload_n 3, 1) := by decide +kernel
theorem dX5_follow_227 : decode cX5_follow 227 = .ok (.invokevirtual 85, 3) := by decide +kernel
theorem dX5_follow_230 : decode cX5_follow 230 = .ok (.ifCond .eq 7, 3) := by decide +kernel
theorem dX5_follow_233 : decode cX5_follow 233 = .ok (.iconst 0, 1) := by decide +kernel
theorem dX5_follow_234 : decode cX5_follow 234 = .ok (.goto 4, 3) := by decide +kernel
theorem dX5_follow_237 : decode cX5_follow 237 = .ok (.iconst 1, 1) := by decide +kernel
theorem dX5_follow_238 : decode cX5_follow 238 = .ok (.iadd, 1) := by decide +kernel
theorem dX5_follow_239 : decode cX5_follow 239 = .ok (.putfield 25, 3) := by decide +kernel
theorem dX5_follow_242 : decode cX5_follow 242 = .ok (.iload_n 3, 1) := by decide +kernel
theorem dX5_follow_243 : decode cX5_follow 243 = .ok (.iconst 1, 1) := by decide +kernel
theorem dX5_follow_244 : decode cX5_follow 244 = .ok (.iadd, 1) := by decide +kernel
theorem dX5_follow_245 : decode cX5_follow 245 = .ok (.ireturn, 1) := by decide +kernel
noncomputable def Li_follow (σ : St) (a0 : Nat) (a1 : Nat) (a2 : Nat) (p3 : Int32) : Option (Int32 × St) :=
  chk (ix p3 60) (bnd ((σ.1 (a2 + 1) (tn p3))) (fun v2 => if v2 = 24 then (bd2 (Li_behindEnd σ a0 a2 p3) (fun r68 σ69 => some (r68, σ69))) else (if (σ.1 a0 2) < 300 then (bnd (wI σ a0 2 ((σ.1 a0 2) + 1)) (fun σ3 => if v2 = 17 then (chk (ix p3 60) (chk (ix p3 60) (bd2 (Li_partIfItCan σ3 a1 (σ3.1 (a2 + 4) (tn p3)) (σ3.1 (a2 + 5) (tn p3))) (fun r7 σ8 => if r7 = 0 then (bnd (wI σ8 a0 3 ((σ3.1 a0 3) + 1)) (fun σ9 => some ((p3 + 1), σ9))) else (bnd (wI σ8 a0 3 ((σ3.1 a0 3) + 0)) (fun σ10 => some ((p3 + 1), σ10))))))) else if v2 = 18 then (bd2 (Li_chance σ3 a0 a1) (fun r14 σ15 => if r14 = 0 then (bnd (wI σ15 a0 3 ((σ3.1 a0 3) + 1)) (fun σ16 => some ((p3 + 1), σ16))) else (bnd (wI σ15 a0 3 ((σ3.1 a0 3) + 0)) (fun σ17 => some ((p3 + 1), σ17))))) else if v2 = 19 then (bd2 (Li_isSo σ3 a1 a2 p3) (fun r21 σ22 => if r21 = 0 then (chk (ix p3 60) (some (((jmax p3 (σ22.1 (a2 + 6) (tn p3))) + 1), σ22))) else (some ((p3 + 1), σ22)))) else if v2 = 20 then (bd2 (Li_act σ3 a0 a1 a2 p3) (fun r27 σ28 => if r27 = 0 then (bnd (wI σ28 a0 3 ((σ3.1 a0 3) + 1)) (fun σ29 => some ((p3 + 1), σ29))) else (bnd (wI σ28 a0 3 ((σ3.1 a0 3) + 0)) (fun σ30 => some ((p3 + 1), σ30))))) else if v2 = 21 then (bd2 (Li_act σ3 a0 a1 a2 p3) (fun r34 σ35 => if r34 = 0 then (bnd (wI σ35 a0 3 ((σ3.1 a0 3) + 1)) (fun σ36 => some ((p3 + 1), σ36))) else (bnd (wI σ35 a0 3 ((σ3.1 a0 3) + 0)) (fun σ37 => some ((p3 + 1), σ37))))) else if v2 = 22 then (bd2 (Li_act σ3 a0 a1 a2 p3) (fun r41 σ42 => if r41 = 0 then (bnd (wI σ42 a0 3 ((σ3.1 a0 3) + 1)) (fun σ43 => some ((p3 + 1), σ43))) else (bnd (wI σ42 a0 3 ((σ3.1 a0 3) + 0)) (fun σ44 => some ((p3 + 1), σ44))))) else if v2 = 23 then (chk (ix p3 60) (chk (ix p3 60) (bnd (wI σ3 (a0 + 1) (tn p3) (σ3.1 (a2 + 5) (tn p3))) (fun σ49 => some ((p3 + 1), σ49))))) else if v2 = 24 then (bd2 (Li_act σ3 a0 a1 a2 p3) (fun r52 σ53 => if r52 = 0 then (bnd (wI σ53 a0 3 ((σ3.1 a0 3) + 1)) (fun σ54 => some ((p3 + 1), σ54))) else (bnd (wI σ53 a0 3 ((σ3.1 a0 3) + 0)) (fun σ55 => some ((p3 + 1), σ55))))) else if v2 = 25 then (some ((σ3.1 a2 6), σ3)) else (bd2 (Li_act σ3 a0 a1 a2 p3) (fun r60 σ61 => if r60 = 0 then (bnd (wI σ61 a0 3 ((σ3.1 a0 3) + 1)) (fun σ62 => some ((p3 + 1), σ62))) else (bnd (wI σ61 a0 3 ((σ3.1 a0 3) + 0)) (fun σ63 => some ((p3 + 1), σ63))))))) else (bnd (wI σ a0 7 1) (fun σ65 => some ((σ65.1 a2 6), σ65))))))
set_option maxRecDepth 100000 in
set_option maxHeartbeats 4000000 in
theorem tm_Li_follow {V : Ev} {Γ : Cn} {fin : Option Value × St} {σ : St} {a0 : Nat} {a1 : Nat} {a2 : Nat} {p3 : Int32} {o : (Int32 × St)} (X : Cx V Γ M_X5_follow) {A : (Int32 × St) → Prop} (k0 : okLi a0) (k1 : okCl a1) (k2 : okDa a2) (hr : ∀ (r : Int32) (σ9 : St), A (r, σ9) → (some (.int r), σ9) = fin) (h : Li_follow σ a0 a1 a2 p3 = some o) (hA : A o) : Go V Γ M_X5_follow (Zm V Γ 5 fin) 0 [(0, .ref (V.2.2.1 + a0)), (1, .ref (V.2.2.1 + a1)), (2, .ref (V.2.2.1 + a2)), (3, .int p3), (4, .ref (V.2.2.1 + 31))] [] σ := by
  unfold Li_follow at h
  refine g_aload_n (pc := 0) X 2 rfl dX5_follow_0 ?_
  refine g_getR (r := (a2 + 1)) (pc := 1) X k_fl_X5_51 (sDa_0 k2) rfl dX5_follow_1 ?_
  refine g_iload_n (pc := 4) X 3 rfl dX5_follow_4 ?_
  obtain ⟨c1, h⟩ := chk_e h
  refine g_iald (pc := 5) X (sDa_1 k2) c1 dX5_follow_5 ?_
  obtain ⟨v2, e_v2, h⟩ := bnd_e h
  refine g_nmI e_v2 ?_
  refine g_istore (pc := 6) X [(5, .int v2), (0, .ref (V.2.2.1 + a0)), (1, .ref (V.2.2.1 + a1)), (2, .ref (V.2.2.1 + a2)), (3, .int p3), (4, .ref (V.2.2.1 + 31))] (Nat.le_of_ble_eq_true rfl) rfl dX5_follow_6 ?_
  refine g_iload (pc := 8) X 0 rfl dX5_follow_8 ?_
  refine g_bipush (v := 24) (pc := 10) X (by decide) dX5_follow_10 ?_
  refine g_icmp_ne (pc := 12) (tgt := 22) X dX5_follow_12 rfl (fun c70 => ?_) (fun c70 => ?_)
  · replace h := if_f c70 h
    refine g_aload_n (pc := 22) X 1 rfl dX5_follow_22 ?_
    refine g_getI (pc := 23) X k_fl_X5_21 (sLi_0 k0) rfl dX5_follow_23 ?_
    refine g_sipush (v := 300) (pc := 26) X (by decide) dX5_follow_26 ?_
    refine g_icmp_lt (pc := 29) (tgt := 42) X dX5_follow_29 rfl (fun c66 => ?_) (fun c66 => ?_)
    · replace h := if_t c66 h
      refine g_aload_n (pc := 42) X 1 rfl dX5_follow_42 ?_
      refine g_dup (pc := 43) X rfl dX5_follow_43 ?_
      refine g_getI (pc := 44) X k_fl_X5_21 (sLi_0 k0) rfl dX5_follow_44 ?_
      refine g_iconst (v := 1) (pc := 47) X rfl dX5_follow_47 ?_
      refine g_iadd (pc := 48) X dX5_follow_48 ?_
      refine g_putI (pc := 49) X k_fl_X5_21 (sLi_0 k0) rfl rfl rfl dX5_follow_49 ?_
      obtain ⟨σ3, e_σ3, h⟩ := bnd_e h
      refine g_nmS e_σ3 ?_
      refine g_iload (pc := 52) X 0 rfl dX5_follow_52 ?_
      by_cases c12 : v2 = 17
      · replace h := if_t c12 h
        refine g_tabIn (pc := 54) (tgt := 181) X c12 dX5_follow_54 (by decide) (by decide) rfl rfl ?_
        refine g_aload_n (pc := 181) X 1 rfl dX5_follow_181 ?_
        refine g_dup (pc := 182) X rfl dX5_follow_182 ?_
        refine g_getI (pc := 183) X k_fl_X5_25 (sLi_0 k0) rfl dX5_follow_183 ?_
        refine g_aload_n (pc := 186) X 2 rfl dX5_follow_186 ?_
        refine g_aload_n (pc := 187) X 3 rfl dX5_follow_187 ?_
        refine g_getR (r := (a2 + 4)) (pc := 188) X k_fl_X5_78 (sDa_0 k2) rfl dX5_follow_188 ?_
        refine g_iload_n (pc := 191) X 4 rfl dX5_follow_191 ?_
        obtain ⟨c4, h⟩ := chk_e h
        refine g_iald (pc := 192) X (sDa_4 k2) c4 dX5_follow_192 ?_
        refine g_aload_n (pc := 193) X 3 rfl dX5_follow_193 ?_
        refine g_getR (r := (a2 + 5)) (pc := 194) X k_fl_X5_71 (sDa_0 k2) rfl dX5_follow_194 ?_
        refine g_iload_n (pc := 197) X 4 rfl dX5_follow_197 ?_
        obtain ⟨c5, h⟩ := chk_e h
        refine g_iald (pc := 198) X (sDa_5 k2) c5 dX5_follow_198 ?_
        obtain ⟨r7, σ8, hc6, h⟩ := bd2_e h
        refine g_callS (pc := 199) X k_ml_X5_81 (run_Li_partIfItCan k1 hc6) rfl (room_ok (Nat.le_of_ble_eq_true rfl) (Nat.le_of_ble_eq_true rfl)) ⟨Nat.le_refl _, Nat.le_refl _⟩ _ rfl (Nat.le_of_ble_eq_true rfl) dX5_follow_199 ?_
        show Go V Γ M_X5_follow (Zm V Γ 5 fin) 202 [(5, .int v2), (0, .ref (V.2.2.1 + a0)), (1, .ref (V.2.2.1 + a1)), (2, .ref (V.2.2.1 + a2)), (3, .int p3), (4, .ref (V.2.2.1 + 31))] [.int r7, .int (σ3.1 a0 3), .ref (V.2.2.1 + a0)] σ8
        refine g_if_eq (pc := 202) (tgt := 209) X dX5_follow_202 rfl (fun c11 => ?_) (fun c11 => ?_)
        · replace h := if_t c11 h
          refine g_iconst (v := 1) (pc := 209) X rfl dX5_follow_209 ?_
          refine g_iadd (pc := 210) X dX5_follow_210 ?_
          refine g_putI (pc := 211) X k_fl_X5_25 (sLi_0 k0) rfl rfl rfl dX5_follow_211 ?_
          obtain ⟨σ9, e_σ9, h⟩ := bnd_e h
          refine g_nmS e_σ9 ?_
          refine g_iload_n (pc := 214) X 4 rfl dX5_follow_214 ?_
          refine g_iconst (v := 1) (pc := 215) X rfl dX5_follow_215 ?_
          refine g_iadd (pc := 216) X dX5_follow_216 ?_
          cases h
          exact g_iret (pc := 217) X rfl rfl (hr _ _ hA) dX5_follow_217
        · replace h := if_f c11 h
          refine g_iconst (v := 0) (pc := 205) X rfl dX5_follow_205 ?_
          refine g_goto (pc := 206) (tgt := 210) X dX5_follow_206 rfl ?_
          refine g_iadd (pc := 210) X dX5_follow_210 ?_
          refine g_putI (pc := 211) X k_fl_X5_25 (sLi_0 k0) rfl rfl rfl dX5_follow_211 ?_
          obtain ⟨σ10, e_σ10, h⟩ := bnd_e h
          refine g_nmS e_σ10 ?_
          refine g_iload_n (pc := 214) X 4 rfl dX5_follow_214 ?_
          refine g_iconst (v := 1) (pc := 215) X rfl dX5_follow_215 ?_
          refine g_iadd (pc := 216) X dX5_follow_216 ?_
          cases h
          exact g_iret (pc := 217) X rfl rfl (hr _ _ hA) dX5_follow_217
      replace h := if_f c12 h
      by_cases c19 : v2 = 18
      · replace h := if_t c19 h
        refine g_tabIn (pc := 54) (tgt := 155) X c19 dX5_follow_54 (by decide) (by decide) rfl rfl ?_
        refine g_aload_n (pc := 155) X 1 rfl dX5_follow_155 ?_
        refine g_dup (pc := 156) X rfl dX5_follow_156 ?_
        refine g_getI (pc := 157) X k_fl_X5_25 (sLi_0 k0) rfl dX5_follow_157 ?_
        refine g_aload_n (pc := 160) X 1 rfl dX5_follow_160 ?_
        refine g_aload_n (pc := 161) X 2 rfl dX5_follow_161 ?_
        obtain ⟨r14, σ15, hc13, h⟩ := bd2_e h
        refine g_callV (pc := 162) X k_ml_X5_74 (run_Li_chance k0 k1 hc13) (sLi_0 k0) rfl (room_ok (Nat.le_of_ble_eq_true rfl) (Nat.le_of_ble_eq_true rfl)) ⟨Nat.le_refl _, Nat.le_refl _⟩ _ rfl (Nat.le_of_ble_eq_true rfl) dX5_follow_162 ?_
        show Go V Γ M_X5_follow (Zm V Γ 5 fin) 165 [(5, .int v2), (0, .ref (V.2.2.1 + a0)), (1, .ref (V.2.2.1 + a1)), (2, .ref (V.2.2.1 + a2)), (3, .int p3), (4, .ref (V.2.2.1 + 31))] [.int r14, .int (σ3.1 a0 3), .ref (V.2.2.1 + a0)] σ15
        refine g_if_eq (pc := 165) (tgt := 172) X dX5_follow_165 rfl (fun c18 => ?_) (fun c18 => ?_)
        · replace h := if_t c18 h
          refine g_iconst (v := 1) (pc := 172) X rfl dX5_follow_172 ?_
          refine g_iadd (pc := 173) X dX5_follow_173 ?_
          refine g_putI (pc := 174) X k_fl_X5_25 (sLi_0 k0) rfl rfl rfl dX5_follow_174 ?_
          obtain ⟨σ16, e_σ16, h⟩ := bnd_e h
          refine g_nmS e_σ16 ?_
          refine g_iload_n (pc := 177) X 4 rfl dX5_follow_177 ?_
          refine g_iconst (v := 1) (pc := 178) X rfl dX5_follow_178 ?_
          refine g_iadd (pc := 179) X dX5_follow_179 ?_
          cases h
          exact g_iret (pc := 180) X rfl rfl (hr _ _ hA) dX5_follow_180
        · replace h := if_f c18 h
          refine g_iconst (v := 0) (pc := 168) X rfl dX5_follow_168 ?_
          refine g_goto (pc := 169) (tgt := 173) X dX5_follow_169 rfl ?_
          refine g_iadd (pc := 173) X dX5_follow_173 ?_
          refine g_putI (pc := 174) X k_fl_X5_25 (sLi_0 k0) rfl rfl rfl dX5_follow_174 ?_
          obtain ⟨σ17, e_σ17, h⟩ := bnd_e h
          refine g_nmS e_σ17 ?_
          refine g_iload_n (pc := 177) X 4 rfl dX5_follow_177 ?_
          refine g_iconst (v := 1) (pc := 178) X rfl dX5_follow_178 ?_
          refine g_iadd (pc := 179) X dX5_follow_179 ?_
          cases h
          exact g_iret (pc := 180) X rfl rfl (hr _ _ hA) dX5_follow_180
      replace h := if_f c19 h
      by_cases c25 : v2 = 19
      · replace h := if_t c25 h
        refine g_tabIn (pc := 54) (tgt := 109) X c25 dX5_follow_54 (by decide) (by decide) rfl rfl ?_
        refine g_aload_n (pc := 109) X 2 rfl dX5_follow_109 ?_
        refine g_aload_n (pc := 110) X 3 rfl dX5_follow_110 ?_
        refine g_iload_n (pc := 111) X 4 rfl dX5_follow_111 ?_
        refine g_aload (pc := 112) X 5 rfl dX5_follow_112 ?_
        obtain ⟨r21, σ22, hc20, h⟩ := bd2_e h
        refine g_callS (pc := 114) X k_ml_X5_58 (run_Li_isSo k1 k2 hc20) rfl (room_ok (Nat.le_of_ble_eq_true rfl) (Nat.le_of_ble_eq_true rfl)) ⟨Nat.le_refl _, Nat.le_refl _⟩ _ rfl (Nat.le_of_ble_eq_true rfl) dX5_follow_114 ?_
        show Go V Γ M_X5_follow (Zm V Γ 5 fin) 117 [(5, .int v2), (0, .ref (V.2.2.1 + a0)), (1, .ref (V.2.2.1 + a1)), (2, .ref (V.2.2.1 + a2)), (3, .int p3), (4, .ref (V.2.2.1 + 31))] [.int r21] σ22
        refine g_if_eq (pc := 117) (tgt := 126) X dX5_follow_117 rfl (fun c24 => ?_) (fun c24 => ?_)
        · replace h := if_t c24 h
          refine g_iload_n (pc := 126) X 4 rfl dX5_follow_126 ?_
          refine g_aload_n (pc := 127) X 3 rfl dX5_follow_127 ?_
          refine g_getR (r := (a2 + 6)) (pc := 128) X k_fl_X5_62 (sDa_0 k2) rfl dX5_follow_128 ?_
          refine g_iload_n (pc := 131) X 4 rfl dX5_follow_131 ?_
          obtain ⟨c23, h⟩ := chk_e h
          refine g_iald (pc := 132) X (sDa_6 k2) c23 dX5_follow_132 ?_
          refine g_max (pc := 133) X k_ml_X5_65 (Nat.le_of_ble_eq_true rfl) (Nat.le_of_ble_eq_true rfl) (Nat.le_refl _) (Nat.le_refl _) dX5_follow_133 ?_
          refine g_iconst (v := 1) (pc := 136) X rfl dX5_follow_136 ?_
          refine g_iadd (pc := 137) X dX5_follow_137 ?_
          cases h
          exact g_iret (pc := 138) X rfl rfl (hr _ _ hA) dX5_follow_138
        · replace h := if_f c24 h
          refine g_iload_n (pc := 120) X 4 rfl dX5_follow_120 ?_
          refine g_iconst (v := 1) (pc := 121) X rfl dX5_follow_121 ?_
          refine g_iadd (pc := 122) X dX5_follow_122 ?_
          refine g_goto (pc := 123) (tgt := 138) X dX5_follow_123 rfl ?_
          cases h
          exact g_iret (pc := 138) X rfl rfl (hr _ _ hA) dX5_follow_138
      replace h := if_f c25 h
      by_cases c32 : v2 = 20
      · replace h := if_t c32 h
        refine g_tabIn (pc := 54) (tgt := 218) X c32 dX5_follow_54 (by decide) (by decide) rfl rfl ?_
        refine g_aload_n (pc := 218) X 1 rfl dX5_follow_218 ?_
        refine g_dup (pc := 219) X rfl dX5_follow_219 ?_
        refine g_getI (pc := 220) X k_fl_X5_25 (sLi_0 k0) rfl dX5_follow_220 ?_
        refine g_aload_n (pc := 223) X 1 rfl dX5_follow_223 ?_
        refine g_aload_n (pc := 224) X 2 rfl dX5_follow_224 ?_
        refine g_aload_n (pc := 225) X 3 rfl dX5_follow_225 ?_
        refine g_iload_n (pc := 226) X 4 rfl dX5_follow_226 ?_
        obtain ⟨r27, σ28, hc26, h⟩ := bd2_e h
        refine g_callV (pc := 227) X k_ml_X5_85 (run_Li_act k0 k1 k2 hc26) (sLi_0 k0) rfl (room_ok (Nat.le_of_ble_eq_true rfl) (Nat.le_of_ble_eq_true rfl)) ⟨Nat.le_refl _, Nat.le_refl _⟩ _ rfl (Nat.le_of_ble_eq_true rfl) dX5_follow_227 ?_
        show Go V Γ M_X5_follow (Zm V Γ 5 fin) 230 [(5, .int v2), (0, .ref (V.2.2.1 + a0)), (1, .ref (V.2.2.1 + a1)), (2, .ref (V.2.2.1 + a2)), (3, .int p3), (4, .ref (V.2.2.1 + 31))] [.int r27, .int (σ3.1 a0 3), .ref (V.2.2.1 + a0)] σ28
        refine g_if_eq (pc := 230) (tgt := 237) X dX5_follow_230 rfl (fun c31 => ?_) (fun c31 => ?_)
        · replace h := if_t c31 h
          refine g_iconst (v := 1) (pc := 237) X rfl dX5_follow_237 ?_
          refine g_iadd (pc := 238) X dX5_follow_238 ?_
          refine g_putI (pc := 239) X k_fl_X5_25 (sLi_0 k0) rfl rfl rfl dX5_follow_239 ?_
          obtain ⟨σ29, e_σ29, h⟩ := bnd_e h
          refine g_nmS e_σ29 ?_
          refine g_iload_n (pc := 242) X 4 rfl dX5_follow_242 ?_
          refine g_iconst (v := 1) (pc := 243) X rfl dX5_follow_243 ?_
          refine g_iadd (pc := 244) X dX5_follow_244 ?_
          cases h
          exact g_iret (pc := 245) X rfl rfl (hr _ _ hA) dX5_follow_245
        · replace h := if_f c31 h
          refine g_iconst (v := 0) (pc := 233) X rfl dX5_follow_233 ?_
          refine g_goto (pc := 234) (tgt := 238) X dX5_follow_234 rfl ?_
          refine g_iadd (pc := 238) X dX5_follow_238 ?_
          refine g_putI (pc := 239) X k_fl_X5_25 (sLi_0 k0) rfl rfl rfl dX5_follow_239 ?_
          obtain ⟨σ30, e_σ30, h⟩ := bnd_e h
          refine g_nmS e_σ30 ?_
          refine g_iload_n (pc := 242) X 4 rfl dX5_follow_242 ?_
          refine g_iconst (v := 1) (pc := 243) X rfl dX5_follow_243 ?_
          refine g_iadd (pc := 244) X dX5_follow_244 ?_
          cases h
          exact g_iret (pc := 245) X rfl rfl (hr _ _ hA) dX5_follow_245
      replace h := if_f c32 h
      by_cases c39 : v2 = 21
      · replace h := if_t c39 h
        refine g_tabIn (pc := 54) (tgt := 218) X c39 dX5_follow_54 (by decide) (by decide) rfl rfl ?_
        refine g_aload_n (pc := 218) X 1 rfl dX5_follow_218 ?_
        refine g_dup (pc := 219) X rfl dX5_follow_219 ?_
        refine g_getI (pc := 220) X k_fl_X5_25 (sLi_0 k0) rfl dX5_follow_220 ?_
        refine g_aload_n (pc := 223) X 1 rfl dX5_follow_223 ?_
        refine g_aload_n (pc := 224) X 2 rfl dX5_follow_224 ?_
        refine g_aload_n (pc := 225) X 3 rfl dX5_follow_225 ?_
        refine g_iload_n (pc := 226) X 4 rfl dX5_follow_226 ?_
        obtain ⟨r34, σ35, hc33, h⟩ := bd2_e h
        refine g_callV (pc := 227) X k_ml_X5_85 (run_Li_act k0 k1 k2 hc33) (sLi_0 k0) rfl (room_ok (Nat.le_of_ble_eq_true rfl) (Nat.le_of_ble_eq_true rfl)) ⟨Nat.le_refl _, Nat.le_refl _⟩ _ rfl (Nat.le_of_ble_eq_true rfl) dX5_follow_227 ?_
        show Go V Γ M_X5_follow (Zm V Γ 5 fin) 230 [(5, .int v2), (0, .ref (V.2.2.1 + a0)), (1, .ref (V.2.2.1 + a1)), (2, .ref (V.2.2.1 + a2)), (3, .int p3), (4, .ref (V.2.2.1 + 31))] [.int r34, .int (σ3.1 a0 3), .ref (V.2.2.1 + a0)] σ35
        refine g_if_eq (pc := 230) (tgt := 237) X dX5_follow_230 rfl (fun c38 => ?_) (fun c38 => ?_)
        · replace h := if_t c38 h
          refine g_iconst (v := 1) (pc := 237) X rfl dX5_follow_237 ?_
          refine g_iadd (pc := 238) X dX5_follow_238 ?_
          refine g_putI (pc := 239) X k_fl_X5_25 (sLi_0 k0) rfl rfl rfl dX5_follow_239 ?_
          obtain ⟨σ36, e_σ36, h⟩ := bnd_e h
          refine g_nmS e_σ36 ?_
          refine g_iload_n (pc := 242) X 4 rfl dX5_follow_242 ?_
          refine g_iconst (v := 1) (pc := 243) X rfl dX5_follow_243 ?_
          refine g_iadd (pc := 244) X dX5_follow_244 ?_
          cases h
          exact g_iret (pc := 245) X rfl rfl (hr _ _ hA) dX5_follow_245
        · replace h := if_f c38 h
          refine g_iconst (v := 0) (pc := 233) X rfl dX5_follow_233 ?_
          refine g_goto (pc := 234) (tgt := 238) X dX5_follow_234 rfl ?_
          refine g_iadd (pc := 238) X dX5_follow_238 ?_
          refine g_putI (pc := 239) X k_fl_X5_25 (sLi_0 k0) rfl rfl rfl dX5_follow_239 ?_
          obtain ⟨σ37, e_σ37, h⟩ := bnd_e h
          refine g_nmS e_σ37 ?_
          refine g_iload_n (pc := 242) X 4 rfl dX5_follow_242 ?_
          refine g_iconst (v := 1) (pc := 243) X rfl dX5_follow_243 ?_
          refine g_iadd (pc := 244) X dX5_follow_244 ?_
          cases h
          exact g_iret (pc := 245) X rfl rfl (hr _ _ hA) dX5_follow_245
      replace h := if_f c39 h
      by_cases c46 : v2 = 22
      · replace h := if_t c46 h
        refine g_tabIn (pc := 54) (tgt := 218) X c46 dX5_follow_54 (by decide) (by decide) rfl rfl ?_
        refine g_aload_n (pc := 218) X 1 rfl dX5_follow_218 ?_
        refine g_dup (pc := 219) X rfl dX5_follow_219 ?_
        refine g_getI (pc := 220) X k_fl_X5_25 (sLi_0 k0) rfl dX5_follow_220 ?_
        refine g_aload_n (pc := 223) X 1 rfl dX5_follow_223 ?_
        refine g_aload_n (pc := 224) X 2 rfl dX5_follow_224 ?_
        refine g_aload_n (pc := 225) X 3 rfl dX5_follow_225 ?_
        refine g_iload_n (pc := 226) X 4 rfl dX5_follow_226 ?_
        obtain ⟨r41, σ42, hc40, h⟩ := bd2_e h
        refine g_callV (pc := 227) X k_ml_X5_85 (run_Li_act k0 k1 k2 hc40) (sLi_0 k0) rfl (room_ok (Nat.le_of_ble_eq_true rfl) (Nat.le_of_ble_eq_true rfl)) ⟨Nat.le_refl _, Nat.le_refl _⟩ _ rfl (Nat.le_of_ble_eq_true rfl) dX5_follow_227 ?_
        show Go V Γ M_X5_follow (Zm V Γ 5 fin) 230 [(5, .int v2), (0, .ref (V.2.2.1 + a0)), (1, .ref (V.2.2.1 + a1)), (2, .ref (V.2.2.1 + a2)), (3, .int p3), (4, .ref (V.2.2.1 + 31))] [.int r41, .int (σ3.1 a0 3), .ref (V.2.2.1 + a0)] σ42
        refine g_if_eq (pc := 230) (tgt := 237) X dX5_follow_230 rfl (fun c45 => ?_) (fun c45 => ?_)
        · replace h := if_t c45 h
          refine g_iconst (v := 1) (pc := 237) X rfl dX5_follow_237 ?_
          refine g_iadd (pc := 238) X dX5_follow_238 ?_
          refine g_putI (pc := 239) X k_fl_X5_25 (sLi_0 k0) rfl rfl rfl dX5_follow_239 ?_
          obtain ⟨σ43, e_σ43, h⟩ := bnd_e h
          refine g_nmS e_σ43 ?_
          refine g_iload_n (pc := 242) X 4 rfl dX5_follow_242 ?_
          refine g_iconst (v := 1) (pc := 243) X rfl dX5_follow_243 ?_
          refine g_iadd (pc := 244) X dX5_follow_244 ?_
          cases h
          exact g_iret (pc := 245) X rfl rfl (hr _ _ hA) dX5_follow_245
        · replace h := if_f c45 h
          refine g_iconst (v := 0) (pc := 233) X rfl dX5_follow_233 ?_
          refine g_goto (pc := 234) (tgt := 238) X dX5_follow_234 rfl ?_
          refine g_iadd (pc := 238) X dX5_follow_238 ?_
          refine g_putI (pc := 239) X k_fl_X5_25 (sLi_0 k0) rfl rfl rfl dX5_follow_239 ?_
          obtain ⟨σ44, e_σ44, h⟩ := bnd_e h
          refine g_nmS e_σ44 ?_
          refine g_iload_n (pc := 242) X 4 rfl dX5_follow_242 ?_
          refine g_iconst (v := 1) (pc := 243) X rfl dX5_follow_243 ?_
          refine g_iadd (pc := 244) X dX5_follow_244 ?_
          cases h
          exact g_iret (pc := 245) X rfl rfl (hr _ _ hA) dX5_follow_245
      replace h := if_f c46 h
      by_cases c50 : v2 = 23
      · replace h := if_t c50 h
        refine g_tabIn (pc := 54) (tgt := 139) X c50 dX5_follow_54 (by decide) (by decide) rfl rfl ?_
        refine g_aload_n (pc := 139) X 1 rfl dX5_follow_139 ?_
        refine g_getR (r := (a0 + 1)) (pc := 140) X k_fl_X5_11 (sLi_0 k0) rfl dX5_follow_140 ?_
        refine g_iload_n (pc := 143) X 4 rfl dX5_follow_143 ?_
        refine g_aload_n (pc := 144) X 3 rfl dX5_follow_144 ?_
        refine g_getR (r := (a2 + 5)) (pc := 145) X k_fl_X5_71 (sDa_0 k2) rfl dX5_follow_145 ?_
        refine g_iload_n (pc := 148) X 4 rfl dX5_follow_148 ?_
        obtain ⟨c47, h⟩ := chk_e h
        refine g_iald (pc := 149) X (sDa_5 k2) c47 dX5_follow_149 ?_
        obtain ⟨c48, h⟩ := chk_e h
        refine g_iast (pc := 150) X (sLi_1 k0) c48 dX5_follow_150 ?_
        obtain ⟨σ49, e_σ49, h⟩ := bnd_e h
        refine g_nmS e_σ49 ?_
        refine g_iload_n (pc := 151) X 4 rfl dX5_follow_151 ?_
        refine g_iconst (v := 1) (pc := 152) X rfl dX5_follow_152 ?_
        refine g_iadd (pc := 153) X dX5_follow_153 ?_
        cases h
        exact g_iret (pc := 154) X rfl rfl (hr _ _ hA) dX5_follow_154
      replace h := if_f c50 h
      by_cases c57 : v2 = 24
      · replace h := if_t c57 h
        refine g_tabIn (pc := 54) (tgt := 218) X c57 dX5_follow_54 (by decide) (by decide) rfl rfl ?_
        refine g_aload_n (pc := 218) X 1 rfl dX5_follow_218 ?_
        refine g_dup (pc := 219) X rfl dX5_follow_219 ?_
        refine g_getI (pc := 220) X k_fl_X5_25 (sLi_0 k0) rfl dX5_follow_220 ?_
        refine g_aload_n (pc := 223) X 1 rfl dX5_follow_223 ?_
        refine g_aload_n (pc := 224) X 2 rfl dX5_follow_224 ?_
        refine g_aload_n (pc := 225) X 3 rfl dX5_follow_225 ?_
        refine g_iload_n (pc := 226) X 4 rfl dX5_follow_226 ?_
        obtain ⟨r52, σ53, hc51, h⟩ := bd2_e h
        refine g_callV (pc := 227) X k_ml_X5_85 (run_Li_act k0 k1 k2 hc51) (sLi_0 k0) rfl (room_ok (Nat.le_of_ble_eq_true rfl) (Nat.le_of_ble_eq_true rfl)) ⟨Nat.le_refl _, Nat.le_refl _⟩ _ rfl (Nat.le_of_ble_eq_true rfl) dX5_follow_227 ?_
        show Go V Γ M_X5_follow (Zm V Γ 5 fin) 230 [(5, .int v2), (0, .ref (V.2.2.1 + a0)), (1, .ref (V.2.2.1 + a1)), (2, .ref (V.2.2.1 + a2)), (3, .int p3), (4, .ref (V.2.2.1 + 31))] [.int r52, .int (σ3.1 a0 3), .ref (V.2.2.1 + a0)] σ53
        refine g_if_eq (pc := 230) (tgt := 237) X dX5_follow_230 rfl (fun c56 => ?_) (fun c56 => ?_)
        · replace h := if_t c56 h
          refine g_iconst (v := 1) (pc := 237) X rfl dX5_follow_237 ?_
          refine g_iadd (pc := 238) X dX5_follow_238 ?_
          refine g_putI (pc := 239) X k_fl_X5_25 (sLi_0 k0) rfl rfl rfl dX5_follow_239 ?_
          obtain ⟨σ54, e_σ54, h⟩ := bnd_e h
          refine g_nmS e_σ54 ?_
          refine g_iload_n (pc := 242) X 4 rfl dX5_follow_242 ?_
          refine g_iconst (v := 1) (pc := 243) X rfl dX5_follow_243 ?_
          refine g_iadd (pc := 244) X dX5_follow_244 ?_
          cases h
          exact g_iret (pc := 245) X rfl rfl (hr _ _ hA) dX5_follow_245
        · replace h := if_f c56 h
          refine g_iconst (v := 0) (pc := 233) X rfl dX5_follow_233 ?_
          refine g_goto (pc := 234) (tgt := 238) X dX5_follow_234 rfl ?_
          refine g_iadd (pc := 238) X dX5_follow_238 ?_
          refine g_putI (pc := 239) X k_fl_X5_25 (sLi_0 k0) rfl rfl rfl dX5_follow_239 ?_
          obtain ⟨σ55, e_σ55, h⟩ := bnd_e h
          refine g_nmS e_σ55 ?_
          refine g_iload_n (pc := 242) X 4 rfl dX5_follow_242 ?_
          refine g_iconst (v := 1) (pc := 243) X rfl dX5_follow_243 ?_
          refine g_iadd (pc := 244) X dX5_follow_244 ?_
          cases h
          exact g_iret (pc := 245) X rfl rfl (hr _ _ hA) dX5_follow_245
      replace h := if_f c57 h
      by_cases c58 : v2 = 25
      · replace h := if_t c58 h
        refine g_tabIn (pc := 54) (tgt := 104) X c58 dX5_follow_54 (by decide) (by decide) rfl rfl ?_
        refine g_aload_n (pc := 104) X 3 rfl dX5_follow_104 ?_
        refine g_getI (pc := 105) X k_fl_X5_44 (sDa_0 k2) rfl dX5_follow_105 ?_
        cases h
        exact g_iret (pc := 108) X rfl rfl (hr _ _ hA) dX5_follow_108
      replace h := if_f c58 h
      refine g_tabOut (pc := 54) (tgt := 218) X dX5_follow_54 (by have qc12 := lv_neT (k := 17) (a := 17) c12 rfl; have qc19 := lv_neT (k := 18) (a := 18) c19 rfl; have qc25 := lv_neT (k := 19) (a := 19) c25 rfl; have qc32 := lv_neT (k := 20) (a := 20) c32 rfl; have qc39 := lv_neT (k := 21) (a := 21) c39 rfl; have qc46 := lv_neT (k := 22) (a := 22) c46 rfl; have qc50 := lv_neT (k := 23) (a := 23) c50 rfl; have qc57 := lv_neT (k := 24) (a := 24) c57 rfl; have qc58 := lv_neT (k := 25) (a := 25) c58 rfl; omega) rfl ?_
      refine g_aload_n (pc := 218) X 1 rfl dX5_follow_218 ?_
      refine g_dup (pc := 219) X rfl dX5_follow_219 ?_
      refine g_getI (pc := 220) X k_fl_X5_25 (sLi_0 k0) rfl dX5_follow_220 ?_
      refine g_aload_n (pc := 223) X 1 rfl dX5_follow_223 ?_
      refine g_aload_n (pc := 224) X 2 rfl dX5_follow_224 ?_
      refine g_aload_n (pc := 225) X 3 rfl dX5_follow_225 ?_
      refine g_iload_n (pc := 226) X 4 rfl dX5_follow_226 ?_
      obtain ⟨r60, σ61, hc59, h⟩ := bd2_e h
      refine g_callV (pc := 227) X k_ml_X5_85 (run_Li_act k0 k1 k2 hc59) (sLi_0 k0) rfl (room_ok (Nat.le_of_ble_eq_true rfl) (Nat.le_of_ble_eq_true rfl)) ⟨Nat.le_refl _, Nat.le_refl _⟩ _ rfl (Nat.le_of_ble_eq_true rfl) dX5_follow_227 ?_
      show Go V Γ M_X5_follow (Zm V Γ 5 fin) 230 [(5, .int v2), (0, .ref (V.2.2.1 + a0)), (1, .ref (V.2.2.1 + a1)), (2, .ref (V.2.2.1 + a2)), (3, .int p3), (4, .ref (V.2.2.1 + 31))] [.int r60, .int (σ3.1 a0 3), .ref (V.2.2.1 + a0)] σ61
      refine g_if_eq (pc := 230) (tgt := 237) X dX5_follow_230 rfl (fun c64 => ?_) (fun c64 => ?_)
      · replace h := if_t c64 h
        refine g_iconst (v := 1) (pc := 237) X rfl dX5_follow_237 ?_
        refine g_iadd (pc := 238) X dX5_follow_238 ?_
        refine g_putI (pc := 239) X k_fl_X5_25 (sLi_0 k0) rfl rfl rfl dX5_follow_239 ?_
        obtain ⟨σ62, e_σ62, h⟩ := bnd_e h
        refine g_nmS e_σ62 ?_
        refine g_iload_n (pc := 242) X 4 rfl dX5_follow_242 ?_
        refine g_iconst (v := 1) (pc := 243) X rfl dX5_follow_243 ?_
        refine g_iadd (pc := 244) X dX5_follow_244 ?_
        cases h
        exact g_iret (pc := 245) X rfl rfl (hr _ _ hA) dX5_follow_245
      · replace h := if_f c64 h
        refine g_iconst (v := 0) (pc := 233) X rfl dX5_follow_233 ?_
        refine g_goto (pc := 234) (tgt := 238) X dX5_follow_234 rfl ?_
        refine g_iadd (pc := 238) X dX5_follow_238 ?_
        refine g_putI (pc := 239) X k_fl_X5_25 (sLi_0 k0) rfl rfl rfl dX5_follow_239 ?_
        obtain ⟨σ63, e_σ63, h⟩ := bnd_e h
        refine g_nmS e_σ63 ?_
        refine g_iload_n (pc := 242) X 4 rfl dX5_follow_242 ?_
        refine g_iconst (v := 1) (pc := 243) X rfl dX5_follow_243 ?_
        refine g_iadd (pc := 244) X dX5_follow_244 ?_
        cases h
        exact g_iret (pc := 245) X rfl rfl (hr _ _ hA) dX5_follow_245
    · replace h := if_f c66 h
      refine g_aload_n (pc := 32) X 1 rfl dX5_follow_32 ?_
      refine g_iconst (v := 1) (pc := 33) X rfl dX5_follow_33 ?_
      refine g_putI (pc := 34) X k_fl_X5_37 (sLi_0 k0) rfl nz1.1 nz1.2 dX5_follow_34 ?_
      obtain ⟨σ65, e_σ65, h⟩ := bnd_e h
      refine g_nmS e_σ65 ?_
      refine g_aload_n (pc := 37) X 3 rfl dX5_follow_37 ?_
      refine g_getI (pc := 38) X k_fl_X5_44 (sDa_0 k2) rfl dX5_follow_38 ?_
      cases h
      exact g_iret (pc := 41) X rfl rfl (hr _ _ hA) dX5_follow_41
  · replace h := if_t c70 h
    refine g_aload_n (pc := 15) X 1 rfl dX5_follow_15 ?_
    refine g_aload_n (pc := 16) X 3 rfl dX5_follow_16 ?_
    refine g_iload_n (pc := 17) X 4 rfl dX5_follow_17 ?_
    obtain ⟨r68, σ69, hc67, h⟩ := bd2_e h
    refine g_callV (pc := 18) X k_ml_X5_54 (run_Li_behindEnd k0 k2 hc67) (sLi_0 k0) rfl (room_ok (Nat.le_of_ble_eq_true rfl) (Nat.le_of_ble_eq_true rfl)) ⟨Nat.le_refl _, Nat.le_refl _⟩ _ rfl (Nat.le_of_ble_eq_true rfl) dX5_follow_18 ?_
    show Go V Γ M_X5_follow (Zm V Γ 5 fin) 21 [(5, .int v2), (0, .ref (V.2.2.1 + a0)), (1, .ref (V.2.2.1 + a1)), (2, .ref (V.2.2.1 + a2)), (3, .int p3), (4, .ref (V.2.2.1 + 31))] [.int r68] σ69
    cases h
    exact g_iret (pc := 21) X rfl rfl (hr _ _ hA) dX5_follow_21
set_option maxRecDepth 100000 in
theorem run_Li_follow {V : Ev} {σ : St} {a0 : Nat} {a1 : Nat} {a2 : Nat} {p3 : Int32} {o : (Int32 × St)} (k0 : okLi a0) (k1 : okCl a1) (k2 : okDa a2)  (h : Li_follow σ a0 a1 a2 p3 = some o) : Rs V 5 M_X5_follow [.ref (V.2.2.1 + a0), .ref (V.2.2.1 + a1), .ref (V.2.2.1 + a2), .int p3, .ref (V.2.2.1 + 31)] σ (some (.int o.1), o.2) := by
  refine Rs.of (by decide +kernel) (Nat.le_of_ble_eq_true rfl) (fun Γ X => ?_)
  exact tm_Li_follow X (A := fun o1 => o1 = o) k0 k1 k2 (fun _ _ e => by rw [← e]) h rfl
theorem dX5_run_0 : decode cX5_run 0 = .ok (.aload_n 0, 1) := by decide +kernel
theorem dX5_run_1 : decode cX5_run 1 = .ok (.iconst 1, 1) := by decide +kernel
theorem dX5_run_2 : decode cX5_run 2 = .ok (.putfield 17, 3) := by decide +kernel
theorem dX5_run_5 : decode cX5_run 5 = .ok (.aload_n 0, 1) := by decide +kernel
theorem dX5_run_6 : decode cX5_run 6 = .ok (.iconst 0, 1) := by decide +kernel
theorem dX5_run_7 : decode cX5_run 7 = .ok (.putfield 21, 3) := by decide +kernel
theorem dX5_run_10 : decode cX5_run 10 = .ok (.aload_n 0, 1) := by decide +kernel
theorem dX5_run_11 : decode cX5_run 11 = .ok (.iconst 0, 1) := by decide +kernel
theorem dX5_run_12 : decode cX5_run 12 = .ok (.putfield 25, 3) := by decide +kernel
theorem dX5_run_15 : decode cX5_run 15 = .ok (.aload_n 0, 1) := by decide +kernel
theorem dX5_run_16 : decode cX5_run 16 = .ok (.iconst 0, 1) := by decide +kernel
theorem dX5_run_17 : decode cX5_run 17 = .ok (.putfield 28, 3) := by decide +kernel
theorem dX5_run_20 : decode cX5_run 20 = .ok (.aload_n 0, 1) := by decide +kernel
theorem dX5_run_21 : decode cX5_run 21 = .ok (.iconst 0, 1) := by decide +kernel
theorem dX5_run_22 : decode cX5_run 22 = .ok (.putfield 31, 3) := by decide +kernel
theorem dX5_run_25 : decode cX5_run 25 = .ok (.aload_n 0, 1) := by decide +kernel
theorem dX5_run_26 : decode cX5_run 26 = .ok (.iconst 0, 1) := by decide +kernel
theorem dX5_run_27 : decode cX5_run 27 = .ok (.putfield 34, 3) := by decide +kernel
theorem dX5_run_30 : decode cX5_run 30 = .ok (.aload_n 0, 1) := by decide +kernel
theorem dX5_run_31 : decode cX5_run 31 = .ok (.iconst 0, 1) := by decide +kernel
theorem dX5_run_32 : decode cX5_run 32 = .ok (.putfield 37, 3) := by decide +kernel
theorem dX5_run_35 : decode cX5_run 35 = .ok (.aload_n 0, 1) := by decide +kernel
theorem dX5_run_36 : decode cX5_run 36 = .ok (.iload_n 3, 1) := by decide +kernel
theorem dX5_run_37 : decode cX5_run 37 = .ok (.putfield 40, 3) := by decide +kernel
theorem dX5_run_40 : decode cX5_run 40 = .ok (.iconst 0, 1) := by decide +kernel
theorem dX5_run_41 : decode cX5_run 41 = .ok (.istore 5, 2) := by decide +kernel
theorem dX5_run_43 : decode cX5_run 43 = .ok (.iconst 0, 1) := by decide +kernel
theorem dX5_run_44 : decode cX5_run 44 = .ok (.istore 6, 2) := by decide +kernel
theorem dX5_run_46 : decode cX5_run 46 = .ok (.iload 6, 2) := by decide +kernel
theorem dX5_run_48 : decode cX5_run 48 = .ok (.ldc 43, 2) := by decide +kernel
theorem dX5_run_50 : decode cX5_run 50 = .ok (.if_icmp .ge 30, 3) := by decide +kernel
theorem dX5_run_53 : decode cX5_run 53 = .ok (.iload 5, 2) := by decide +kernel
theorem dX5_run_55 : decode cX5_run 55 = .ok (.aload_n 2, 1) := by decide +kernel
theorem dX5_run_56 : decode cX5_run 56 = .ok (.getfield 44, 3) := by decide +kernel
theorem dX5_run_59 : decode cX5_run 59 = .ok (.if_icmp .ge 21, 3) := by decide +kernel
theorem dX5_run_62 : decode cX5_run 62 = .ok (.aload_n 0, 1) := by decide +kernel
theorem dX5_run_63 : decode cX5_run 63 = .ok (.aload_n 1, 1) := by decide +kernel
theorem dX5_run_64 : decode cX5_run 64 = .ok (.aload_n 2, 1) := by decide +kernel
theorem dX5_run_65 : decode cX5_run 65 = .ok (.iload 5, 2) := by decide +kernel
theorem dX5_run_67 : decode cX5_run 67 = .ok (.aload 4, 2) := by decide +kernel
theorem dX5_run_69 : decode cX5_run 69 = .ok (.invokevirtual 47, 3) := by decide +kernel
theorem dX5_run_72 : decode cX5_run 72 = .ok (.istore 5, 2) := by decide +kernel
theorem dX5_run_74 : decode cX5_run 74 = .ok (.iinc 6 1, 3) := by decide +kernel
theorem dX5_run_77 : decode cX5_run 77 = .ok (.goto (-31), 3) := by decide +kernel
theorem dX5_run_80 : decode cX5_run 80 = .ok (.return_, 1) := by decide +kernel
noncomputable def Li_run_L46 (l0 : Nat) (l1 : Nat) (l2 : Nat) (σ : St) (x5 : Int32) (x6 : Int32) : Option ((Int32 × Int32 × St) ⊕ St) :=
  if 1000000 ≤ x6 then (some (.inr σ)) else (if (σ.1 l2 6) ≤ x5 then (some (.inr σ)) else (bd2 (Li_follow σ l0 l1 l2 x5) (fun r10 σ11 => bnd (x6 + 1) (fun v12 => some (.inl (r10, v12, σ11))))))
set_option maxRecDepth 100000 in
set_option maxHeartbeats 4000000 in
theorem tb_Li_run_L46 {V : Ev} {Γ : Cn} {fin : Option Value × St} {l0 : Nat} {l1 : Nat} {l2 : Nat} {σ : St} {x5 : Int32} {x6 : Int32} {o : ((Int32 × Int32 × St) ⊕ St)} (X : Cx V Γ M_X5_run) {A : ((Int32 × Int32 × St) ⊕ St) → Prop} (k_l0 : okLi l0) (k_l1 : okCl l1) (k_l2 : okDa l2) (hb46 : ∀ (x5 : Int32) (x6 : Int32) (σ9 : St), A (.inl (x5, x6, σ9)) → Go V Γ M_X5_run (Zm V Γ 6 fin) 46 [(0, .ref (V.2.2.1 + l0)), (1, .ref (V.2.2.1 + l1)), (2, .ref (V.2.2.1 + l2)), (4, .ref (V.2.2.1 + 31)), (5, .int x5), (6, .int x6)] [] σ9) (hx46 : ∀ (σ9 : St), A (.inr σ9) → Go V Γ M_X5_run (Zm V Γ 6 fin) 80 [] [] σ9) (h : Li_run_L46 l0 l1 l2 σ x5 x6 = some o) (hA : A o) : Go V Γ M_X5_run (Zm V Γ 6 fin) 46 [(0, .ref (V.2.2.1 + l0)), (1, .ref (V.2.2.1 + l1)), (2, .ref (V.2.2.1 + l2)), (4, .ref (V.2.2.1 + 31)), (5, .int x5), (6, .int x6)] [] σ := by
  unfold Li_run_L46 at h
  refine g_iload (pc := 46) X 5 rfl dX5_run_46 ?_
  refine g_ldc (v := 1000000) (pc := 48) X (k_const_X5_43) dX5_run_48 ?_
  refine g_icmp_ge (pc := 50) (tgt := 80) X dX5_run_50 rfl (fun c14 => ?_) (fun c14 => ?_)
  · replace h := if_t c14 h
    refine g_sub [] rfl ?_
    cases h
    exact hx46 _ hA
  · replace h := if_f c14 h
    refine g_iload (pc := 53) X 4 rfl dX5_run_53 ?_
    refine g_aload_n (pc := 55) X 2 rfl dX5_run_55 ?_
    refine g_getI (pc := 56) X k_fl_X5_44 (sDa_0 k_l2) rfl dX5_run_56 ?_
    refine g_icmp_ge (pc := 59) (tgt := 80) X dX5_run_59 rfl (fun c13 => ?_) (fun c13 => ?_)
    · replace h := if_t c13 h
      refine g_sub [] rfl ?_
      cases h
      exact hx46 _ hA
    · replace h := if_f c13 h
      refine g_aload_n (pc := 62) X 0 rfl dX5_run_62 ?_
      refine g_aload_n (pc := 63) X 1 rfl dX5_run_63 ?_
      refine g_aload_n (pc := 64) X 2 rfl dX5_run_64 ?_
      refine g_iload (pc := 65) X 4 rfl dX5_run_65 ?_
      refine g_aload (pc := 67) X 3 rfl dX5_run_67 ?_
      obtain ⟨r10, σ11, hc9, h⟩ := bd2_e h
      refine g_callV (pc := 69) X k_ml_X5_47 (run_Li_follow k_l0 k_l1 k_l2 hc9) (sLi_0 k_l0) rfl (room_ok (Nat.le_of_ble_eq_true rfl) (Nat.le_of_ble_eq_true rfl)) ⟨Nat.le_refl _, Nat.le_refl _⟩ _ rfl (Nat.le_of_ble_eq_true rfl) dX5_run_69 ?_
      show Go V Γ M_X5_run (Zm V Γ 6 fin) 72 [(0, .ref (V.2.2.1 + l0)), (1, .ref (V.2.2.1 + l1)), (2, .ref (V.2.2.1 + l2)), (4, .ref (V.2.2.1 + 31)), (5, .int x5), (6, .int x6)] [.int r10] σ11
      refine g_istore (pc := 72) X [(5, .int r10), (0, .ref (V.2.2.1 + l0)), (1, .ref (V.2.2.1 + l1)), (2, .ref (V.2.2.1 + l2)), (4, .ref (V.2.2.1 + 31)), (6, .int x6)] (Nat.le_of_ble_eq_true rfl) rfl dX5_run_72 ?_
      obtain ⟨v12, e_v12, h⟩ := bnd_e h
      refine g_iinc (pc := 74) (v := v12) X [(6, .int v12), (5, .int r10), (0, .ref (V.2.2.1 + l0)), (1, .ref (V.2.2.1 + l1)), (2, .ref (V.2.2.1 + l2)), (4, .ref (V.2.2.1 + 31))] 5 rfl (by rw [e_v12]; rfl) (Nat.le_of_ble_eq_true rfl) rfl dX5_run_74 ?_
      refine g_goto (pc := 77) (tgt := 46) X dX5_run_77 rfl ?_
      refine g_sub [2, 3, 4, 5, 1, 0] rfl ?_
      cases h
      exact hb46 _ _ _ hA
set_option maxRecDepth 100000 in
theorem tl_Li_run_L46 {V : Ev} {Γ : Cn} {fin : Option Value × St} {l0 : Nat} {l1 : Nat} {l2 : Nat} {x5 : Int32} {x6 : Int32} {σ9 : St} (X : Cx V Γ M_X5_run) (k_l0 : okLi l0) (k_l1 : okCl l1) (k_l2 : okDa l2) {σ8 : St} {n : Nat} (h : iter (fun s : (Int32 × Int32 × St) => Li_run_L46 l0 l1 l2 s.2.2 s.1 s.2.1) n (x5, x6, σ9) = some σ8) (hK : Go V Γ M_X5_run (Zm V Γ 6 fin) 80 [] [] σ8) : Go V Γ M_X5_run (Zm V Γ 6 fin) 46 [(0, .ref (V.2.2.1 + l0)), (1, .ref (V.2.2.1 + l1)), (2, .ref (V.2.2.1 + l2)), (4, .ref (V.2.2.1 + 31)), (5, .int x5), (6, .int x6)] [] σ9 := by
  refine iter_go (G := (fun s : (Int32 × Int32 × St) => Go V Γ M_X5_run (Zm V Γ 6 fin) 46 [(0, .ref (V.2.2.1 + l0)), (1, .ref (V.2.2.1 + l1)), (2, .ref (V.2.2.1 + l2)), (4, .ref (V.2.2.1 + 31)), (5, .int s.1), (6, .int s.2.1)] [] s.2.2)) (fun s o ho hS => ?_) n (x5, x6, σ9) h
  exact tb_Li_run_L46 X k_l0 k_l1 k_l2 (fun _ _ _ h9 => h9) (fun _ he => by cases he; exact hK) ho hS
noncomputable def Li_run (σ : St) (a0 : Nat) (a1 : Nat) (a2 : Nat) (p3 : Int32) : Option St :=
  bnd (wI σ a0 1 1) (fun σ1 => bnd (wI σ1 a0 2 0) (fun σ2 => bnd (wI σ2 a0 3 0) (fun σ3 => bnd (wI σ3 a0 4 0) (fun σ4 => bnd (wI σ4 a0 5 0) (fun σ5 => bnd (wI σ5 a0 6 0) (fun σ6 => bnd (wI σ6 a0 7 0) (fun σ7 => bnd (wI σ7 a0 8 p3) (fun σ8 => bd (iter (fun s : (Int32 × Int32 × St) => Li_run_L46 a0 a1 a2 s.2.2 s.1 s.2.1) FUEL (0, 0, σ8)) (fun σ15 => some σ15)))))))))
set_option maxRecDepth 100000 in
set_option maxHeartbeats 4000000 in
theorem tm_Li_run {V : Ev} {Γ : Cn} {fin : Option Value × St} {σ : St} {a0 : Nat} {a1 : Nat} {a2 : Nat} {p3 : Int32} {o : St} (X : Cx V Γ M_X5_run) {A : St → Prop} (k0 : okLi a0) (k1 : okCl a1) (k2 : okDa a2) (hr : ∀ (σ9 : St), A σ9 → (none, σ9) = fin) (h : Li_run σ a0 a1 a2 p3 = some o) (hA : A o) : Go V Γ M_X5_run (Zm V Γ 6 fin) 0 [(0, .ref (V.2.2.1 + a0)), (1, .ref (V.2.2.1 + a1)), (2, .ref (V.2.2.1 + a2)), (3, .int p3), (4, .ref (V.2.2.1 + 31))] [] σ := by
  unfold Li_run at h
  refine g_aload_n (pc := 0) X 0 rfl dX5_run_0 ?_
  refine g_iconst (v := 1) (pc := 1) X rfl dX5_run_1 ?_
  refine g_putI (pc := 2) X k_fl_X5_17 (sLi_0 k0) rfl nz1.1 nz1.2 dX5_run_2 ?_
  obtain ⟨σ1, e_σ1, h⟩ := bnd_e h
  refine g_nmS e_σ1 ?_
  refine g_aload_n (pc := 5) X 0 rfl dX5_run_5 ?_
  refine g_iconst (v := 0) (pc := 6) X rfl dX5_run_6 ?_
  refine g_putI (pc := 7) X k_fl_X5_21 (sLi_0 k0) rfl rfl rfl dX5_run_7 ?_
  obtain ⟨σ2, e_σ2, h⟩ := bnd_e h
  refine g_nmS e_σ2 ?_
  refine g_aload_n (pc := 10) X 0 rfl dX5_run_10 ?_
  refine g_iconst (v := 0) (pc := 11) X rfl dX5_run_11 ?_
  refine g_putI (pc := 12) X k_fl_X5_25 (sLi_0 k0) rfl rfl rfl dX5_run_12 ?_
  obtain ⟨σ3, e_σ3, h⟩ := bnd_e h
  refine g_nmS e_σ3 ?_
  refine g_aload_n (pc := 15) X 0 rfl dX5_run_15 ?_
  refine g_iconst (v := 0) (pc := 16) X rfl dX5_run_16 ?_
  refine g_putI (pc := 17) X k_fl_X5_28 (sLi_0 k0) rfl rfl rfl dX5_run_17 ?_
  obtain ⟨σ4, e_σ4, h⟩ := bnd_e h
  refine g_nmS e_σ4 ?_
  refine g_aload_n (pc := 20) X 0 rfl dX5_run_20 ?_
  refine g_iconst (v := 0) (pc := 21) X rfl dX5_run_21 ?_
  refine g_putI (pc := 22) X k_fl_X5_31 (sLi_0 k0) rfl rfl rfl dX5_run_22 ?_
  obtain ⟨σ5, e_σ5, h⟩ := bnd_e h
  refine g_nmS e_σ5 ?_
  refine g_aload_n (pc := 25) X 0 rfl dX5_run_25 ?_
  refine g_iconst (v := 0) (pc := 26) X rfl dX5_run_26 ?_
  refine g_putI (pc := 27) X k_fl_X5_34 (sLi_0 k0) rfl rfl rfl dX5_run_27 ?_
  obtain ⟨σ6, e_σ6, h⟩ := bnd_e h
  refine g_nmS e_σ6 ?_
  refine g_aload_n (pc := 30) X 0 rfl dX5_run_30 ?_
  refine g_iconst (v := 0) (pc := 31) X rfl dX5_run_31 ?_
  refine g_putI (pc := 32) X k_fl_X5_37 (sLi_0 k0) rfl nz0.1 nz0.2 dX5_run_32 ?_
  obtain ⟨σ7, e_σ7, h⟩ := bnd_e h
  refine g_nmS e_σ7 ?_
  refine g_aload_n (pc := 35) X 0 rfl dX5_run_35 ?_
  refine g_iload_n (pc := 36) X 3 rfl dX5_run_36 ?_
  refine g_putI (pc := 37) X k_fl_X5_40 (sLi_0 k0) rfl rfl rfl dX5_run_37 ?_
  obtain ⟨σ8, e_σ8, h⟩ := bnd_e h
  refine g_nmS e_σ8 ?_
  refine g_iconst (v := 0) (pc := 40) X rfl dX5_run_40 ?_
  refine g_istore (pc := 41) X [(5, .int 0), (0, .ref (V.2.2.1 + a0)), (1, .ref (V.2.2.1 + a1)), (2, .ref (V.2.2.1 + a2)), (3, .int p3), (4, .ref (V.2.2.1 + 31))] (Nat.le_of_ble_eq_true rfl) rfl dX5_run_41 ?_
  refine g_iconst (v := 0) (pc := 43) X rfl dX5_run_43 ?_
  refine g_istore (pc := 44) X [(6, .int 0), (5, .int 0), (0, .ref (V.2.2.1 + a0)), (1, .ref (V.2.2.1 + a1)), (2, .ref (V.2.2.1 + a2)), (3, .int p3), (4, .ref (V.2.2.1 + 31))] (Nat.le_of_ble_eq_true rfl) rfl dX5_run_44 ?_
  refine g_sub [2, 3, 4, 6, 1, 0] rfl ?_
  obtain ⟨σ15, hi16, h⟩ := bd_e h
  refine tl_Li_run_L46 X k0 k1 k2 hi16 ?_
  cases h
  exact g_vret (pc := 80) X rfl (hr _ hA) dX5_run_80
set_option maxRecDepth 100000 in
theorem run_Li_run {V : Ev} {σ : St} {a0 : Nat} {a1 : Nat} {a2 : Nat} {p3 : Int32} {o : St} (k0 : okLi a0) (k1 : okCl a1) (k2 : okDa a2)  (h : Li_run σ a0 a1 a2 p3 = some o) : Rs V 6 M_X5_run [.ref (V.2.2.1 + a0), .ref (V.2.2.1 + a1), .ref (V.2.2.1 + a2), .int p3, .ref (V.2.2.1 + 31)] σ (none, o) := by
  refine Rs.of (by decide +kernel) (Nat.le_of_ble_eq_true rfl) (fun Γ X => ?_)
  exact tm_Li_run X (A := fun o1 => o1 = o) k0 k1 k2 (fun _ e => by rw [e]) h rfl
theorem dX6_append_0 : decode cX6_append 0 = .ok (.bipush 24, 2) := by decide +kernel
theorem dX6_append_2 : decode cX6_append 2 = .ok (.istore_n 2, 1) := by decide +kernel
theorem dX6_append_3 : decode cX6_append 3 = .ok (.iload_n 2, 1) := by decide +kernel
theorem dX6_append_4 : decode cX6_append 4 = .ok (.ifCond .lt 42, 3) := by decide +kernel
theorem dX6_append_7 : decode cX6_append 7 = .ok (.aload_n 0, 1) := by decide +kernel
theorem dX6_append_8 : decode cX6_append 8 = .ok (.getfield 15, 3) := by decide +kernel
theorem dX6_append_11 : decode cX6_append 11 = .ok (.sipush 900, 3) := by decide +kernel
theorem dX6_append_14 : decode cX6_append 14 = .ok (.if_icmp .ge 32, 3) := by decide +kernel
theorem dX6_append_17 : decode cX6_append 17 = .ok (.aload_n 0, 1) := by decide +kernel
theorem dX6_append_18 : decode cX6_append 18 = .ok (.getfield 9, 3) := by decide +kernel
theorem dX6_append_21 : decode cX6_append 21 = .ok (.aload_n 0, 1) := by decide +kernel
theorem dX6_append_22 : decode cX6_append 22 = .ok (.getfield 15, 3) := by decide +kernel
theorem dX6_append_25 : decode cX6_append 25 = .ok (.iload_n 1, 1) := by decide +kernel
theorem dX6_append_26 : decode cX6_append 26 = .ok (.iload_n 2, 1) := by decide +kernel
theorem dX6_append_27 : decode cX6_append 27 = .ok (.ishr, 1) := by decide +kernel
theorem dX6_append_28 : decode cX6_append 28 = .ok (.i2b, 1) := by decide +kernel
theorem dX6_append_29 : decode cX6_append 29 = .ok (.bastore, 1) := by decide +kernel
theorem dX6_append_30 : decode cX6_append 30 = .ok (.aload_n 0, 1) := by decide +kernel
theorem dX6_append_31 : decode cX6_append 31 = .ok (.dup, 1) := by decide +kernel
theorem dX6_append_32 : decode cX6_append 32 = .ok (.getfield 15, 3) := by decide +kernel
theorem dX6_append_35 : decode cX6_append 35 = .ok (.iconst 1, 1) := by decide +kernel
theorem dX6_append_36 : decode cX6_append 36 = .ok (.iadd, 1) := by decide +kernel
theorem dX6_append_37 : decode cX6_append 37 = .ok (.putfield 15, 3) := by decide +kernel
theorem dX6_append_40 : decode cX6_append 40 = .ok (.iinc 2 (-8), 3) := by decide +kernel
theorem dX6_append_43 : decode cX6_append 43 = .ok (.goto (-40), 3) := by decide +kernel
theorem dX6_append_46 : decode cX6_append 46 = .ok (.return_, 1) := by decide +kernel
noncomputable def Re_append_L3 (l1 : Int32) (σ : St) (x2 : Int32) : Option ((Int32 × St) ⊕ St) :=
  if x2 < 0 then (some (.inr σ)) else (if 900 ≤ (σ.1 2 1) then (some (.inr σ)) else (chk (ix (σ.1 2 1) 900) (bnd (wI σ 3 (tn (σ.1 2 1)) (vp_nar .byte ((l1 >>> (x2 &&& 31)).toInt8.toInt32))) (fun σ2 => bnd (wI σ2 2 1 ((σ2.1 2 1) + 1)) (fun σ3 => bnd (x2 + (-8)) (fun v4 => some (.inl (v4, σ3))))))))
set_option maxRecDepth 100000 in
set_option maxHeartbeats 4000000 in
theorem tb_Re_append_L3 {V : Ev} {Γ : Cn} {fin : Option Value × St} {l1 : Int32} {σ : St} {x2 : Int32} {o : ((Int32 × St) ⊕ St)} (X : Cx V Γ M_X6_append) {A : ((Int32 × St) ⊕ St) → Prop}  (hb3 : ∀ (x2 : Int32) (σ9 : St), A (.inl (x2, σ9)) → Go V Γ M_X6_append (Zm V Γ 0 fin) 3 [(0, .ref (V.2.2.1 + 2)), (1, .int l1), (2, .int x2)] [] σ9) (hx3 : ∀ (σ9 : St), A (.inr σ9) → Go V Γ M_X6_append (Zm V Γ 0 fin) 46 [] [] σ9) (h : Re_append_L3 l1 σ x2 = some o) (hA : A o) : Go V Γ M_X6_append (Zm V Γ 0 fin) 3 [(0, .ref (V.2.2.1 + 2)), (1, .int l1), (2, .int x2)] [] σ := by
  unfold Re_append_L3 at h
  refine g_iload_n (pc := 3) X 2 rfl dX6_append_3 ?_
  refine g_if_lt (pc := 4) (tgt := 46) X dX6_append_4 rfl (fun c6 => ?_) (fun c6 => ?_)
  · replace h := if_t c6 h
    refine g_sub [] rfl ?_
    cases h
    exact hx3 _ hA
  · replace h := if_f c6 h
    refine g_aload_n (pc := 7) X 0 rfl dX6_append_7 ?_
    refine g_getI (pc := 8) X k_fl_X6_15 s_2 rfl dX6_append_8 ?_
    refine g_sipush (v := 900) (pc := 11) X (by decide) dX6_append_11 ?_
    refine g_icmp_ge (pc := 14) (tgt := 46) X dX6_append_14 rfl (fun c5 => ?_) (fun c5 => ?_)
    · replace h := if_t c5 h
      refine g_sub [] rfl ?_
      cases h
      exact hx3 _ hA
    · replace h := if_f c5 h
      refine g_aload_n (pc := 17) X 0 rfl dX6_append_17 ?_
      refine g_getR (r := 3) (pc := 18) X k_fl_X6_9 s_2 rfl dX6_append_18 ?_
      refine g_aload_n (pc := 21) X 0 rfl dX6_append_21 ?_
      refine g_getI (pc := 22) X k_fl_X6_15 s_2 rfl dX6_append_22 ?_
      refine g_iload_n (pc := 25) X 1 rfl dX6_append_25 ?_
      refine g_iload_n (pc := 26) X 2 rfl dX6_append_26 ?_
      refine g_ishr (pc := 27) X dX6_append_27 ?_
      refine g_i2b (pc := 28) X dX6_append_28 ?_
      obtain ⟨c1, h⟩ := chk_e h
      refine g_bast (pc := 29) X s_3 c1 dX6_append_29 ?_
      obtain ⟨σ2, e_σ2, h⟩ := bnd_e h
      refine g_nmS e_σ2 ?_
      refine g_aload_n (pc := 30) X 0 rfl dX6_append_30 ?_
      refine g_dup (pc := 31) X rfl dX6_append_31 ?_
      refine g_getI (pc := 32) X k_fl_X6_15 s_2 rfl dX6_append_32 ?_
      refine g_iconst (v := 1) (pc := 35) X rfl dX6_append_35 ?_
      refine g_iadd (pc := 36) X dX6_append_36 ?_
      refine g_putI (pc := 37) X k_fl_X6_15 s_2 rfl rfl rfl dX6_append_37 ?_
      obtain ⟨σ3, e_σ3, h⟩ := bnd_e h
      refine g_nmS e_σ3 ?_
      obtain ⟨v4, e_v4, h⟩ := bnd_e h
      refine g_iinc (pc := 40) (v := v4) X [(2, .int v4), (0, .ref (V.2.2.1 + 2)), (1, .int l1)] 2 rfl (by rw [e_v4]; rfl) (Nat.le_of_ble_eq_true rfl) rfl dX6_append_40 ?_
      refine g_goto (pc := 43) (tgt := 3) X dX6_append_43 rfl ?_
      refine g_sub [1, 2, 0] rfl ?_
      cases h
      exact hb3 _ _ hA
set_option maxRecDepth 100000 in
theorem tl_Re_append_L3 {V : Ev} {Γ : Cn} {fin : Option Value × St} {l1 : Int32} {x2 : Int32} {σ9 : St} (X : Cx V Γ M_X6_append)  {σ8 : St} {n : Nat} (h : iter (fun s : (Int32 × St) => Re_append_L3 l1 s.2 s.1) n (x2, σ9) = some σ8) (hK : Go V Γ M_X6_append (Zm V Γ 0 fin) 46 [] [] σ8) : Go V Γ M_X6_append (Zm V Γ 0 fin) 3 [(0, .ref (V.2.2.1 + 2)), (1, .int l1), (2, .int x2)] [] σ9 := by
  refine iter_go (G := (fun s : (Int32 × St) => Go V Γ M_X6_append (Zm V Γ 0 fin) 3 [(0, .ref (V.2.2.1 + 2)), (1, .int l1), (2, .int s.1)] [] s.2)) (fun s o ho hS => ?_) n (x2, σ9) h
  exact tb_Re_append_L3 X  (fun _ _ h9 => h9) (fun _ he => by cases he; exact hK) ho hS
noncomputable def Re_append (σ : St) (p1 : Int32) : Option St :=
  bd (iter (fun s : (Int32 × St) => Re_append_L3 p1 s.2 s.1) FUEL (24, σ)) (fun σ7 => some σ7)
set_option maxRecDepth 100000 in
set_option maxHeartbeats 4000000 in
theorem tm_Re_append {V : Ev} {Γ : Cn} {fin : Option Value × St} {σ : St} {p1 : Int32} {o : St} (X : Cx V Γ M_X6_append) {A : St → Prop}  (hr : ∀ (σ9 : St), A σ9 → (none, σ9) = fin) (h : Re_append σ p1 = some o) (hA : A o) : Go V Γ M_X6_append (Zm V Γ 0 fin) 0 [(0, .ref (V.2.2.1 + 2)), (1, .int p1)] [] σ := by
  unfold Re_append at h
  refine g_bipush (v := 24) (pc := 0) X (by decide) dX6_append_0 ?_
  refine g_istore_n (pc := 2) X [(2, .int 24), (0, .ref (V.2.2.1 + 2)), (1, .int p1)] rfl (Nat.le_of_ble_eq_true rfl) rfl dX6_append_2 ?_
  refine g_sub [1, 2, 0] rfl ?_
  obtain ⟨σ7, hi8, h⟩ := bd_e h
  refine tl_Re_append_L3 X  hi8 ?_
  cases h
  exact g_vret (pc := 46) X rfl (hr _ hA) dX6_append_46
set_option maxRecDepth 100000 in
theorem run_Re_append {V : Ev} {σ : St} {p1 : Int32} {o : St}   (h : Re_append σ p1 = some o) : Rs V 0 M_X6_append [.ref (V.2.2.1 + 2), .int p1] σ (none, o) := by
  refine Rs.of (by decide +kernel) (Nat.le_of_ble_eq_true rfl) (fun Γ X => ?_)
  exact tm_Re_append X (A := fun o1 => o1 = o)  (fun _ e => by rw [e]) h rfl
theorem dX6_skipBlanks_0 : decode cX6_skipBlanks 0 = .ok (.iload_n 1, 1) := by decide +kernel
theorem dX6_skipBlanks_1 : decode cX6_skipBlanks 1 = .ok (.istore_n 2, 1) := by decide +kernel
theorem dX6_skipBlanks_2 : decode cX6_skipBlanks 2 = .ok (.iload_n 2, 1) := by decide +kernel
theorem dX6_skipBlanks_3 : decode cX6_skipBlanks 3 = .ok (.aload_n 0, 1) := by decide +kernel
theorem dX6_skipBlanks_4 : decode cX6_skipBlanks 4 = .ok (.getfield 19, 3) := by decide +kernel
theorem dX6_skipBlanks_7 : decode cX6_skipBlanks 7 = .ok (.if_icmp .ge 31, 3) := by decide +kernel
theorem dX6_skipBlanks_10 : decode cX6_skipBlanks 10 = .ok (.aload_n 0, 1) := by decide +kernel
theorem dX6_skipBlanks_11 : decode cX6_skipBlanks 11 = .ok (.getfield 9, 3) := by decide +kernel
theorem dX6_skipBlanks_14 : decode cX6_skipBlanks 14 = .ok (.iload_n 2, 1) := by decide +kernel
theorem dX6_skipBlanks_15 : decode cX6_skipBlanks 15 = .ok (.baload, 1) := by decide +kernel
theorem dX6_skipBlanks_16 : decode cX6_skipBlanks 16 = .ok (.bipush 32, 2) := by decide +kernel
theorem dX6_skipBlanks_18 : decode cX6_skipBlanks 18 = .ok (.if_icmp .eq 14, 3) := by decide +kernel
theorem dX6_skipBlanks_21 : decode cX6_skipBlanks 21 = .ok (.aload_n 0, 1) := by decide +kernel
theorem dX6_skipBlanks_22 : decode cX6_skipBlanks 22 = .ok (.getfield 9, 3) := by decide +kernel
theorem dX6_skipBlanks_25 : decode cX6_skipBlanks 25 = .ok (.iload_n 2, 1) := by decide +kernel
theorem dX6_skipBlanks_26 : decode cX6_skipBlanks 26 = .ok (.baload, 1) := by decide +kernel
theorem dX6_skipBlanks_27 : decode cX6_skipBlanks 27 = .ok (.bipush 10, 2) := by decide +kernel
theorem dX6_skipBlanks_29 : decode cX6_skipBlanks 29 = .ok (.if_icmp .ne 9, 3) := by decide +kernel
theorem dX6_skipBlanks_32 : decode cX6_skipBlanks 32 = .ok (.iinc 2 1, 3) := by decide +kernel
theorem dX6_skipBlanks_35 : decode cX6_skipBlanks 35 = .ok (.goto (-33), 3) := by decide +kernel
theorem dX6_skipBlanks_38 : decode cX6_skipBlanks 38 = .ok (.iload_n 2, 1) := by decide +kernel
theorem dX6_skipBlanks_39 : decode cX6_skipBlanks 39 = .ok (.ireturn, 1) := by decide +kernel
noncomputable def Re_skipBlanks_L2 (σ : St) (x2 : Int32) : Option (Int32 ⊕ Int32) :=
  if (σ.1 2 2) ≤ x2 then (some (.inr x2)) else (chk (ix x2 900) (if (σ.1 3 (tn x2)) = 32 then (bnd (x2 + 1) (fun v2 => some (.inl v2))) else (chk (ix x2 900) (if (σ.1 3 (tn x2)) = 10 then (bnd (x2 + 1) (fun v4 => some (.inl v4))) else (some (.inr x2))))))
set_option maxRecDepth 100000 in
set_option maxHeartbeats 4000000 in
theorem tb_Re_skipBlanks_L2 {V : Ev} {Γ : Cn} {fin : Option Value × St} {σ : St} {x2 : Int32} {o : (Int32 ⊕ Int32)} (X : Cx V Γ M_X6_skipBlanks) {A : (Int32 ⊕ Int32) → Prop}  (hb2 : ∀ (x2 : Int32), A (.inl x2) → Go V Γ M_X6_skipBlanks (Zm V Γ 0 fin) 2 [(0, .ref (V.2.2.1 + 2)), (2, .int x2)] [] σ) (hx2 : ∀ (x2 : Int32), A (.inr x2) → Go V Γ M_X6_skipBlanks (Zm V Γ 0 fin) 38 [(2, .int x2)] [] σ) (h : Re_skipBlanks_L2 σ x2 = some o) (hA : A o) : Go V Γ M_X6_skipBlanks (Zm V Γ 0 fin) 2 [(0, .ref (V.2.2.1 + 2)), (2, .int x2)] [] σ := by
  unfold Re_skipBlanks_L2 at h
  refine g_iload_n (pc := 2) X 1 rfl dX6_skipBlanks_2 ?_
  refine g_aload_n (pc := 3) X 0 rfl dX6_skipBlanks_3 ?_
  refine g_getI (pc := 4) X k_fl_X6_19 s_2 rfl dX6_skipBlanks_4 ?_
  refine g_icmp_ge (pc := 7) (tgt := 38) X dX6_skipBlanks_7 rfl (fun c7 => ?_) (fun c7 => ?_)
  · replace h := if_t c7 h
    refine g_sub [1] rfl ?_
    cases h
    exact hx2 _ hA
  · replace h := if_f c7 h
    refine g_aload_n (pc := 10) X 0 rfl dX6_skipBlanks_10 ?_
    refine g_getR (r := 3) (pc := 11) X k_fl_X6_9 s_2 rfl dX6_skipBlanks_11 ?_
    refine g_iload_n (pc := 14) X 1 rfl dX6_skipBlanks_14 ?_
    obtain ⟨c1, h⟩ := chk_e h
    refine g_bald (pc := 15) X s_3 c1 dX6_skipBlanks_15 ?_
    refine g_bipush (v := 32) (pc := 16) X (by decide) dX6_skipBlanks_16 ?_
    refine g_icmp_eq (pc := 18) (tgt := 32) X dX6_skipBlanks_18 rfl (fun c6 => ?_) (fun c6 => ?_)
    · replace h := if_t c6 h
      obtain ⟨v2, e_v2, h⟩ := bnd_e h
      refine g_iinc (pc := 32) (v := v2) X [(2, .int v2), (0, .ref (V.2.2.1 + 2))] 1 rfl (by rw [e_v2]; rfl) (Nat.le_of_ble_eq_true rfl) rfl dX6_skipBlanks_32 ?_
      refine g_goto (pc := 35) (tgt := 2) X dX6_skipBlanks_35 rfl ?_
      refine g_sub [1, 0] rfl ?_
      cases h
      exact hb2 _ hA
    · replace h := if_f c6 h
      refine g_aload_n (pc := 21) X 0 rfl dX6_skipBlanks_21 ?_
      refine g_getR (r := 3) (pc := 22) X k_fl_X6_9 s_2 rfl dX6_skipBlanks_22 ?_
      refine g_iload_n (pc := 25) X 1 rfl dX6_skipBlanks_25 ?_
      obtain ⟨c3, h⟩ := chk_e h
      refine g_bald (pc := 26) X s_3 c3 dX6_skipBlanks_26 ?_
      refine g_bipush (v := 10) (pc := 27) X (by decide) dX6_skipBlanks_27 ?_
      refine g_icmp_ne (pc := 29) (tgt := 38) X dX6_skipBlanks_29 rfl (fun c5 => ?_) (fun c5 => ?_)
      · replace h := if_f c5 h
        refine g_sub [1] rfl ?_
        cases h
        exact hx2 _ hA
      · replace h := if_t c5 h
        obtain ⟨v4, e_v4, h⟩ := bnd_e h
        refine g_iinc (pc := 32) (v := v4) X [(2, .int v4), (0, .ref (V.2.2.1 + 2))] 1 rfl (by rw [e_v4]; rfl) (Nat.le_of_ble_eq_true rfl) rfl dX6_skipBlanks_32 ?_
        refine g_goto (pc := 35) (tgt := 2) X dX6_skipBlanks_35 rfl ?_
        refine g_sub [1, 0] rfl ?_
        cases h
        exact hb2 _ hA
set_option maxRecDepth 100000 in
theorem tl_Re_skipBlanks_L2 {V : Ev} {Γ : Cn} {fin : Option Value × St} {σ : St} {x2 : Int32} (X : Cx V Γ M_X6_skipBlanks)  {y2 : Int32} {n : Nat} (h : iter (fun s : Int32 => Re_skipBlanks_L2 σ s) n x2 = some y2) (hK : Go V Γ M_X6_skipBlanks (Zm V Γ 0 fin) 38 [(2, .int y2)] [] σ) : Go V Γ M_X6_skipBlanks (Zm V Γ 0 fin) 2 [(0, .ref (V.2.2.1 + 2)), (2, .int x2)] [] σ := by
  refine iter_go (G := (fun s : Int32 => Go V Γ M_X6_skipBlanks (Zm V Γ 0 fin) 2 [(0, .ref (V.2.2.1 + 2)), (2, .int s)] [] σ)) (fun s o ho hS => ?_) n x2 h
  exact tb_Re_skipBlanks_L2 X  (fun _ h9 => h9) (fun _ he => by cases he; exact hK) ho hS
noncomputable def Re_skipBlanks (σ : St) (p1 : Int32) : Option Int32 :=
  bd (iter (fun s : Int32 => Re_skipBlanks_L2 σ s) FUEL p1) (fun v8 => some v8)
set_option maxRecDepth 100000 in
set_option maxHeartbeats 4000000 in
theorem tm_Re_skipBlanks {V : Ev} {Γ : Cn} {fin : Option Value × St} {σ : St} {p1 : Int32} {o : Int32} (X : Cx V Γ M_X6_skipBlanks) {A : Int32 → Prop}  (hr : ∀ (r : Int32), A r → (some (.int r), σ) = fin) (h : Re_skipBlanks σ p1 = some o) (hA : A o) : Go V Γ M_X6_skipBlanks (Zm V Γ 0 fin) 0 [(0, .ref (V.2.2.1 + 2)), (1, .int p1)] [] σ := by
  unfold Re_skipBlanks at h
  refine g_iload_n (pc := 0) X 1 rfl dX6_skipBlanks_0 ?_
  refine g_istore_n (pc := 1) X [(2, .int p1), (0, .ref (V.2.2.1 + 2)), (1, .int p1)] rfl (Nat.le_of_ble_eq_true rfl) rfl dX6_skipBlanks_1 ?_
  refine g_sub [1, 0] rfl ?_
  obtain ⟨v8, hi9, h⟩ := bd_e h
  refine tl_Re_skipBlanks_L2 X  hi9 ?_
  refine g_iload_n (pc := 38) X 0 rfl dX6_skipBlanks_38 ?_
  cases h
  exact g_iret (pc := 39) X rfl rfl (hr _ hA) dX6_skipBlanks_39
set_option maxRecDepth 100000 in
theorem run_Re_skipBlanks {V : Ev} {σ : St} {p1 : Int32} {o : Int32}   (h : Re_skipBlanks σ p1 = some o) : Rs V 0 M_X6_skipBlanks [.ref (V.2.2.1 + 2), .int p1] σ (some (.int o), σ) := by
  refine Rs.of (by decide +kernel) (Nat.le_of_ble_eq_true rfl) (fun Γ X => ?_)
  exact tm_Re_skipBlanks X (A := fun o1 => o1 = o)  (fun _ e => by rw [e]) h rfl
theorem dX6_isLetter_0 : decode cX6_isLetter 0 = .ok (.iload_n 0, 1) := by decide +kernel
theorem dX6_isLetter_1 : decode cX6_isLetter 1 = .ok (.bipush 97, 2) := by decide +kernel
theorem dX6_isLetter_3 : decode cX6_isLetter 3 = .ok (.if_icmp .lt 13, 3) := by decide +kernel
theorem dX6_isLetter_6 : decode cX6_isLetter 6 = .ok (.iload_n 0, 1) := by decide +kernel
theorem dX6_isLetter_7 : decode cX6_isLetter 7 = .ok (.bipush 122, 2) := by decide +kernel
theorem dX6_isLetter_9 : decode cX6_isLetter 9 = .ok (.if_icmp .gt 7, 3) := by decide +kernel
theorem dX6_isLetter_12 : decode cX6_isLetter 12 = .ok (.iconst 1, 1) := by decide +kernel
theorem dX6_isLetter_13 : decode cX6_isLetter 13 = .ok (.goto 4, 3) := by decide +kernel
theorem dX6_isLetter_16 : decode cX6_isLetter 16 = .ok (.iconst 0, 1) := by decide +kernel
theorem dX6_isLetter_17 : decode cX6_isLetter 17 = .ok (.ireturn, 1) := by decide +kernel
noncomputable def Re_isLetter (p0 : Int32) : Option Int32 :=
  if p0 < 97 then (some 0) else (if 122 < p0 then (some 0) else (some 1))
set_option maxRecDepth 100000 in
set_option maxHeartbeats 4000000 in
theorem tm_Re_isLetter {V : Ev} {Γ : Cn} {fin : Option Value × St} {σ : St} {p0 : Int32} {o : Int32} (X : Cx V Γ M_X6_isLetter) {A : Int32 → Prop}  (hr : ∀ (r : Int32), A r → (some (.int r), σ) = fin) (h : Re_isLetter p0 = some o) (hA : A o) : Go V Γ M_X6_isLetter (Zm V Γ 0 fin) 0 [(0, .int p0)] [] σ := by
  unfold Re_isLetter at h
  refine g_iload_n (pc := 0) X 0 rfl dX6_isLetter_0 ?_
  refine g_bipush (v := 97) (pc := 1) X (by decide) dX6_isLetter_1 ?_
  refine g_icmp_lt (pc := 3) (tgt := 16) X dX6_isLetter_3 rfl (fun c2 => ?_) (fun c2 => ?_)
  · replace h := if_t c2 h
    refine g_iconst (v := 0) (pc := 16) X rfl dX6_isLetter_16 ?_
    cases h
    exact g_iret (pc := 17) X rfl nz0.1 (hr _ hA) dX6_isLetter_17
  · replace h := if_f c2 h
    refine g_iload_n (pc := 6) X 0 rfl dX6_isLetter_6 ?_
    refine g_bipush (v := 122) (pc := 7) X (by decide) dX6_isLetter_7 ?_
    refine g_icmp_gt (pc := 9) (tgt := 16) X dX6_isLetter_9 rfl (fun c1 => ?_) (fun c1 => ?_)
    · replace h := if_t c1 h
      refine g_iconst (v := 0) (pc := 16) X rfl dX6_isLetter_16 ?_
      cases h
      exact g_iret (pc := 17) X rfl nz0.1 (hr _ hA) dX6_isLetter_17
    · replace h := if_f c1 h
      refine g_iconst (v := 1) (pc := 12) X rfl dX6_isLetter_12 ?_
      refine g_goto (pc := 13) (tgt := 17) X dX6_isLetter_13 rfl ?_
      cases h
      exact g_iret (pc := 17) X rfl nz1.1 (hr _ hA) dX6_isLetter_17
set_option maxRecDepth 100000 in
theorem run_Re_isLetter {V : Ev} {σ : St} {p0 : Int32} {o : Int32}   (h : Re_isLetter p0 = some o) : Rs V 0 M_X6_isLetter [.int p0] σ (some (.int o), σ) := by
  refine Rs.of (by decide +kernel) (Nat.le_of_ble_eq_true rfl) (fun Γ X => ?_)
  exact tm_Re_isLetter X (A := fun o1 => o1 = o)  (fun _ e => by rw [e]) h rfl
theorem dX6_isKeptWord_0 : decode cX6_isKeptWord 0 = .ok (.iconst 0, 1) := by decide +kernel
theorem dX6_isKeptWord_1 : decode cX6_isKeptWord 1 = .ok (.istore 4, 2) := by decide +kernel
theorem dX6_isKeptWord_3 : decode cX6_isKeptWord 3 = .ok (.iload 4, 2) := by decide +kernel
theorem dX6_isKeptWord_5 : decode cX6_isKeptWord 5 = .ok (.bipush 8, 2) := by decide +kernel
theorem dX6_isKeptWord_7 : decode cX6_isKeptWord 7 = .ok (.if_icmp .ge 61, 3) := by decide +kernel
theorem dX6_isKeptWord_10 : decode cX6_isKeptWord 10 = .ok (.iload_n 1, 1) := by decide +kernel
theorem dX6_isKeptWord_11 : decode cX6_isKeptWord 11 = .ok (.iload 4, 2) := by decide +kernel
theorem dX6_isKeptWord_13 : decode cX6_isKeptWord 13 = .ok (.iadd, 1) := by decide +kernel
theorem dX6_isKeptWord_14 : decode cX6_isKeptWord 14 = .ok (.ldc 97, 2) := by decide +kernel
theorem dX6_isKeptWord_16 : decode cX6_isKeptWord 16 = .ok (.invokevirtual 99, 3) := by decide +kernel
theorem dX6_isKeptWord_19 : decode cX6_isKeptWord 19 = .ok (.if_icmp .ge 49, 3) := by decide +kernel
theorem dX6_isKeptWord_22 : decode cX6_isKeptWord 22 = .ok (.iload_n 2, 1) := by decide +kernel
theorem dX6_isKeptWord_23 : decode cX6_isKeptWord 23 = .ok (.iload 4, 2) := by decide +kernel
theorem dX6_isKeptWord_25 : decode cX6_isKeptWord 25 = .ok (.iadd, 1) := by decide +kernel
theorem dX6_isKeptWord_26 : decode cX6_isKeptWord 26 = .ok (.iload_n 3, 1) := by decide +kernel
theorem dX6_isKeptWord_27 : decode cX6_isKeptWord 27 = .ok (.if_icmp .ge 15, 3) := by decide +kernel
theorem dX6_isKeptWord_30 : decode cX6_isKeptWord 30 = .ok (.aload_n 0, 1) := by decide +kernel
theorem dX6_isKeptWord_31 : decode cX6_isKeptWord 31 = .ok (.getfield 9, 3) := by decide +kernel
theorem dX6_isKeptWord_34 : decode cX6_isKeptWord 34 = .ok (.iload_n 2, 1) := by decide +kernel
theorem dX6_isKeptWord_35 : decode cX6_isKeptWord 35 = .ok (.iload 4, 2) := by decide +kernel
theorem dX6_isKeptWord_37 : decode cX6_isKeptWord 37 = .ok (.iadd, 1) := by decide +kernel
theorem dX6_isKeptWord_38 : decode cX6_isKeptWord 38 = .ok (.baload, 1) := by decide +kernel
theorem dX6_isKeptWord_39 : decode cX6_isKeptWord 39 = .ok (.goto 5, 3) := by decide +kernel
theorem dX6_isKeptWord_42 : decode cX6_isKeptWord 42 = .ok (.bipush 32, 2) := by decide +kernel
theorem dX6_isKeptWord_44 : decode cX6_isKeptWord 44 = .ok (.istore 5, 2) := by decide +kernel
theorem dX6_isKeptWord_46 : decode cX6_isKeptWord 46 = .ok (.ldc 97, 2) := by decide +kernel
theorem dX6_isKeptWord_48 : decode cX6_isKeptWord 48 = .ok (.iload_n 1, 1) := by decide +kernel
theorem dX6_isKeptWord_49 : decode cX6_isKeptWord 49 = .ok (.iload 4, 2) := by decide +kernel
theorem dX6_isKeptWord_51 : decode cX6_isKeptWord 51 = .ok (.iadd, 1) := by decide +kernel
theorem dX6_isKeptWord_52 : decode cX6_isKeptWord 52 = .ok (.invokevirtual 108, 3) := by decide +kernel
theorem dX6_isKeptWord_55 : decode cX6_isKeptWord 55 = .ok (.iload 5, 2) := by decide +kernel
theorem dX6_isKeptWord_57 : decode cX6_isKeptWord 57 = .ok (.if_icmp .eq 5, 3) := by decide +kernel
theorem dX6_isKeptWord_60 : decode cX6_isKeptWord 60 = .ok (.iconst 0, 1) := by decide +kernel
theorem dX6_isKeptWord_61 : decode cX6_isKeptWord 61 = .ok (.ireturn, 1) := by decide +kernel
theorem dX6_isKeptWord_62 : decode cX6_isKeptWord 62 = .ok (.iinc 4 1, 3) := by decide +kernel
theorem dX6_isKeptWord_65 : decode cX6_isKeptWord 65 = .ok (.goto (-62), 3) := by decide +kernel
theorem dX6_isKeptWord_68 : decode cX6_isKeptWord 68 = .ok (.iconst 1, 1) := by decide +kernel
theorem dX6_isKeptWord_69 : decode cX6_isKeptWord 69 = .ok (.ireturn, 1) := by decide +kernel
noncomputable def Re_isKeptWord_J44_3 (σ : St) (l1 : Int32) (l2 : Int32) (l3 : Int32) (l4 : Int32) (s0 : Int32) : Option ((Int32 ⊕ Int32)) :=
  chk (ix (l1 + l4) (txn 0)) (if (txC 0 (tn (l1 + l4))) = s0 then (bnd (l4 + 1) (fun v2 => some (.inl v2))) else (some (.inr 0)))
set_option maxRecDepth 100000 in
set_option maxHeartbeats 4000000 in
theorem tj_Re_isKeptWord_J44_3 {V : Ev} {Γ : Cn} {fin : Option Value × St} {σ : St} {l1 : Int32} {l2 : Int32} {l3 : Int32} {l4 : Int32} {s0 : Int32} {o : (Int32 ⊕ Int32)} (X : Cx V Γ M_X6_isKeptWord) {A : (Int32 ⊕ Int32) → Prop}  (hr : ∀ (r : Int32), A (.inr r) → (some (.int r), σ) = fin) (hb3 : ∀ (x4 : Int32), A (.inl x4) → Go V Γ M_X6_isKeptWord (Zm V Γ 5 fin) 3 [(0, .ref (V.2.2.1 + 2)), (1, .int l1), (2, .int l2), (3, .int l3), (4, .int x4)] [] σ) (h : Re_isKeptWord_J44_3 σ l1 l2 l3 l4 s0 = some o) (hA : A o) : Go V Γ M_X6_isKeptWord (Zm V Γ 5 fin) 44 [(0, .ref (V.2.2.1 + 2)), (1, .int l1), (2, .int l2), (3, .int l3), (4, .int l4)] [.int s0] σ := by
  unfold Re_isKeptWord_J44_3 at h
  refine g_istore (pc := 44) X [(5, .int s0), (0, .ref (V.2.2.1 + 2)), (1, .int l1), (2, .int l2), (3, .int l3), (4, .int l4)] (Nat.le_of_ble_eq_true rfl) rfl dX6_isKeptWord_44 ?_
  refine g_ldcS0 (pc := 46) X rfl dX6_isKeptWord_46 ?_
  refine g_iload_n (pc := 48) X 2 rfl dX6_isKeptWord_48 ?_
  refine g_iload (pc := 49) X 5 rfl dX6_isKeptWord_49 ?_
  refine g_iadd (pc := 51) X dX6_isKeptWord_51 ?_
  obtain ⟨c1, h⟩ := chk_e h
  refine g_sch (pc := 52) X (i := 0) (Nat.le_of_ble_eq_true rfl) k_ml_X6_108 c1 ⟨Nat.le_of_ble_eq_true rfl, Nat.le_of_ble_eq_true rfl⟩ ⟨Nat.le_refl _, Nat.le_refl _⟩ (Nat.le_of_ble_eq_true rfl) dX6_isKeptWord_52 ?_
  refine g_iload (pc := 55) X 0 rfl dX6_isKeptWord_55 ?_
  refine g_icmp_eq (pc := 57) (tgt := 62) X dX6_isKeptWord_57 rfl (fun c3 => ?_) (fun c3 => ?_)
  · replace h := if_t c3 h
    obtain ⟨v2, e_v2, h⟩ := bnd_e h
    refine g_iinc (pc := 62) (v := v2) X [(4, .int v2), (5, .int s0), (0, .ref (V.2.2.1 + 2)), (1, .int l1), (2, .int l2), (3, .int l3)] 5 rfl (by rw [e_v2]; rfl) (Nat.le_of_ble_eq_true rfl) rfl dX6_isKeptWord_62 ?_
    refine g_goto (pc := 65) (tgt := 3) X dX6_isKeptWord_65 rfl ?_
    refine g_sub [2, 3, 4, 5, 0] rfl ?_
    cases h
    exact hb3 _ hA
  · replace h := if_f c3 h
    refine g_iconst (v := 0) (pc := 60) X rfl dX6_isKeptWord_60 ?_
    cases h
    exact g_iret (pc := 61) X rfl nz0.1 (hr _ hA) dX6_isKeptWord_61
noncomputable def Re_isKeptWord_L3 (l1 : Int32) (l2 : Int32) (l3 : Int32) (σ : St) (x4 : Int32) : Option (Int32 ⊕ Int32) :=
  if 8 ≤ x4 then (some (.inr 1)) else (if (Int32.ofNat (txn 0)) ≤ (l1 + x4) then (some (.inr 1)) else (if l3 ≤ (l2 + x4) then (Re_isKeptWord_J44_3 σ l1 l2 l3 x4 32) else (chk (ix (l2 + x4) 900) (Re_isKeptWord_J44_3 σ l1 l2 l3 x4 (σ.1 3 (tn (l2 + x4)))))))
set_option maxRecDepth 100000 in
set_option maxHeartbeats 4000000 in
theorem tb_Re_isKeptWord_L3 {V : Ev} {Γ : Cn} {fin : Option Value × St} {l1 : Int32} {l2 : Int32} {l3 : Int32} {σ : St} {x4 : Int32} {o : (Int32 ⊕ Int32)} (X : Cx V Γ M_X6_isKeptWord) {A : (Int32 ⊕ Int32) → Prop}  (hr : ∀ (r : Int32), A (.inr r) → (some (.int r), σ) = fin) (hb3 : ∀ (x4 : Int32), A (.inl x4) → Go V Γ M_X6_isKeptWord (Zm V Γ 5 fin) 3 [(0, .ref (V.2.2.1 + 2)), (1, .int l1), (2, .int l2), (3, .int l3), (4, .int x4)] [] σ) (h : Re_isKeptWord_L3 l1 l2 l3 σ x4 = some o) (hA : A o) : Go V Γ M_X6_isKeptWord (Zm V Γ 5 fin) 3 [(0, .ref (V.2.2.1 + 2)), (1, .int l1), (2, .int l2), (3, .int l3), (4, .int x4)] [] σ := by
  unfold Re_isKeptWord_L3 at h
  refine g_iload (pc := 3) X 4 rfl dX6_isKeptWord_3 ?_
  refine g_bipush (v := 8) (pc := 5) X (by decide) dX6_isKeptWord_5 ?_
  refine g_icmp_ge (pc := 7) (tgt := 68) X dX6_isKeptWord_7 rfl (fun c7 => ?_) (fun c7 => ?_)
  · replace h := if_t c7 h
    refine g_iconst (v := 1) (pc := 68) X rfl dX6_isKeptWord_68 ?_
    cases h
    exact g_iret (pc := 69) X rfl nz1.1 (hr _ hA) dX6_isKeptWord_69
  · replace h := if_f c7 h
    refine g_iload_n (pc := 10) X 1 rfl dX6_isKeptWord_10 ?_
    refine g_iload (pc := 11) X 4 rfl dX6_isKeptWord_11 ?_
    refine g_iadd (pc := 13) X dX6_isKeptWord_13 ?_
    refine g_ldcS0 (pc := 14) X rfl dX6_isKeptWord_14 ?_
    refine g_slen (pc := 16) X (i := 0) (Nat.le_of_ble_eq_true rfl) k_ml_X6_99 ⟨Nat.le_of_ble_eq_true rfl, Nat.le_of_ble_eq_true rfl⟩ ⟨Nat.le_refl _, Nat.le_refl _⟩ (Nat.le_of_ble_eq_true rfl) dX6_isKeptWord_16 ?_
    refine g_icmp_ge (pc := 19) (tgt := 68) X dX6_isKeptWord_19 rfl (fun c6 => ?_) (fun c6 => ?_)
    · replace h := if_t c6 h
      refine g_iconst (v := 1) (pc := 68) X rfl dX6_isKeptWord_68 ?_
      cases h
      exact g_iret (pc := 69) X rfl nz1.1 (hr _ hA) dX6_isKeptWord_69
    · replace h := if_f c6 h
      refine g_iload_n (pc := 22) X 2 rfl dX6_isKeptWord_22 ?_
      refine g_iload (pc := 23) X 4 rfl dX6_isKeptWord_23 ?_
      refine g_iadd (pc := 25) X dX6_isKeptWord_25 ?_
      refine g_iload_n (pc := 26) X 3 rfl dX6_isKeptWord_26 ?_
      refine g_icmp_ge (pc := 27) (tgt := 42) X dX6_isKeptWord_27 rfl (fun c5 => ?_) (fun c5 => ?_)
      · replace h := if_t c5 h
        refine g_bipush (v := 32) (pc := 42) X (by decide) dX6_isKeptWord_42 ?_
        refine g_sub [0, 1, 2, 3, 4] rfl ?_
        exact tj_Re_isKeptWord_J44_3 X  hr hb3 h hA
      · replace h := if_f c5 h
        refine g_aload_n (pc := 30) X 0 rfl dX6_isKeptWord_30 ?_
        refine g_getR (r := 3) (pc := 31) X k_fl_X6_9 s_2 rfl dX6_isKeptWord_31 ?_
        refine g_iload_n (pc := 34) X 2 rfl dX6_isKeptWord_34 ?_
        refine g_iload (pc := 35) X 4 rfl dX6_isKeptWord_35 ?_
        refine g_iadd (pc := 37) X dX6_isKeptWord_37 ?_
        obtain ⟨c4, h⟩ := chk_e h
        refine g_bald (pc := 38) X s_3 c4 dX6_isKeptWord_38 ?_
        refine g_goto (pc := 39) (tgt := 44) X dX6_isKeptWord_39 rfl ?_
        refine g_sub [0, 1, 2, 3, 4] rfl ?_
        exact tj_Re_isKeptWord_J44_3 X  hr hb3 h hA
set_option maxRecDepth 100000 in
theorem tl_Re_isKeptWord_L3 {V : Ev} {Γ : Cn} {fin : Option Value × St} {l1 : Int32} {l2 : Int32} {l3 : Int32} {σ : St} {x4 : Int32} (X : Cx V Γ M_X6_isKeptWord)  {e : Int32} {A : Int32 → Prop} (hr : ∀ (r : Int32), A r → (some (.int r), σ) = fin) {n : Nat} (h : iter (fun s : Int32 => Re_isKeptWord_L3 l1 l2 l3 σ s) n x4 = some e) (hA : A e) : Go V Γ M_X6_isKeptWord (Zm V Γ 5 fin) 3 [(0, .ref (V.2.2.1 + 2)), (1, .int l1), (2, .int l2), (3, .int l3), (4, .int x4)] [] σ := by
  refine iter_go (G := (fun s : Int32 => Go V Γ M_X6_isKeptWord (Zm V Γ 5 fin) 3 [(0, .ref (V.2.2.1 + 2)), (1, .int l1), (2, .int l2), (3, .int l3), (4, .int s)] [] σ)) (fun s o ho hS => ?_) n x4 h
  exact tb_Re_isKeptWord_L3 X  (fun z0 he => hr z0 (by rw [he]; exact hA)) (fun _ h9 => h9) ho hS
noncomputable def Re_isKeptWord (σ : St) (p1 : Int32) (p2 : Int32) (p3 : Int32) : Option Int32 :=
  iter (fun s : Int32 => Re_isKeptWord_L3 p1 p2 p3 σ s) FUEL 0
set_option maxRecDepth 100000 in
set_option maxHeartbeats 4000000 in
theorem tm_Re_isKeptWord {V : Ev} {Γ : Cn} {fin : Option Value × St} {σ : St} {p1 : Int32} {p2 : Int32} {p3 : Int32} {o : Int32} (X : Cx V Γ M_X6_isKeptWord) {A : Int32 → Prop}  (hr : ∀ (r : Int32), A r → (some (.int r), σ) = fin) (h : Re_isKeptWord σ p1 p2 p3 = some o) (hA : A o) : Go V Γ M_X6_isKeptWord (Zm V Γ 5 fin) 0 [(0, .ref (V.2.2.1 + 2)), (1, .int p1), (2, .int p2), (3, .int p3)] [] σ := by
  unfold Re_isKeptWord at h
  refine g_iconst (v := 0) (pc := 0) X rfl dX6_isKeptWord_0 ?_
  refine g_istore (pc := 1) X [(4, .int 0), (0, .ref (V.2.2.1 + 2)), (1, .int p1), (2, .int p2), (3, .int p3)] (Nat.le_of_ble_eq_true rfl) rfl dX6_isKeptWord_1 ?_
  refine g_sub [1, 2, 3, 4, 0] rfl ?_
  exact tl_Re_isKeptWord_L3 X  hr h hA
set_option maxRecDepth 100000 in
theorem run_Re_isKeptWord {V : Ev} {σ : St} {p1 : Int32} {p2 : Int32} {p3 : Int32} {o : Int32}   (h : Re_isKeptWord σ p1 p2 p3 = some o) : Rs V 5 M_X6_isKeptWord [.ref (V.2.2.1 + 2), .int p1, .int p2, .int p3] σ (some (.int o), σ) := by
  refine Rs.of (by decide +kernel) (Nat.le_of_ble_eq_true rfl) (fun Γ X => ?_)
  exact tm_Re_isKeptWord X (A := fun o1 => o1 = o)  (fun _ e => by rw [e]) h rfl
theorem dX6_wordSort_0 : decode cX6_wordSort 0 = .ok (.ldc 97, 2) := by decide +kernel
theorem dX6_wordSort_2 : decode cX6_wordSort 2 = .ok (.invokevirtual 99, 3) := by decide +kernel
theorem dX6_wordSort_5 : decode cX6_wordSort 5 = .ok (.bipush 8, 2) := by decide +kernel
theorem dX6_wordSort_7 : decode cX6_wordSort 7 = .ok (.idiv, 1) := by decide +kernel
theorem dX6_wordSort_8 : decode cX6_wordSort 8 = .ok (.istore_n 3, 1) := by decide +kernel
theorem dX6_wordSort_9 : decode cX6_wordSort 9 = .ok (.iconst 0, 1) := by decide +kernel
theorem dX6_wordSort_10 : decode cX6_wordSort 10 = .ok (.istore 4, 2) := by decide +kernel
theorem dX6_wordSort_12 : decode cX6_wordSort 12 = .ok (.iload 4, 2) := by decide +kernel
theorem dX6_wordSort_14 : decode cX6_wordSort 14 = .ok (.iload_n 3, 1) := by decide +kernel
theorem dX6_wordSort_15 : decode cX6_wordSort 15 = .ok (.if_icmp .ge 29, 3) := by decide +kernel
theorem dX6_wordSort_18 : decode cX6_wordSort 18 = .ok (.aload_n 0, 1) := by decide +kernel
theorem dX6_wordSort_19 : decode cX6_wordSort 19 = .ok (.iload 4, 2) := by decide +kernel
theorem dX6_wordSort_21 : decode cX6_wordSort 21 = .ok (.bipush 8, 2) := by decide +kernel
theorem dX6_wordSort_23 : decode cX6_wordSort 23 = .ok (.imul, 1) := by decide +kernel
theorem dX6_wordSort_24 : decode cX6_wordSort 24 = .ok (.iload_n 1, 1) := by decide +kernel
theorem dX6_wordSort_25 : decode cX6_wordSort 25 = .ok (.iload_n 2, 1) := by decide +kernel
theorem dX6_wordSort_26 : decode cX6_wordSort 26 = .ok (.invokevirtual 104, 3) := by decide +kernel
theorem dX6_wordSort_29 : decode cX6_wordSort 29 = .ok (.ifCond .eq 9, 3) := by decide +kernel
theorem dX6_wordSort_32 : decode cX6_wordSort 32 = .ok (.bipush 10, 2) := by decide +kernel
theorem dX6_wordSort_34 : decode cX6_wordSort 34 = .ok (.iload 4, 2) := by decide +kernel
theorem dX6_wordSort_36 : decode cX6_wordSort 36 = .ok (.iadd, 1) := by decide +kernel
theorem dX6_wordSort_37 : decode cX6_wordSort 37 = .ok (.ireturn, 1) := by decide +kernel
theorem dX6_wordSort_38 : decode cX6_wordSort 38 = .ok (.iinc 4 1, 3) := by decide +kernel
theorem dX6_wordSort_41 : decode cX6_wordSort 41 = .ok (.goto (-29), 3) := by decide +kernel
theorem dX6_wordSort_44 : decode cX6_wordSort 44 = .ok (.iconst 3, 1) := by decide +kernel
theorem dX6_wordSort_45 : decode cX6_wordSort 45 = .ok (.ireturn, 1) := by decide +kernel
noncomputable def Re_wordSort_L12 (l1 : Int32) (l2 : Int32) (l3 : Int32) (σ : St) (x4 : Int32) : Option (Int32 ⊕ Int32) :=
  if l3 ≤ x4 then (some (.inr 3)) else (bd (Re_isKeptWord σ (x4 * 8) l1 l2) (fun r4 => if r4 = 0 then (bnd (x4 + 1) (fun v5 => some (.inl v5))) else (some (.inr (10 + x4)))))
set_option maxRecDepth 100000 in
set_option maxHeartbeats 4000000 in
theorem tb_Re_wordSort_L12 {V : Ev} {Γ : Cn} {fin : Option Value × St} {l1 : Int32} {l2 : Int32} {l3 : Int32} {σ : St} {x4 : Int32} {o : (Int32 ⊕ Int32)} (X : Cx V Γ M_X6_wordSort) {A : (Int32 ⊕ Int32) → Prop}  (hr : ∀ (r : Int32), A (.inr r) → (some (.int r), σ) = fin) (hb12 : ∀ (x4 : Int32), A (.inl x4) → Go V Γ M_X6_wordSort (Zm V Γ 6 fin) 12 [(0, .ref (V.2.2.1 + 2)), (1, .int l1), (2, .int l2), (3, .int l3), (4, .int x4)] [] σ) (h : Re_wordSort_L12 l1 l2 l3 σ x4 = some o) (hA : A o) : Go V Γ M_X6_wordSort (Zm V Γ 6 fin) 12 [(0, .ref (V.2.2.1 + 2)), (1, .int l1), (2, .int l2), (3, .int l3), (4, .int x4)] [] σ := by
  unfold Re_wordSort_L12 at h
  refine g_iload (pc := 12) X 4 rfl dX6_wordSort_12 ?_
  refine g_iload_n (pc := 14) X 3 rfl dX6_wordSort_14 ?_
  refine g_icmp_ge (pc := 15) (tgt := 44) X dX6_wordSort_15 rfl (fun c7 => ?_) (fun c7 => ?_)
  · replace h := if_t c7 h
    refine g_iconst (v := 3) (pc := 44) X rfl dX6_wordSort_44 ?_
    cases h
    exact g_iret (pc := 45) X rfl rfl (hr _ hA) dX6_wordSort_45
  · replace h := if_f c7 h
    refine g_aload_n (pc := 18) X 0 rfl dX6_wordSort_18 ?_
    refine g_iload (pc := 19) X 4 rfl dX6_wordSort_19 ?_
    refine g_bipush (v := 8) (pc := 21) X (by decide) dX6_wordSort_21 ?_
    refine g_imul (pc := 23) X dX6_wordSort_23 ?_
    refine g_iload_n (pc := 24) X 1 rfl dX6_wordSort_24 ?_
    refine g_iload_n (pc := 25) X 2 rfl dX6_wordSort_25 ?_
    obtain ⟨r4, hc3, h⟩ := bd_e h
    refine g_callV (pc := 26) X k_ml_X6_104 (run_Re_isKeptWord  hc3) s_2 rfl (room_ok (Nat.le_of_ble_eq_true rfl) (Nat.le_of_ble_eq_true rfl)) ⟨Nat.le_refl _, Nat.le_refl _⟩ _ rfl (Nat.le_of_ble_eq_true rfl) dX6_wordSort_26 ?_
    show Go V Γ M_X6_wordSort (Zm V Γ 6 fin) 29 [(0, .ref (V.2.2.1 + 2)), (1, .int l1), (2, .int l2), (3, .int l3), (4, .int x4)] [.int r4] σ
    refine g_if_eq (pc := 29) (tgt := 38) X dX6_wordSort_29 rfl (fun c6 => ?_) (fun c6 => ?_)
    · replace h := if_t c6 h
      obtain ⟨v5, e_v5, h⟩ := bnd_e h
      refine g_iinc (pc := 38) (v := v5) X [(4, .int v5), (0, .ref (V.2.2.1 + 2)), (1, .int l1), (2, .int l2), (3, .int l3)] 4 rfl (by rw [e_v5]; rfl) (Nat.le_of_ble_eq_true rfl) rfl dX6_wordSort_38 ?_
      refine g_goto (pc := 41) (tgt := 12) X dX6_wordSort_41 rfl ?_
      refine g_sub [1, 2, 3, 4, 0] rfl ?_
      cases h
      exact hb12 _ hA
    · replace h := if_f c6 h
      refine g_bipush (v := 10) (pc := 32) X (by decide) dX6_wordSort_32 ?_
      refine g_iload (pc := 34) X 4 rfl dX6_wordSort_34 ?_
      refine g_iadd (pc := 36) X dX6_wordSort_36 ?_
      cases h
      exact g_iret (pc := 37) X rfl rfl (hr _ hA) dX6_wordSort_37
set_option maxRecDepth 100000 in
theorem tl_Re_wordSort_L12 {V : Ev} {Γ : Cn} {fin : Option Value × St} {l1 : Int32} {l2 : Int32} {l3 : Int32} {σ : St} {x4 : Int32} (X : Cx V Γ M_X6_wordSort)  {e : Int32} {A : Int32 → Prop} (hr : ∀ (r : Int32), A r → (some (.int r), σ) = fin) {n : Nat} (h : iter (fun s : Int32 => Re_wordSort_L12 l1 l2 l3 σ s) n x4 = some e) (hA : A e) : Go V Γ M_X6_wordSort (Zm V Γ 6 fin) 12 [(0, .ref (V.2.2.1 + 2)), (1, .int l1), (2, .int l2), (3, .int l3), (4, .int x4)] [] σ := by
  refine iter_go (G := (fun s : Int32 => Go V Γ M_X6_wordSort (Zm V Γ 6 fin) 12 [(0, .ref (V.2.2.1 + 2)), (1, .int l1), (2, .int l2), (3, .int l3), (4, .int s)] [] σ)) (fun s o ho hS => ?_) n x4 h
  exact tb_Re_wordSort_L12 X  (fun z0 he => hr z0 (by rw [he]; exact hA)) (fun _ h9 => h9) ho hS
noncomputable def Re_wordSort (σ : St) (p1 : Int32) (p2 : Int32) : Option Int32 :=
  chk (nzI 8) (bnd (((Int32.ofNat (txn 0)) / 8)) (fun v2 => iter (fun s : Int32 => Re_wordSort_L12 p1 p2 v2 σ s) FUEL 0))
set_option maxRecDepth 100000 in
set_option maxHeartbeats 4000000 in
theorem tm_Re_wordSort {V : Ev} {Γ : Cn} {fin : Option Value × St} {σ : St} {p1 : Int32} {p2 : Int32} {o : Int32} (X : Cx V Γ M_X6_wordSort) {A : Int32 → Prop}  (hr : ∀ (r : Int32), A r → (some (.int r), σ) = fin) (h : Re_wordSort σ p1 p2 = some o) (hA : A o) : Go V Γ M_X6_wordSort (Zm V Γ 6 fin) 0 [(0, .ref (V.2.2.1 + 2)), (1, .int p1), (2, .int p2)] [] σ := by
  unfold Re_wordSort at h
  refine g_ldcS0 (pc := 0) X rfl dX6_wordSort_0 ?_
  refine g_slen (pc := 2) X (i := 0) (Nat.le_of_ble_eq_true rfl) k_ml_X6_99 ⟨Nat.le_of_ble_eq_true rfl, Nat.le_of_ble_eq_true rfl⟩ ⟨Nat.le_refl _, Nat.le_refl _⟩ (Nat.le_of_ble_eq_true rfl) dX6_wordSort_2 ?_
  refine g_bipush (v := 8) (pc := 5) X (by decide) dX6_wordSort_5 ?_
  obtain ⟨c1, h⟩ := chk_e h
  refine g_idiv (pc := 7) X (nzI_e c1) dX6_wordSort_7 ?_
  obtain ⟨v2, e_v2, h⟩ := bnd_e h
  refine g_nmI e_v2 ?_
  refine g_istore_n (pc := 8) X [(3, .int v2), (0, .ref (V.2.2.1 + 2)), (1, .int p1), (2, .int p2)] rfl (Nat.le_of_ble_eq_true rfl) rfl dX6_wordSort_8 ?_
  refine g_iconst (v := 0) (pc := 9) X rfl dX6_wordSort_9 ?_
  refine g_istore (pc := 10) X [(4, .int 0), (3, .int v2), (0, .ref (V.2.2.1 + 2)), (1, .int p1), (2, .int p2)] (Nat.le_of_ble_eq_true rfl) rfl dX6_wordSort_10 ?_
  refine g_sub [2, 3, 4, 1, 0] rfl ?_
  exact tl_Re_wordSort_L12 X  hr h hA
set_option maxRecDepth 100000 in
theorem run_Re_wordSort {V : Ev} {σ : St} {p1 : Int32} {p2 : Int32} {o : Int32}   (h : Re_wordSort σ p1 p2 = some o) : Rs V 6 M_X6_wordSort [.ref (V.2.2.1 + 2), .int p1, .int p2] σ (some (.int o), σ) := by
  refine Rs.of (by decide +kernel) (Nat.le_of_ble_eq_true rfl) (fun Γ X => ?_)
  exact tm_Re_wordSort X (A := fun o1 => o1 = o)  (fun _ e => by rw [e]) h rfl
theorem dX6_keep_0 : decode cX6_keep 0 = .ok (.aload_n 0, 1) := by decide +kernel
theorem dX6_keep_1 : decode cX6_keep 1 = .ok (.getfield 33, 3) := by decide +kernel
theorem dX6_keep_4 : decode cX6_keep 4 = .ok (.sipush 900, 3) := by decide +kernel
theorem dX6_keep_7 : decode cX6_keep 7 = .ok (.if_icmp .gt 43, 3) := by decide +kernel
theorem dX6_keep_10 : decode cX6_keep 10 = .ok (.aload_n 0, 1) := by decide +kernel
theorem dX6_keep_11 : decode cX6_keep 11 = .ok (.getfield 22, 3) := by decide +kernel
theorem dX6_keep_14 : decode cX6_keep 14 = .ok (.aload_n 0, 1) := by decide +kernel
theorem dX6_keep_15 : decode cX6_keep 15 = .ok (.getfield 33, 3) := by decide +kernel
theorem dX6_keep_18 : decode cX6_keep 18 = .ok (.iload_n 1, 1) := by decide +kernel
theorem dX6_keep_19 : decode cX6_keep 19 = .ok (.iastore, 1) := by decide +kernel
theorem dX6_keep_20 : decode cX6_keep 20 = .ok (.aload_n 0, 1) := by decide +kernel
theorem dX6_keep_21 : decode cX6_keep 21 = .ok (.getfield 26, 3) := by decide +kernel
theorem dX6_keep_24 : decode cX6_keep 24 = .ok (.aload_n 0, 1) := by decide +kernel
theorem dX6_keep_25 : decode cX6_keep 25 = .ok (.getfield 33, 3) := by decide +kernel
theorem dX6_keep_28 : decode cX6_keep 28 = .ok (.iload_n 2, 1) := by decide +kernel
theorem dX6_keep_29 : decode cX6_keep 29 = .ok (.iastore, 1) := by decide +kernel
theorem dX6_keep_30 : decode cX6_keep 30 = .ok (.aload_n 0, 1) := by decide +kernel
theorem dX6_keep_31 : decode cX6_keep 31 = .ok (.getfield 29, 3) := by decide +kernel
theorem dX6_keep_34 : decode cX6_keep 34 = .ok (.aload_n 0, 1) := by decide +kernel
theorem dX6_keep_35 : decode cX6_keep 35 = .ok (.getfield 33, 3) := by decide +kernel
theorem dX6_keep_38 : decode cX6_keep 38 = .ok (.lload_n 3, 1) := by decide +kernel
theorem dX6_keep_39 : decode cX6_keep 39 = .ok (.lastore, 1) := by decide +kernel
theorem dX6_keep_40 : decode cX6_keep 40 = .ok (.aload_n 0, 1) := by decide +kernel
theorem dX6_keep_41 : decode cX6_keep 41 = .ok (.dup, 1) := by decide +kernel
theorem dX6_keep_42 : decode cX6_keep 42 = .ok (.getfield 33, 3) := by decide +kernel
theorem dX6_keep_45 : decode cX6_keep 45 = .ok (.iconst 1, 1) := by decide +kernel
theorem dX6_keep_46 : decode cX6_keep 46 = .ok (.iadd, 1) := by decide +kernel
theorem dX6_keep_47 : decode cX6_keep 47 = .ok (.putfield 33, 3) := by decide +kernel
theorem dX6_keep_50 : decode cX6_keep 50 = .ok (.return_, 1) := by decide +kernel
noncomputable def Re_keep (σ : St) (p1 : Int32) (p2 : Int32) (p3 : Int64) : Option St :=
  if 900 < (σ.1 2 6) then (some σ) else (chk (ix (σ.1 2 6) 901) (bnd (wI σ 4 (tn (σ.1 2 6)) p1) (fun σ2 => chk (ix (σ2.1 2 6) 901) (bnd (wI σ2 5 (tn (σ2.1 2 6)) p2) (fun σ4 => chk (ix (σ4.1 2 6) 901) (bnd (wL σ4 6 (tn (σ4.1 2 6)) p3) (fun σ6 => bnd (wI σ6 2 6 ((σ6.1 2 6) + 1)) (fun σ7 => some σ7))))))))
set_option maxRecDepth 100000 in
set_option maxHeartbeats 4000000 in
theorem tm_Re_keep {V : Ev} {Γ : Cn} {fin : Option Value × St} {σ : St} {p1 : Int32} {p2 : Int32} {p3 : Int64} {o : St} (X : Cx V Γ M_X6_keep) {A : St → Prop}  (hr : ∀ (σ9 : St), A σ9 → (none, σ9) = fin) (h : Re_keep σ p1 p2 p3 = some o) (hA : A o) : Go V Γ M_X6_keep (Zm V Γ 0 fin) 0 [(0, .ref (V.2.2.1 + 2)), (1, .int p1), (2, .int p2), (3, .long p3)] [] σ := by
  unfold Re_keep at h
  refine g_aload_n (pc := 0) X 0 rfl dX6_keep_0 ?_
  refine g_getI (pc := 1) X k_fl_X6_33 s_2 rfl dX6_keep_1 ?_
  refine g_sipush (v := 900) (pc := 4) X (by decide) dX6_keep_4 ?_
  refine g_icmp_gt (pc := 7) (tgt := 50) X dX6_keep_7 rfl (fun c8 => ?_) (fun c8 => ?_)
  · replace h := if_t c8 h
    cases h
    exact g_vret (pc := 50) X rfl (hr _ hA) dX6_keep_50
  · replace h := if_f c8 h
    refine g_aload_n (pc := 10) X 0 rfl dX6_keep_10 ?_
    refine g_getR (r := 4) (pc := 11) X k_fl_X6_22 s_2 rfl dX6_keep_11 ?_
    refine g_aload_n (pc := 14) X 0 rfl dX6_keep_14 ?_
    refine g_getI (pc := 15) X k_fl_X6_33 s_2 rfl dX6_keep_15 ?_
    refine g_iload_n (pc := 18) X 1 rfl dX6_keep_18 ?_
    obtain ⟨c1, h⟩ := chk_e h
    refine g_iast (pc := 19) X s_4 c1 dX6_keep_19 ?_
    obtain ⟨σ2, e_σ2, h⟩ := bnd_e h
    refine g_nmS e_σ2 ?_
    refine g_aload_n (pc := 20) X 0 rfl dX6_keep_20 ?_
    refine g_getR (r := 5) (pc := 21) X k_fl_X6_26 s_2 rfl dX6_keep_21 ?_
    refine g_aload_n (pc := 24) X 0 rfl dX6_keep_24 ?_
    refine g_getI (pc := 25) X k_fl_X6_33 s_2 rfl dX6_keep_25 ?_
    refine g_iload_n (pc := 28) X 2 rfl dX6_keep_28 ?_
    obtain ⟨c3, h⟩ := chk_e h
    refine g_iast (pc := 29) X s_5 c3 dX6_keep_29 ?_
    obtain ⟨σ4, e_σ4, h⟩ := bnd_e h
    refine g_nmS e_σ4 ?_
    refine g_aload_n (pc := 30) X 0 rfl dX6_keep_30 ?_
    refine g_getR (r := 6) (pc := 31) X k_fl_X6_29 s_2 rfl dX6_keep_31 ?_
    refine g_aload_n (pc := 34) X 0 rfl dX6_keep_34 ?_
    refine g_getI (pc := 35) X k_fl_X6_33 s_2 rfl dX6_keep_35 ?_
    refine g_lload_n (pc := 38) X 3 rfl dX6_keep_38 ?_
    obtain ⟨c5, h⟩ := chk_e h
    refine g_last (pc := 39) X s_6 c5 dX6_keep_39 ?_
    obtain ⟨σ6, e_σ6, h⟩ := bnd_e h
    refine g_nmS e_σ6 ?_
    refine g_aload_n (pc := 40) X 0 rfl dX6_keep_40 ?_
    refine g_dup (pc := 41) X rfl dX6_keep_41 ?_
    refine g_getI (pc := 42) X k_fl_X6_33 s_2 rfl dX6_keep_42 ?_
    refine g_iconst (v := 1) (pc := 45) X rfl dX6_keep_45 ?_
    refine g_iadd (pc := 46) X dX6_keep_46 ?_
    refine g_putI (pc := 47) X k_fl_X6_33 s_2 rfl rfl rfl dX6_keep_47 ?_
    obtain ⟨σ7, e_σ7, h⟩ := bnd_e h
    refine g_nmS e_σ7 ?_
    cases h
    exact g_vret (pc := 50) X rfl (hr _ hA) dX6_keep_50
set_option maxRecDepth 100000 in
theorem run_Re_keep {V : Ev} {σ : St} {p1 : Int32} {p2 : Int32} {p3 : Int64} {o : St}   (h : Re_keep σ p1 p2 p3 = some o) : Rs V 0 M_X6_keep [.ref (V.2.2.1 + 2), .int p1, .int p2, .long p3] σ (none, o) := by
  refine Rs.of (by decide +kernel) (Nat.le_of_ble_eq_true rfl) (fun Γ X => ?_)
  exact tm_Re_keep X (A := fun o1 => o1 = o)  (fun _ e => by rw [e]) h rfl
theorem dX6_findWord_0 : decode cX6_findWord 0 = .ok (.iload_n 1, 1) := by decide +kernel
theorem dX6_findWord_1 : decode cX6_findWord 1 = .ok (.istore_n 2, 1) := by decide +kernel
theorem dX6_findWord_2 : decode cX6_findWord 2 = .ok (.lconst 0, 1) := by decide +kernel
theorem dX6_findWord_3 : decode cX6_findWord 3 = .ok (.lstore_n 3, 1) := by decide +kernel
theorem dX6_findWord_4 : decode cX6_findWord 4 = .ok (.iload_n 2, 1) := by decide +kernel
theorem dX6_findWord_5 : decode cX6_findWord 5 = .ok (.aload_n 0, 1) := by decide +kernel
theorem dX6_findWord_6 : decode cX6_findWord 6 = .ok (.getfield 19, 3) := by decide +kernel
theorem dX6_findWord_9 : decode cX6_findWord 9 = .ok (.if_icmp .ge 41, 3) := by decide +kernel
theorem dX6_findWord_12 : decode cX6_findWord 12 = .ok (.aload_n 0, 1) := by decide +kernel
theorem dX6_findWord_13 : decode cX6_findWord 13 = .ok (.getfield 9, 3) := by decide +kernel
theorem dX6_findWord_16 : decode cX6_findWord 16 = .ok (.iload_n 2, 1) := by decide +kernel
theorem dX6_findWord_17 : decode cX6_findWord 17 = .ok (.baload, 1) := by decide +kernel
theorem dX6_findWord_18 : decode cX6_findWord 18 = .ok (.invokestatic 69, 3) := by decide +kernel
theorem dX6_findWord_21 : decode cX6_findWord 21 = .ok (.ifCond .eq 29, 3) := by decide +kernel
theorem dX6_findWord_24 : decode cX6_findWord 24 = .ok (.lload_n 3, 1) := by decide +kernel
theorem dX6_findWord_25 : decode cX6_findWord 25 = .ok (.ldc2_w 86, 3) := by decide +kernel
theorem dX6_findWord_28 : decode cX6_findWord 28 = .ok (.lmul, 1) := by decide +kernel
theorem dX6_findWord_29 : decode cX6_findWord 29 = .ok (.aload_n 0, 1) := by decide +kernel
theorem dX6_findWord_30 : decode cX6_findWord 30 = .ok (.getfield 9, 3) := by decide +kernel
theorem dX6_findWord_33 : decode cX6_findWord 33 = .ok (.iload_n 2, 1) := by decide +kernel
theorem dX6_findWord_34 : decode cX6_findWord 34 = .ok (.baload, 1) := by decide +kernel
theorem dX6_findWord_35 : decode cX6_findWord 35 = .ok (.i2l, 1) := by decide +kernel
theorem dX6_findWord_36 : decode cX6_findWord 36 = .ok (.ladd, 1) := by decide +kernel
theorem dX6_findWord_37 : decode cX6_findWord 37 = .ok (.ldc2_w 88, 3) := by decide +kernel
theorem dX6_findWord_40 : decode cX6_findWord 40 = .ok (.lsub, 1) := by decide +kernel
theorem dX6_findWord_41 : decode cX6_findWord 41 = .ok (.lconst 1, 1) := by decide +kernel
theorem dX6_findWord_42 : decode cX6_findWord 42 = .ok (.ladd, 1) := by decide +kernel
theorem dX6_findWord_43 : decode cX6_findWord 43 = .ok (.lstore_n 3, 1) := by decide +kernel
theorem dX6_findWord_44 : decode cX6_findWord 44 = .ok (.iinc 2 1, 3) := by decide +kernel
theorem dX6_findWord_47 : decode cX6_findWord 47 = .ok (.goto (-43), 3) := by decide +kernel
theorem dX6_findWord_50 : decode cX6_findWord 50 = .ok (.aload_n 0, 1) := by decide +kernel
theorem dX6_findWord_51 : decode cX6_findWord 51 = .ok (.iload_n 2, 1) := by decide +kernel
theorem dX6_findWord_52 : decode cX6_findWord 52 = .ok (.iload_n 1, 1) := by decide +kernel
theorem dX6_findWord_53 : decode cX6_findWord 53 = .ok (.isub, 1) := by decide +kernel
theorem dX6_findWord_54 : decode cX6_findWord 54 = .ok (.bipush 8, 2) := by decide +kernel
theorem dX6_findWord_56 : decode cX6_findWord 56 = .ok (.if_icmp .le 7, 3) := by decide +kernel
theorem dX6_findWord_59 : decode cX6_findWord 59 = .ok (.iconst 4, 1) := by decide +kernel
theorem dX6_findWord_60 : decode cX6_findWord 60 = .ok (.goto 9, 3) := by decide +kernel
theorem dX6_findWord_63 : decode cX6_findWord 63 = .ok (.aload_n 0, 1) := by decide +kernel
theorem dX6_findWord_64 : decode cX6_findWord 64 = .ok (.iload_n 1, 1) := by decide +kernel
theorem dX6_findWord_65 : decode cX6_findWord 65 = .ok (.iload_n 2, 1) := by decide +kernel
theorem dX6_findWord_66 : decode cX6_findWord 66 = .ok (.invokevirtual 90, 3) := by decide +kernel
theorem dX6_findWord_69 : decode cX6_findWord 69 = .ok (.iload_n 1, 1) := by decide +kernel
theorem dX6_findWord_70 : decode cX6_findWord 70 = .ok (.lload_n 3, 1) := by decide +kernel
theorem dX6_findWord_71 : decode cX6_findWord 71 = .ok (.invokevirtual 65, 3) := by decide +kernel
theorem dX6_findWord_74 : decode cX6_findWord 74 = .ok (.iload_n 2, 1) := by decide +kernel
theorem dX6_findWord_75 : decode cX6_findWord 75 = .ok (.ireturn, 1) := by decide +kernel
noncomputable def Re_findWord_L4 (l1 : Int32) (σ : St) (x2 : Int32) (x3 : Int64) : Option ((Int32 × Int64) ⊕ (Int32 × Int64)) :=
  if (σ.1 2 2) ≤ x2 then (some (.inr (x2, x3))) else (chk (ix x2 900) (bd (Re_isLetter (σ.1 3 (tn x2))) (fun r3 => if r3 = 0 then (some (.inr (x2, x3))) else (chk (ix x2 900) (bnd (((((x3 * 32) + ((σ.1 3 (tn x2)).toInt64)) - 97) + 1)) (fun v5 => bnd (x2 + 1) (fun v6 => some (.inl (v6, v5)))))))))
set_option maxRecDepth 100000 in
set_option maxHeartbeats 4000000 in
theorem tb_Re_findWord_L4 {V : Ev} {Γ : Cn} {fin : Option Value × St} {l1 : Int32} {σ : St} {x2 : Int32} {x3 : Int64} {o : ((Int32 × Int64) ⊕ (Int32 × Int64))} (X : Cx V Γ M_X6_findWord) {A : ((Int32 × Int64) ⊕ (Int32 × Int64)) → Prop}  (hb4 : ∀ (x2 : Int32) (x3 : Int64), A (.inl (x2, x3)) → Go V Γ M_X6_findWord (Zm V Γ 7 fin) 4 [(0, .ref (V.2.2.1 + 2)), (1, .int l1), (2, .int x2), (3, .long x3)] [] σ) (hx4 : ∀ (x2 : Int32) (x3 : Int64), A (.inr (x2, x3)) → Go V Γ M_X6_findWord (Zm V Γ 7 fin) 50 [(0, .ref (V.2.2.1 + 2)), (1, .int l1), (2, .int x2), (3, .long x3)] [] σ) (h : Re_findWord_L4 l1 σ x2 x3 = some o) (hA : A o) : Go V Γ M_X6_findWord (Zm V Γ 7 fin) 4 [(0, .ref (V.2.2.1 + 2)), (1, .int l1), (2, .int x2), (3, .long x3)] [] σ := by
  unfold Re_findWord_L4 at h
  refine g_iload_n (pc := 4) X 2 rfl dX6_findWord_4 ?_
  refine g_aload_n (pc := 5) X 0 rfl dX6_findWord_5 ?_
  refine g_getI (pc := 6) X k_fl_X6_19 s_2 rfl dX6_findWord_6 ?_
  refine g_icmp_ge (pc := 9) (tgt := 50) X dX6_findWord_9 rfl (fun c8 => ?_) (fun c8 => ?_)
  · replace h := if_t c8 h
    refine g_sub [0, 1, 2, 3] rfl ?_
    cases h
    exact hx4 _ _ hA
  · replace h := if_f c8 h
    refine g_aload_n (pc := 12) X 0 rfl dX6_findWord_12 ?_
    refine g_getR (r := 3) (pc := 13) X k_fl_X6_9 s_2 rfl dX6_findWord_13 ?_
    refine g_iload_n (pc := 16) X 2 rfl dX6_findWord_16 ?_
    obtain ⟨c1, h⟩ := chk_e h
    refine g_bald (pc := 17) X s_3 c1 dX6_findWord_17 ?_
    obtain ⟨r3, hc2, h⟩ := bd_e h
    refine g_callS (pc := 18) X k_ml_X6_69 (run_Re_isLetter  hc2) rfl (room_ok (Nat.le_of_ble_eq_true rfl) (Nat.le_of_ble_eq_true rfl)) ⟨Nat.le_refl _, Nat.le_refl _⟩ _ rfl (Nat.le_of_ble_eq_true rfl) dX6_findWord_18 ?_
    show Go V Γ M_X6_findWord (Zm V Γ 7 fin) 21 [(0, .ref (V.2.2.1 + 2)), (1, .int l1), (2, .int x2), (3, .long x3)] [.int r3] σ
    refine g_if_eq (pc := 21) (tgt := 50) X dX6_findWord_21 rfl (fun c7 => ?_) (fun c7 => ?_)
    · replace h := if_t c7 h
      refine g_sub [0, 1, 2, 3] rfl ?_
      cases h
      exact hx4 _ _ hA
    · replace h := if_f c7 h
      refine g_lload_n (pc := 24) X 3 rfl dX6_findWord_24 ?_
      refine g_ldc2 (v := 32) (pc := 25) X k_constl_X6_86 dX6_findWord_25 ?_
      refine g_lmul (pc := 28) X dX6_findWord_28 ?_
      refine g_aload_n (pc := 29) X 0 rfl dX6_findWord_29 ?_
      refine g_getR (r := 3) (pc := 30) X k_fl_X6_9 s_2 rfl dX6_findWord_30 ?_
      refine g_iload_n (pc := 33) X 2 rfl dX6_findWord_33 ?_
      obtain ⟨c4, h⟩ := chk_e h
      refine g_bald (pc := 34) X s_3 c4 dX6_findWord_34 ?_
      refine g_i2l (pc := 35) X dX6_findWord_35 ?_
      refine g_ladd (pc := 36) X dX6_findWord_36 ?_
      refine g_ldc2 (v := 97) (pc := 37) X k_constl_X6_88 dX6_findWord_37 ?_
      refine g_lsub (pc := 40) X dX6_findWord_40 ?_
      refine g_lconst (v := 1) (pc := 41) X rfl dX6_findWord_41 ?_
      refine g_ladd (pc := 42) X dX6_findWord_42 ?_
      obtain ⟨v5, e_v5, h⟩ := bnd_e h
      refine g_nmL e_v5 ?_
      refine g_lstore_n (pc := 43) X [(3, .long v5), (0, .ref (V.2.2.1 + 2)), (1, .int l1), (2, .int x2)] rfl (Nat.le_of_ble_eq_true rfl) rfl dX6_findWord_43 ?_
      obtain ⟨v6, e_v6, h⟩ := bnd_e h
      refine g_iinc (pc := 44) (v := v6) X [(2, .int v6), (3, .long v5), (0, .ref (V.2.2.1 + 2)), (1, .int l1)] 3 rfl (by rw [e_v6]; rfl) (Nat.le_of_ble_eq_true rfl) rfl dX6_findWord_44 ?_
      refine g_goto (pc := 47) (tgt := 4) X dX6_findWord_47 rfl ?_
      refine g_sub [2, 3, 0, 1] rfl ?_
      cases h
      exact hb4 _ _ hA
set_option maxRecDepth 100000 in
theorem tl_Re_findWord_L4 {V : Ev} {Γ : Cn} {fin : Option Value × St} {l1 : Int32} {σ : St} {x2 : Int32} {x3 : Int64} (X : Cx V Γ M_X6_findWord)  {y2 : Int32} {y3 : Int64} {n : Nat} (h : iter (fun s : (Int32 × Int64) => Re_findWord_L4 l1 σ s.1 s.2) n (x2, x3) = some (y2, y3)) (hK : Go V Γ M_X6_findWord (Zm V Γ 7 fin) 50 [(0, .ref (V.2.2.1 + 2)), (1, .int l1), (2, .int y2), (3, .long y3)] [] σ) : Go V Γ M_X6_findWord (Zm V Γ 7 fin) 4 [(0, .ref (V.2.2.1 + 2)), (1, .int l1), (2, .int x2), (3, .long x3)] [] σ := by
  refine iter_go (G := (fun s : (Int32 × Int64) => Go V Γ M_X6_findWord (Zm V Γ 7 fin) 4 [(0, .ref (V.2.2.1 + 2)), (1, .int l1), (2, .int s.1), (3, .long s.2)] [] σ)) (fun s o ho hS => ?_) n (x2, x3) h
  exact tb_Re_findWord_L4 X  (fun _ _ h9 => h9) (fun _ _ he => by cases he; exact hK) ho hS
noncomputable def Re_findWord_J50 (σ : St) (l1 : Int32) (l2 : Int32) (l3 : Int64) : Option ((Int32 × St)) :=
  if (l2 - l1) ≤ 8 then (bd (Re_wordSort σ l1 l2) (fun r13 => bd (Re_keep σ r13 l1 l3) (fun σ15 => some (l2, σ15)))) else (bd (Re_keep σ 4 l1 l3) (fun σ17 => some (l2, σ17)))
set_option maxRecDepth 100000 in
set_option maxHeartbeats 4000000 in
theorem tj_Re_findWord_J50 {V : Ev} {Γ : Cn} {fin : Option Value × St} {σ : St} {l1 : Int32} {l2 : Int32} {l3 : Int64} {o : (Int32 × St)} (X : Cx V Γ M_X6_findWord) {A : (Int32 × St) → Prop}  (hr : ∀ (r : Int32) (σ9 : St), A (r, σ9) → (some (.int r), σ9) = fin) (h : Re_findWord_J50 σ l1 l2 l3 = some o) (hA : A o) : Go V Γ M_X6_findWord (Zm V Γ 7 fin) 50 [(0, .ref (V.2.2.1 + 2)), (1, .int l1), (2, .int l2), (3, .long l3)] [] σ := by
  unfold Re_findWord_J50 at h
  refine g_aload_n (pc := 50) X 0 rfl dX6_findWord_50 ?_
  refine g_iload_n (pc := 51) X 2 rfl dX6_findWord_51 ?_
  refine g_iload_n (pc := 52) X 1 rfl dX6_findWord_52 ?_
  refine g_isub (pc := 53) X dX6_findWord_53 ?_
  refine g_bipush (v := 8) (pc := 54) X (by decide) dX6_findWord_54 ?_
  refine g_icmp_le (pc := 56) (tgt := 63) X dX6_findWord_56 rfl (fun c18 => ?_) (fun c18 => ?_)
  · replace h := if_t c18 h
    refine g_aload_n (pc := 63) X 0 rfl dX6_findWord_63 ?_
    refine g_iload_n (pc := 64) X 1 rfl dX6_findWord_64 ?_
    refine g_iload_n (pc := 65) X 2 rfl dX6_findWord_65 ?_
    obtain ⟨r13, hc12, h⟩ := bd_e h
    refine g_callV (pc := 66) X k_ml_X6_90 (run_Re_wordSort  hc12) s_2 rfl (room_ok (Nat.le_of_ble_eq_true rfl) (Nat.le_of_ble_eq_true rfl)) ⟨Nat.le_refl _, Nat.le_refl _⟩ _ rfl (Nat.le_of_ble_eq_true rfl) dX6_findWord_66 ?_
    show Go V Γ M_X6_findWord (Zm V Γ 7 fin) 69 [(0, .ref (V.2.2.1 + 2)), (1, .int l1), (2, .int l2), (3, .long l3)] [.int r13, .ref (V.2.2.1 + 2)] σ
    refine g_iload_n (pc := 69) X 1 rfl dX6_findWord_69 ?_
    refine g_lload_n (pc := 70) X 3 rfl dX6_findWord_70 ?_
    obtain ⟨σ15, hc14, h⟩ := bd_e h
    refine g_callV (pc := 71) X k_ml_X6_65 (run_Re_keep  hc14) s_2 rfl (room_ok (Nat.le_of_ble_eq_true rfl) (Nat.le_of_ble_eq_true rfl)) ⟨Nat.le_refl _, Nat.le_refl _⟩ _ rfl (Nat.le_of_ble_eq_true rfl) dX6_findWord_71 ?_
    show Go V Γ M_X6_findWord (Zm V Γ 7 fin) 74 [(0, .ref (V.2.2.1 + 2)), (1, .int l1), (2, .int l2), (3, .long l3)] [] σ15
    refine g_iload_n (pc := 74) X 2 rfl dX6_findWord_74 ?_
    cases h
    exact g_iret (pc := 75) X rfl rfl (hr _ _ hA) dX6_findWord_75
  · replace h := if_f c18 h
    refine g_iconst (v := 4) (pc := 59) X rfl dX6_findWord_59 ?_
    refine g_goto (pc := 60) (tgt := 69) X dX6_findWord_60 rfl ?_
    refine g_iload_n (pc := 69) X 1 rfl dX6_findWord_69 ?_
    refine g_lload_n (pc := 70) X 3 rfl dX6_findWord_70 ?_
    obtain ⟨σ17, hc16, h⟩ := bd_e h
    refine g_callV (pc := 71) X k_ml_X6_65 (run_Re_keep  hc16) s_2 rfl (room_ok (Nat.le_of_ble_eq_true rfl) (Nat.le_of_ble_eq_true rfl)) ⟨Nat.le_refl _, Nat.le_refl _⟩ _ rfl (Nat.le_of_ble_eq_true rfl) dX6_findWord_71 ?_
    show Go V Γ M_X6_findWord (Zm V Γ 7 fin) 74 [(0, .ref (V.2.2.1 + 2)), (1, .int l1), (2, .int l2), (3, .long l3)] [] σ17
    refine g_iload_n (pc := 74) X 2 rfl dX6_findWord_74 ?_
    cases h
    exact g_iret (pc := 75) X rfl rfl (hr _ _ hA) dX6_findWord_75
noncomputable def Re_findWord (σ : St) (p1 : Int32) : Option (Int32 × St) :=
  bd2 (iter (fun s : (Int32 × Int64) => Re_findWord_L4 p1 σ s.1 s.2) FUEL (p1, 0)) (fun v9 v10 => Re_findWord_J50 σ p1 v9 v10)
set_option maxRecDepth 100000 in
set_option maxHeartbeats 4000000 in
theorem tm_Re_findWord {V : Ev} {Γ : Cn} {fin : Option Value × St} {σ : St} {p1 : Int32} {o : (Int32 × St)} (X : Cx V Γ M_X6_findWord) {A : (Int32 × St) → Prop}  (hr : ∀ (r : Int32) (σ9 : St), A (r, σ9) → (some (.int r), σ9) = fin) (h : Re_findWord σ p1 = some o) (hA : A o) : Go V Γ M_X6_findWord (Zm V Γ 7 fin) 0 [(0, .ref (V.2.2.1 + 2)), (1, .int p1)] [] σ := by
  unfold Re_findWord at h
  refine g_iload_n (pc := 0) X 1 rfl dX6_findWord_0 ?_
  refine g_istore_n (pc := 1) X [(2, .int p1), (0, .ref (V.2.2.1 + 2)), (1, .int p1)] rfl (Nat.le_of_ble_eq_true rfl) rfl dX6_findWord_1 ?_
  refine g_lconst (v := 0) (pc := 2) X rfl dX6_findWord_2 ?_
  refine g_lstore_n (pc := 3) X [(3, .long 0), (2, .int p1), (0, .ref (V.2.2.1 + 2)), (1, .int p1)] rfl (Nat.le_of_ble_eq_true rfl) rfl dX6_findWord_3 ?_
  refine g_sub [2, 3, 1, 0] rfl ?_
  obtain ⟨v9, v10, hi11, h⟩ := bd2_e h
  refine tl_Re_findWord_L4 X  hi11 ?_
  refine g_sub [0, 1, 2, 3] rfl ?_
  exact tj_Re_findWord_J50 X  hr h hA
set_option maxRecDepth 100000 in
theorem run_Re_findWord {V : Ev} {σ : St} {p1 : Int32} {o : (Int32 × St)}   (h : Re_findWord σ p1 = some o) : Rs V 7 M_X6_findWord [.ref (V.2.2.1 + 2), .int p1] σ (some (.int o.1), o.2) := by
  refine Rs.of (by decide +kernel) (Nat.le_of_ble_eq_true rfl) (fun Γ X => ?_)
  exact tm_Re_findWord X (A := fun o1 => o1 = o)  (fun _ _ e => by rw [← e]) h rfl
theorem dX6_isDigit_0 : decode cX6_isDigit 0 = .ok (.iload_n 0, 1) := by decide +kernel
theorem dX6_isDigit_1 : decode cX6_isDigit 1 = .ok (.bipush 48, 2) := by decide +kernel
theorem dX6_isDigit_3 : decode cX6_isDigit 3 = .ok (.if_icmp .lt 13, 3) := by decide +kernel
theorem dX6_isDigit_6 : decode cX6_isDigit 6 = .ok (.iload_n 0, 1) := by decide +kernel
theorem dX6_isDigit_7 : decode cX6_isDigit 7 = .ok (.bipush 57, 2) := by decide +kernel
theorem dX6_isDigit_9 : decode cX6_isDigit 9 = .ok (.if_icmp .gt 7, 3) := by decide +kernel
theorem dX6_isDigit_12 : decode cX6_isDigit 12 = .ok (.iconst 1, 1) := by decide +kernel
theorem dX6_isDigit_13 : decode cX6_isDigit 13 = .ok (.goto 4, 3) := by decide +kernel
theorem dX6_isDigit_16 : decode cX6_isDigit 16 = .ok (.iconst 0, 1) := by decide +kernel
theorem dX6_isDigit_17 : decode cX6_isDigit 17 = .ok (.ireturn, 1) := by decide +kernel
noncomputable def Re_isDigit (p0 : Int32) : Option Int32 :=
  if p0 < 48 then (some 0) else (if 57 < p0 then (some 0) else (some 1))
set_option maxRecDepth 100000 in
set_option maxHeartbeats 4000000 in
theorem tm_Re_isDigit {V : Ev} {Γ : Cn} {fin : Option Value × St} {σ : St} {p0 : Int32} {o : Int32} (X : Cx V Γ M_X6_isDigit) {A : Int32 → Prop}  (hr : ∀ (r : Int32), A r → (some (.int r), σ) = fin) (h : Re_isDigit p0 = some o) (hA : A o) : Go V Γ M_X6_isDigit (Zm V Γ 0 fin) 0 [(0, .int p0)] [] σ := by
  unfold Re_isDigit at h
  refine g_iload_n (pc := 0) X 0 rfl dX6_isDigit_0 ?_
  refine g_bipush (v := 48) (pc := 1) X (by decide) dX6_isDigit_1 ?_
  refine g_icmp_lt (pc := 3) (tgt := 16) X dX6_isDigit_3 rfl (fun c2 => ?_) (fun c2 => ?_)
  · replace h := if_t c2 h
    refine g_iconst (v := 0) (pc := 16) X rfl dX6_isDigit_16 ?_
    cases h
    exact g_iret (pc := 17) X rfl nz0.1 (hr _ hA) dX6_isDigit_17
  · replace h := if_f c2 h
    refine g_iload_n (pc := 6) X 0 rfl dX6_isDigit_6 ?_
    refine g_bipush (v := 57) (pc := 7) X (by decide) dX6_isDigit_7 ?_
    refine g_icmp_gt (pc := 9) (tgt := 16) X dX6_isDigit_9 rfl (fun c1 => ?_) (fun c1 => ?_)
    · replace h := if_t c1 h
      refine g_iconst (v := 0) (pc := 16) X rfl dX6_isDigit_16 ?_
      cases h
      exact g_iret (pc := 17) X rfl nz0.1 (hr _ hA) dX6_isDigit_17
    · replace h := if_f c1 h
      refine g_iconst (v := 1) (pc := 12) X rfl dX6_isDigit_12 ?_
      refine g_goto (pc := 13) (tgt := 17) X dX6_isDigit_13 rfl ?_
      cases h
      exact g_iret (pc := 17) X rfl nz1.1 (hr _ hA) dX6_isDigit_17
set_option maxRecDepth 100000 in
theorem run_Re_isDigit {V : Ev} {σ : St} {p0 : Int32} {o : Int32}   (h : Re_isDigit p0 = some o) : Rs V 0 M_X6_isDigit [.int p0] σ (some (.int o), σ) := by
  refine Rs.of (by decide +kernel) (Nat.le_of_ble_eq_true rfl) (fun Γ X => ?_)
  exact tm_Re_isDigit X (A := fun o1 => o1 = o)  (fun _ e => by rw [e]) h rfl
theorem dX6_findNumber_0 : decode cX6_findNumber 0 = .ok (.iload_n 1, 1) := by decide +kernel
theorem dX6_findNumber_1 : decode cX6_findNumber 1 = .ok (.istore_n 2, 1) := by decide +kernel
theorem dX6_findNumber_2 : decode cX6_findNumber 2 = .ok (.lconst 0, 1) := by decide +kernel
theorem dX6_findNumber_3 : decode cX6_findNumber 3 = .ok (.lstore_n 3, 1) := by decide +kernel
theorem dX6_findNumber_4 : decode cX6_findNumber 4 = .ok (.iload_n 2, 1) := by decide +kernel
theorem dX6_findNumber_5 : decode cX6_findNumber 5 = .ok (.aload_n 0, 1) := by decide +kernel
theorem dX6_findNumber_6 : decode cX6_findNumber 6 = .ok (.getfield 19, 3) := by decide +kernel
theorem dX6_findNumber_9 : decode cX6_findNumber 9 = .ok (.if_icmp .ge 39, 3) := by decide +kernel
theorem dX6_findNumber_12 : decode cX6_findNumber 12 = .ok (.aload_n 0, 1) := by decide +kernel
theorem dX6_findNumber_13 : decode cX6_findNumber 13 = .ok (.getfield 9, 3) := by decide +kernel
theorem dX6_findNumber_16 : decode cX6_findNumber 16 = .ok (.iload_n 2, 1) := by decide +kernel
theorem dX6_findNumber_17 : decode cX6_findNumber 17 = .ok (.baload, 1) := by decide +kernel
theorem dX6_findNumber_18 : decode cX6_findNumber 18 = .ok (.invokestatic 76, 3) := by decide +kernel
theorem dX6_findNumber_21 : decode cX6_findNumber 21 = .ok (.ifCond .eq 27, 3) := by decide +kernel
theorem dX6_findNumber_24 : decode cX6_findNumber 24 = .ok (.lload_n 3, 1) := by decide +kernel
theorem dX6_findNumber_25 : decode cX6_findNumber 25 = .ok (.ldc2_w 93, 3) := by decide +kernel
theorem dX6_findNumber_28 : decode cX6_findNumber 28 = .ok (.lmul, 1) := by decide +kernel
theorem dX6_findNumber_29 : decode cX6_findNumber 29 = .ok (.aload_n 0, 1) := by decide +kernel
theorem dX6_findNumber_30 : decode cX6_findNumber 30 = .ok (.getfield 9, 3) := by decide +kernel
theorem dX6_findNumber_33 : decode cX6_findNumber 33 = .ok (.iload_n 2, 1) := by decide +kernel
theorem dX6_findNumber_34 : decode cX6_findNumber 34 = .ok (.baload, 1) := by decide +kernel
theorem dX6_findNumber_35 : decode cX6_findNumber 35 = .ok (.i2l, 1) := by decide +kernel
theorem dX6_findNumber_36 : decode cX6_findNumber 36 = .ok (.ladd, 1) := by decide +kernel
theorem dX6_findNumber_37 : decode cX6_findNumber 37 = .ok (.ldc2_w 95, 3) := by decide +kernel
theorem dX6_findNumber_40 : decode cX6_findNumber 40 = .ok (.lsub, 1) := by decide +kernel
theorem dX6_findNumber_41 : decode cX6_findNumber 41 = .ok (.lstore_n 3, 1) := by decide +kernel
theorem dX6_findNumber_42 : decode cX6_findNumber 42 = .ok (.iinc 2 1, 3) := by decide +kernel
theorem dX6_findNumber_45 : decode cX6_findNumber 45 = .ok (.goto (-41), 3) := by decide +kernel
theorem dX6_findNumber_48 : decode cX6_findNumber 48 = .ok (.aload_n 0, 1) := by decide +kernel
theorem dX6_findNumber_49 : decode cX6_findNumber 49 = .ok (.iload_n 2, 1) := by decide +kernel
theorem dX6_findNumber_50 : decode cX6_findNumber 50 = .ok (.iload_n 1, 1) := by decide +kernel
theorem dX6_findNumber_51 : decode cX6_findNumber 51 = .ok (.isub, 1) := by decide +kernel
theorem dX6_findNumber_52 : decode cX6_findNumber 52 = .ok (.iconst 4, 1) := by decide +kernel
theorem dX6_findNumber_53 : decode cX6_findNumber 53 = .ok (.if_icmp .le 7, 3) := by decide +kernel
theorem dX6_findNumber_56 : decode cX6_findNumber 56 = .ok (.iconst 1, 1) := by decide +kernel
theorem dX6_findNumber_57 : decode cX6_findNumber 57 = .ok (.goto 4, 3) := by decide +kernel
theorem dX6_findNumber_60 : decode cX6_findNumber 60 = .ok (.iconst 2, 1) := by decide +kernel
theorem dX6_findNumber_61 : decode cX6_findNumber 61 = .ok (.iload_n 1, 1) := by decide +kernel
theorem dX6_findNumber_62 : decode cX6_findNumber 62 = .ok (.lload_n 3, 1) := by decide +kernel
theorem dX6_findNumber_63 : decode cX6_findNumber 63 = .ok (.invokevirtual 65, 3) := by decide +kernel
theorem dX6_findNumber_66 : decode cX6_findNumber 66 = .ok (.iload_n 2, 1) := by decide +kernel
theorem dX6_findNumber_67 : decode cX6_findNumber 67 = .ok (.ireturn, 1) := by decide +kernel
noncomputable def Re_findNumber_L4 (l1 : Int32) (σ : St) (x2 : Int32) (x3 : Int64) : Option ((Int32 × Int64) ⊕ (Int32 × Int64)) :=
  if (σ.1 2 2) ≤ x2 then (some (.inr (x2, x3))) else (chk (ix x2 900) (bd (Re_isDigit (σ.1 3 (tn x2))) (fun r3 => if r3 = 0 then (some (.inr (x2, x3))) else (chk (ix x2 900) (bnd ((((x3 * 10) + ((σ.1 3 (tn x2)).toInt64)) - 48)) (fun v5 => bnd (x2 + 1) (fun v6 => some (.inl (v6, v5)))))))))
set_option maxRecDepth 100000 in
set_option maxHeartbeats 4000000 in
theorem tb_Re_findNumber_L4 {V : Ev} {Γ : Cn} {fin : Option Value × St} {l1 : Int32} {σ : St} {x2 : Int32} {x3 : Int64} {o : ((Int32 × Int64) ⊕ (Int32 × Int64))} (X : Cx V Γ M_X6_findNumber) {A : ((Int32 × Int64) ⊕ (Int32 × Int64)) → Prop}  (hb4 : ∀ (x2 : Int32) (x3 : Int64), A (.inl (x2, x3)) → Go V Γ M_X6_findNumber (Zm V Γ 1 fin) 4 [(0, .ref (V.2.2.1 + 2)), (1, .int l1), (2, .int x2), (3, .long x3)] [] σ) (hx4 : ∀ (x2 : Int32) (x3 : Int64), A (.inr (x2, x3)) → Go V Γ M_X6_findNumber (Zm V Γ 1 fin) 48 [(0, .ref (V.2.2.1 + 2)), (1, .int l1), (2, .int x2), (3, .long x3)] [] σ) (h : Re_findNumber_L4 l1 σ x2 x3 = some o) (hA : A o) : Go V Γ M_X6_findNumber (Zm V Γ 1 fin) 4 [(0, .ref (V.2.2.1 + 2)), (1, .int l1), (2, .int x2), (3, .long x3)] [] σ := by
  unfold Re_findNumber_L4 at h
  refine g_iload_n (pc := 4) X 2 rfl dX6_findNumber_4 ?_
  refine g_aload_n (pc := 5) X 0 rfl dX6_findNumber_5 ?_
  refine g_getI (pc := 6) X k_fl_X6_19 s_2 rfl dX6_findNumber_6 ?_
  refine g_icmp_ge (pc := 9) (tgt := 48) X dX6_findNumber_9 rfl (fun c8 => ?_) (fun c8 => ?_)
  · replace h := if_t c8 h
    refine g_sub [0, 1, 2, 3] rfl ?_
    cases h
    exact hx4 _ _ hA
  · replace h := if_f c8 h
    refine g_aload_n (pc := 12) X 0 rfl dX6_findNumber_12 ?_
    refine g_getR (r := 3) (pc := 13) X k_fl_X6_9 s_2 rfl dX6_findNumber_13 ?_
    refine g_iload_n (pc := 16) X 2 rfl dX6_findNumber_16 ?_
    obtain ⟨c1, h⟩ := chk_e h
    refine g_bald (pc := 17) X s_3 c1 dX6_findNumber_17 ?_
    obtain ⟨r3, hc2, h⟩ := bd_e h
    refine g_callS (pc := 18) X k_ml_X6_76 (run_Re_isDigit  hc2) rfl (room_ok (Nat.le_of_ble_eq_true rfl) (Nat.le_of_ble_eq_true rfl)) ⟨Nat.le_refl _, Nat.le_refl _⟩ _ rfl (Nat.le_of_ble_eq_true rfl) dX6_findNumber_18 ?_
    show Go V Γ M_X6_findNumber (Zm V Γ 1 fin) 21 [(0, .ref (V.2.2.1 + 2)), (1, .int l1), (2, .int x2), (3, .long x3)] [.int r3] σ
    refine g_if_eq (pc := 21) (tgt := 48) X dX6_findNumber_21 rfl (fun c7 => ?_) (fun c7 => ?_)
    · replace h := if_t c7 h
      refine g_sub [0, 1, 2, 3] rfl ?_
      cases h
      exact hx4 _ _ hA
    · replace h := if_f c7 h
      refine g_lload_n (pc := 24) X 3 rfl dX6_findNumber_24 ?_
      refine g_ldc2 (v := 10) (pc := 25) X k_constl_X6_93 dX6_findNumber_25 ?_
      refine g_lmul (pc := 28) X dX6_findNumber_28 ?_
      refine g_aload_n (pc := 29) X 0 rfl dX6_findNumber_29 ?_
      refine g_getR (r := 3) (pc := 30) X k_fl_X6_9 s_2 rfl dX6_findNumber_30 ?_
      refine g_iload_n (pc := 33) X 2 rfl dX6_findNumber_33 ?_
      obtain ⟨c4, h⟩ := chk_e h
      refine g_bald (pc := 34) X s_3 c4 dX6_findNumber_34 ?_
      refine g_i2l (pc := 35) X dX6_findNumber_35 ?_
      refine g_ladd (pc := 36) X dX6_findNumber_36 ?_
      refine g_ldc2 (v := 48) (pc := 37) X k_constl_X6_95 dX6_findNumber_37 ?_
      refine g_lsub (pc := 40) X dX6_findNumber_40 ?_
      obtain ⟨v5, e_v5, h⟩ := bnd_e h
      refine g_nmL e_v5 ?_
      refine g_lstore_n (pc := 41) X [(3, .long v5), (0, .ref (V.2.2.1 + 2)), (1, .int l1), (2, .int x2)] rfl (Nat.le_of_ble_eq_true rfl) rfl dX6_findNumber_41 ?_
      obtain ⟨v6, e_v6, h⟩ := bnd_e h
      refine g_iinc (pc := 42) (v := v6) X [(2, .int v6), (3, .long v5), (0, .ref (V.2.2.1 + 2)), (1, .int l1)] 3 rfl (by rw [e_v6]; rfl) (Nat.le_of_ble_eq_true rfl) rfl dX6_findNumber_42 ?_
      refine g_goto (pc := 45) (tgt := 4) X dX6_findNumber_45 rfl ?_
      refine g_sub [2, 3, 0, 1] rfl ?_
      cases h
      exact hb4 _ _ hA
set_option maxRecDepth 100000 in
theorem tl_Re_findNumber_L4 {V : Ev} {Γ : Cn} {fin : Option Value × St} {l1 : Int32} {σ : St} {x2 : Int32} {x3 : Int64} (X : Cx V Γ M_X6_findNumber)  {y2 : Int32} {y3 : Int64} {n : Nat} (h : iter (fun s : (Int32 × Int64) => Re_findNumber_L4 l1 σ s.1 s.2) n (x2, x3) = some (y2, y3)) (hK : Go V Γ M_X6_findNumber (Zm V Γ 1 fin) 48 [(0, .ref (V.2.2.1 + 2)), (1, .int l1), (2, .int y2), (3, .long y3)] [] σ) : Go V Γ M_X6_findNumber (Zm V Γ 1 fin) 4 [(0, .ref (V.2.2.1 + 2)), (1, .int l1), (2, .int x2), (3, .long x3)] [] σ := by
  refine iter_go (G := (fun s : (Int32 × Int64) => Go V Γ M_X6_findNumber (Zm V Γ 1 fin) 4 [(0, .ref (V.2.2.1 + 2)), (1, .int l1), (2, .int s.1), (3, .long s.2)] [] σ)) (fun s o ho hS => ?_) n (x2, x3) h
  exact tb_Re_findNumber_L4 X  (fun _ _ h9 => h9) (fun _ _ he => by cases he; exact hK) ho hS
noncomputable def Re_findNumber_J48 (σ : St) (l1 : Int32) (l2 : Int32) (l3 : Int64) : Option ((Int32 × St)) :=
  if (l2 - l1) ≤ 4 then (bd (Re_keep σ 2 l1 l3) (fun σ13 => some (l2, σ13))) else (bd (Re_keep σ 1 l1 l3) (fun σ15 => some (l2, σ15)))
set_option maxRecDepth 100000 in
set_option maxHeartbeats 4000000 in
theorem tj_Re_findNumber_J48 {V : Ev} {Γ : Cn} {fin : Option Value × St} {σ : St} {l1 : Int32} {l2 : Int32} {l3 : Int64} {o : (Int32 × St)} (X : Cx V Γ M_X6_findNumber) {A : (Int32 × St) → Prop}  (hr : ∀ (r : Int32) (σ9 : St), A (r, σ9) → (some (.int r), σ9) = fin) (h : Re_findNumber_J48 σ l1 l2 l3 = some o) (hA : A o) : Go V Γ M_X6_findNumber (Zm V Γ 1 fin) 48 [(0, .ref (V.2.2.1 + 2)), (1, .int l1), (2, .int l2), (3, .long l3)] [] σ := by
  unfold Re_findNumber_J48 at h
  refine g_aload_n (pc := 48) X 0 rfl dX6_findNumber_48 ?_
  refine g_iload_n (pc := 49) X 2 rfl dX6_findNumber_49 ?_
  refine g_iload_n (pc := 50) X 1 rfl dX6_findNumber_50 ?_
  refine g_isub (pc := 51) X dX6_findNumber_51 ?_
  refine g_iconst (v := 4) (pc := 52) X rfl dX6_findNumber_52 ?_
  refine g_icmp_le (pc := 53) (tgt := 60) X dX6_findNumber_53 rfl (fun c16 => ?_) (fun c16 => ?_)
  · replace h := if_t c16 h
    refine g_iconst (v := 2) (pc := 60) X rfl dX6_findNumber_60 ?_
    refine g_iload_n (pc := 61) X 1 rfl dX6_findNumber_61 ?_
    refine g_lload_n (pc := 62) X 3 rfl dX6_findNumber_62 ?_
    obtain ⟨σ13, hc12, h⟩ := bd_e h
    refine g_callV (pc := 63) X k_ml_X6_65 (run_Re_keep  hc12) s_2 rfl (room_ok (Nat.le_of_ble_eq_true rfl) (Nat.le_of_ble_eq_true rfl)) ⟨Nat.le_refl _, Nat.le_refl _⟩ _ rfl (Nat.le_of_ble_eq_true rfl) dX6_findNumber_63 ?_
    show Go V Γ M_X6_findNumber (Zm V Γ 1 fin) 66 [(0, .ref (V.2.2.1 + 2)), (1, .int l1), (2, .int l2), (3, .long l3)] [] σ13
    refine g_iload_n (pc := 66) X 2 rfl dX6_findNumber_66 ?_
    cases h
    exact g_iret (pc := 67) X rfl rfl (hr _ _ hA) dX6_findNumber_67
  · replace h := if_f c16 h
    refine g_iconst (v := 1) (pc := 56) X rfl dX6_findNumber_56 ?_
    refine g_goto (pc := 57) (tgt := 61) X dX6_findNumber_57 rfl ?_
    refine g_iload_n (pc := 61) X 1 rfl dX6_findNumber_61 ?_
    refine g_lload_n (pc := 62) X 3 rfl dX6_findNumber_62 ?_
    obtain ⟨σ15, hc14, h⟩ := bd_e h
    refine g_callV (pc := 63) X k_ml_X6_65 (run_Re_keep  hc14) s_2 rfl (room_ok (Nat.le_of_ble_eq_true rfl) (Nat.le_of_ble_eq_true rfl)) ⟨Nat.le_refl _, Nat.le_refl _⟩ _ rfl (Nat.le_of_ble_eq_true rfl) dX6_findNumber_63 ?_
    show Go V Γ M_X6_findNumber (Zm V Γ 1 fin) 66 [(0, .ref (V.2.2.1 + 2)), (1, .int l1), (2, .int l2), (3, .long l3)] [] σ15
    refine g_iload_n (pc := 66) X 2 rfl dX6_findNumber_66 ?_
    cases h
    exact g_iret (pc := 67) X rfl rfl (hr _ _ hA) dX6_findNumber_67
noncomputable def Re_findNumber (σ : St) (p1 : Int32) : Option (Int32 × St) :=
  bd2 (iter (fun s : (Int32 × Int64) => Re_findNumber_L4 p1 σ s.1 s.2) FUEL (p1, 0)) (fun v9 v10 => Re_findNumber_J48 σ p1 v9 v10)
set_option maxRecDepth 100000 in
set_option maxHeartbeats 4000000 in
theorem tm_Re_findNumber {V : Ev} {Γ : Cn} {fin : Option Value × St} {σ : St} {p1 : Int32} {o : (Int32 × St)} (X : Cx V Γ M_X6_findNumber) {A : (Int32 × St) → Prop}  (hr : ∀ (r : Int32) (σ9 : St), A (r, σ9) → (some (.int r), σ9) = fin) (h : Re_findNumber σ p1 = some o) (hA : A o) : Go V Γ M_X6_findNumber (Zm V Γ 1 fin) 0 [(0, .ref (V.2.2.1 + 2)), (1, .int p1)] [] σ := by
  unfold Re_findNumber at h
  refine g_iload_n (pc := 0) X 1 rfl dX6_findNumber_0 ?_
  refine g_istore_n (pc := 1) X [(2, .int p1), (0, .ref (V.2.2.1 + 2)), (1, .int p1)] rfl (Nat.le_of_ble_eq_true rfl) rfl dX6_findNumber_1 ?_
  refine g_lconst (v := 0) (pc := 2) X rfl dX6_findNumber_2 ?_
  refine g_lstore_n (pc := 3) X [(3, .long 0), (2, .int p1), (0, .ref (V.2.2.1 + 2)), (1, .int p1)] rfl (Nat.le_of_ble_eq_true rfl) rfl dX6_findNumber_3 ?_
  refine g_sub [2, 3, 1, 0] rfl ?_
  obtain ⟨v9, v10, hi11, h⟩ := bd2_e h
  refine tl_Re_findNumber_L4 X  hi11 ?_
  refine g_sub [0, 1, 2, 3] rfl ?_
  exact tj_Re_findNumber_J48 X  hr h hA
set_option maxRecDepth 100000 in
theorem run_Re_findNumber {V : Ev} {σ : St} {p1 : Int32} {o : (Int32 × St)}   (h : Re_findNumber σ p1 = some o) : Rs V 1 M_X6_findNumber [.ref (V.2.2.1 + 2), .int p1] σ (some (.int o.1), o.2) := by
  refine Rs.of (by decide +kernel) (Nat.le_of_ble_eq_true rfl) (fun Γ X => ?_)
  exact tm_Re_findNumber X (A := fun o1 => o1 = o)  (fun _ _ e => by rw [← e]) h rfl
theorem dX6_signOf_0 : decode cX6_signOf 0 = .ok (.iload_n 0, 1) := by decide +kernel
theorem dX6_signOf_1 : decode cX6_signOf 1 = .ok (.tableswitch 42 59 62 #[31, 33, 39, 36], 31) := by decide +kernel
theorem dX6_signOf_32 : decode cX6_signOf 32 = .ok (.iconst 5, 1) := by decide +kernel
theorem dX6_signOf_33 : decode cX6_signOf 33 = .ok (.ireturn, 1) := by decide +kernel
theorem dX6_signOf_34 : decode cX6_signOf 34 = .ok (.bipush 6, 2) := by decide +kernel
theorem dX6_signOf_36 : decode cX6_signOf 36 = .ok (.ireturn, 1) := by decide +kernel
theorem dX6_signOf_37 : decode cX6_signOf 37 = .ok (.bipush 7, 2) := by decide +kernel
theorem dX6_signOf_39 : decode cX6_signOf 39 = .ok (.ireturn, 1) := by decide +kernel
theorem dX6_signOf_40 : decode cX6_signOf 40 = .ok (.bipush 8, 2) := by decide +kernel
theorem dX6_signOf_42 : decode cX6_signOf 42 = .ok (.ireturn, 1) := by decide +kernel
theorem dX6_signOf_43 : decode cX6_signOf 43 = .ok (.iconst 1, 1) := by decide +kernel
theorem dX6_signOf_44 : decode cX6_signOf 44 = .ok (.ireturn, 1) := by decide +kernel
noncomputable def Re_signOf (p0 : Int32) : Option Int32 :=
  if p0 = 59 then (some 5) else if p0 = 60 then (some 6) else if p0 = 61 then (some 8) else if p0 = 62 then (some 7) else (some 1)
set_option maxRecDepth 100000 in
set_option maxHeartbeats 4000000 in
theorem tm_Re_signOf {V : Ev} {Γ : Cn} {fin : Option Value × St} {σ : St} {p0 : Int32} {o : Int32} (X : Cx V Γ M_X6_signOf) {A : Int32 → Prop}  (hr : ∀ (r : Int32), A r → (some (.int r), σ) = fin) (h : Re_signOf p0 = some o) (hA : A o) : Go V Γ M_X6_signOf (Zm V Γ 0 fin) 0 [(0, .int p0)] [] σ := by
  unfold Re_signOf at h
  refine g_iload_n (pc := 0) X 0 rfl dX6_signOf_0 ?_
  by_cases c1 : p0 = 59
  · replace h := if_t c1 h
    refine g_tabIn (pc := 1) (tgt := 32) X c1 dX6_signOf_1 (by decide) (by decide) rfl rfl ?_
    refine g_iconst (v := 5) (pc := 32) X rfl dX6_signOf_32 ?_
    cases h
    exact g_iret (pc := 33) X rfl rfl (hr _ hA) dX6_signOf_33
  replace h := if_f c1 h
  by_cases c2 : p0 = 60
  · replace h := if_t c2 h
    refine g_tabIn (pc := 1) (tgt := 34) X c2 dX6_signOf_1 (by decide) (by decide) rfl rfl ?_
    refine g_bipush (v := 6) (pc := 34) X (by decide) dX6_signOf_34 ?_
    cases h
    exact g_iret (pc := 36) X rfl rfl (hr _ hA) dX6_signOf_36
  replace h := if_f c2 h
  by_cases c3 : p0 = 61
  · replace h := if_t c3 h
    refine g_tabIn (pc := 1) (tgt := 40) X c3 dX6_signOf_1 (by decide) (by decide) rfl rfl ?_
    refine g_bipush (v := 8) (pc := 40) X (by decide) dX6_signOf_40 ?_
    cases h
    exact g_iret (pc := 42) X rfl rfl (hr _ hA) dX6_signOf_42
  replace h := if_f c3 h
  by_cases c4 : p0 = 62
  · replace h := if_t c4 h
    refine g_tabIn (pc := 1) (tgt := 37) X c4 dX6_signOf_1 (by decide) (by decide) rfl rfl ?_
    refine g_bipush (v := 7) (pc := 37) X (by decide) dX6_signOf_37 ?_
    cases h
    exact g_iret (pc := 39) X rfl rfl (hr _ hA) dX6_signOf_39
  replace h := if_f c4 h
  refine g_tabOut (pc := 1) (tgt := 43) X dX6_signOf_1 (by have qc1 := lv_neT (k := 59) (a := 59) c1 rfl; have qc2 := lv_neT (k := 60) (a := 60) c2 rfl; have qc3 := lv_neT (k := 61) (a := 61) c3 rfl; have qc4 := lv_neT (k := 62) (a := 62) c4 rfl; omega) rfl ?_
  refine g_iconst (v := 1) (pc := 43) X rfl dX6_signOf_43 ?_
  cases h
  exact g_iret (pc := 44) X rfl rfl (hr _ hA) dX6_signOf_44
set_option maxRecDepth 100000 in
theorem run_Re_signOf {V : Ev} {σ : St} {p0 : Int32} {o : Int32}   (h : Re_signOf p0 = some o) : Rs V 0 M_X6_signOf [.int p0] σ (some (.int o), σ) := by
  refine Rs.of (by decide +kernel) (Nat.le_of_ble_eq_true rfl) (fun Γ X => ?_)
  exact tm_Re_signOf X (A := fun o1 => o1 = o)  (fun _ e => by rw [e]) h rfl
theorem dX6_findToken_0 : decode cX6_findToken 0 = .ok (.aload_n 0, 1) := by decide +kernel
theorem dX6_findToken_1 : decode cX6_findToken 1 = .ok (.getfield 9, 3) := by decide +kernel
theorem dX6_findToken_4 : decode cX6_findToken 4 = .ok (.iload_n 1, 1) := by decide +kernel
theorem dX6_findToken_5 : decode cX6_findToken 5 = .ok (.baload, 1) := by decide +kernel
theorem dX6_findToken_6 : decode cX6_findToken 6 = .ok (.invokestatic 69, 3) := by decide +kernel
theorem dX6_findToken_9 : decode cX6_findToken 9 = .ok (.ifCond .eq 9, 3) := by decide +kernel
theorem dX6_findToken_12 : decode cX6_findToken 12 = .ok (.aload_n 0, 1) := by decide +kernel
theorem dX6_findToken_13 : decode cX6_findToken 13 = .ok (.iload_n 1, 1) := by decide +kernel
theorem dX6_findToken_14 : decode cX6_findToken 14 = .ok (.invokevirtual 73, 3) := by decide +kernel
theorem dX6_findToken_17 : decode cX6_findToken 17 = .ok (.ireturn, 1) := by decide +kernel
theorem dX6_findToken_18 : decode cX6_findToken 18 = .ok (.aload_n 0, 1) := by decide +kernel
theorem dX6_findToken_19 : decode cX6_findToken 19 = .ok (.getfield 9, 3) := by decide +kernel
theorem dX6_findToken_22 : decode cX6_findToken 22 = .ok (.iload_n 1, 1) := by decide +kernel
theorem dX6_findToken_23 : decode cX6_findToken 23 = .ok (.baload, 1) := by decide +kernel
theorem dX6_findToken_24 : decode cX6_findToken 24 = .ok (.invokestatic 76, 3) := by decide +kernel
theorem dX6_findToken_27 : decode cX6_findToken 27 = .ok (.ifCond .eq 9, 3) := by decide +kernel
theorem dX6_findToken_30 : decode cX6_findToken 30 = .ok (.aload_n 0, 1) := by decide +kernel
theorem dX6_findToken_31 : decode cX6_findToken 31 = .ok (.iload_n 1, 1) := by decide +kernel
theorem dX6_findToken_32 : decode cX6_findToken 32 = .ok (.invokevirtual 79, 3) := by decide +kernel
theorem dX6_findToken_35 : decode cX6_findToken 35 = .ok (.ireturn, 1) := by decide +kernel
theorem dX6_findToken_36 : decode cX6_findToken 36 = .ok (.aload_n 0, 1) := by decide +kernel
theorem dX6_findToken_37 : decode cX6_findToken 37 = .ok (.aload_n 0, 1) := by decide +kernel
theorem dX6_findToken_38 : decode cX6_findToken 38 = .ok (.getfield 9, 3) := by decide +kernel
theorem dX6_findToken_41 : decode cX6_findToken 41 = .ok (.iload_n 1, 1) := by decide +kernel
theorem dX6_findToken_42 : decode cX6_findToken 42 = .ok (.baload, 1) := by decide +kernel
theorem dX6_findToken_43 : decode cX6_findToken 43 = .ok (.invokestatic 82, 3) := by decide +kernel
theorem dX6_findToken_46 : decode cX6_findToken 46 = .ok (.iload_n 1, 1) := by decide +kernel
theorem dX6_findToken_47 : decode cX6_findToken 47 = .ok (.lconst 0, 1) := by decide +kernel
theorem dX6_findToken_48 : decode cX6_findToken 48 = .ok (.invokevirtual 65, 3) := by decide +kernel
theorem dX6_findToken_51 : decode cX6_findToken 51 = .ok (.iload_n 1, 1) := by decide +kernel
theorem dX6_findToken_52 : decode cX6_findToken 52 = .ok (.iconst 1, 1) := by decide +kernel
theorem dX6_findToken_53 : decode cX6_findToken 53 = .ok (.iadd, 1) := by decide +kernel
theorem dX6_findToken_54 : decode cX6_findToken 54 = .ok (.ireturn, 1) := by decide +kernel
noncomputable def Re_findToken (σ : St) (p1 : Int32) : Option (Int32 × St) :=
  chk (ix p1 900) (bd (Re_isLetter (σ.1 3 (tn p1))) (fun r3 => if r3 = 0 then (chk (ix p1 900) (bd (Re_isDigit (σ.1 3 (tn p1))) (fun r6 => if r6 = 0 then (chk (ix p1 900) (bd (Re_signOf (σ.1 3 (tn p1))) (fun r9 => bd (Re_keep σ r9 p1 0) (fun σ11 => some ((p1 + 1), σ11))))) else (bd2 (Re_findNumber σ p1) (fun r13 σ14 => some (r13, σ14)))))) else (bd2 (Re_findWord σ p1) (fun r17 σ18 => some (r17, σ18)))))
set_option maxRecDepth 100000 in
set_option maxHeartbeats 4000000 in
theorem tm_Re_findToken {V : Ev} {Γ : Cn} {fin : Option Value × St} {σ : St} {p1 : Int32} {o : (Int32 × St)} (X : Cx V Γ M_X6_findToken) {A : (Int32 × St) → Prop}  (hr : ∀ (r : Int32) (σ9 : St), A (r, σ9) → (some (.int r), σ9) = fin) (h : Re_findToken σ p1 = some o) (hA : A o) : Go V Γ M_X6_findToken (Zm V Γ 8 fin) 0 [(0, .ref (V.2.2.1 + 2)), (1, .int p1)] [] σ := by
  unfold Re_findToken at h
  refine g_aload_n (pc := 0) X 0 rfl dX6_findToken_0 ?_
  refine g_getR (r := 3) (pc := 1) X k_fl_X6_9 s_2 rfl dX6_findToken_1 ?_
  refine g_iload_n (pc := 4) X 1 rfl dX6_findToken_4 ?_
  obtain ⟨c1, h⟩ := chk_e h
  refine g_bald (pc := 5) X s_3 c1 dX6_findToken_5 ?_
  obtain ⟨r3, hc2, h⟩ := bd_e h
  refine g_callS (pc := 6) X k_ml_X6_69 (run_Re_isLetter  hc2) rfl (room_ok (Nat.le_of_ble_eq_true rfl) (Nat.le_of_ble_eq_true rfl)) ⟨Nat.le_refl _, Nat.le_refl _⟩ _ rfl (Nat.le_of_ble_eq_true rfl) dX6_findToken_6 ?_
  show Go V Γ M_X6_findToken (Zm V Γ 8 fin) 9 [(0, .ref (V.2.2.1 + 2)), (1, .int p1)] [.int r3] σ
  refine g_if_eq (pc := 9) (tgt := 18) X dX6_findToken_9 rfl (fun c19 => ?_) (fun c19 => ?_)
  · replace h := if_t c19 h
    refine g_aload_n (pc := 18) X 0 rfl dX6_findToken_18 ?_
    refine g_getR (r := 3) (pc := 19) X k_fl_X6_9 s_2 rfl dX6_findToken_19 ?_
    refine g_iload_n (pc := 22) X 1 rfl dX6_findToken_22 ?_
    obtain ⟨c4, h⟩ := chk_e h
    refine g_bald (pc := 23) X s_3 c4 dX6_findToken_23 ?_
    obtain ⟨r6, hc5, h⟩ := bd_e h
    refine g_callS (pc := 24) X k_ml_X6_76 (run_Re_isDigit  hc5) rfl (room_ok (Nat.le_of_ble_eq_true rfl) (Nat.le_of_ble_eq_true rfl)) ⟨Nat.le_refl _, Nat.le_refl _⟩ _ rfl (Nat.le_of_ble_eq_true rfl) dX6_findToken_24 ?_
    show Go V Γ M_X6_findToken (Zm V Γ 8 fin) 27 [(0, .ref (V.2.2.1 + 2)), (1, .int p1)] [.int r6] σ
    refine g_if_eq (pc := 27) (tgt := 36) X dX6_findToken_27 rfl (fun c15 => ?_) (fun c15 => ?_)
    · replace h := if_t c15 h
      refine g_aload_n (pc := 36) X 0 rfl dX6_findToken_36 ?_
      refine g_aload_n (pc := 37) X 0 rfl dX6_findToken_37 ?_
      refine g_getR (r := 3) (pc := 38) X k_fl_X6_9 s_2 rfl dX6_findToken_38 ?_
      refine g_iload_n (pc := 41) X 1 rfl dX6_findToken_41 ?_
      obtain ⟨c7, h⟩ := chk_e h
      refine g_bald (pc := 42) X s_3 c7 dX6_findToken_42 ?_
      obtain ⟨r9, hc8, h⟩ := bd_e h
      refine g_callS (pc := 43) X k_ml_X6_82 (run_Re_signOf  hc8) rfl (room_ok (Nat.le_of_ble_eq_true rfl) (Nat.le_of_ble_eq_true rfl)) ⟨Nat.le_refl _, Nat.le_refl _⟩ _ rfl (Nat.le_of_ble_eq_true rfl) dX6_findToken_43 ?_
      show Go V Γ M_X6_findToken (Zm V Γ 8 fin) 46 [(0, .ref (V.2.2.1 + 2)), (1, .int p1)] [.int r9, .ref (V.2.2.1 + 2)] σ
      refine g_iload_n (pc := 46) X 1 rfl dX6_findToken_46 ?_
      refine g_lconst (v := 0) (pc := 47) X rfl dX6_findToken_47 ?_
      obtain ⟨σ11, hc10, h⟩ := bd_e h
      refine g_callV (pc := 48) X k_ml_X6_65 (run_Re_keep  hc10) s_2 rfl (room_ok (Nat.le_of_ble_eq_true rfl) (Nat.le_of_ble_eq_true rfl)) ⟨Nat.le_refl _, Nat.le_refl _⟩ _ rfl (Nat.le_of_ble_eq_true rfl) dX6_findToken_48 ?_
      show Go V Γ M_X6_findToken (Zm V Γ 8 fin) 51 [(0, .ref (V.2.2.1 + 2)), (1, .int p1)] [] σ11
      refine g_iload_n (pc := 51) X 1 rfl dX6_findToken_51 ?_
      refine g_iconst (v := 1) (pc := 52) X rfl dX6_findToken_52 ?_
      refine g_iadd (pc := 53) X dX6_findToken_53 ?_
      cases h
      exact g_iret (pc := 54) X rfl rfl (hr _ _ hA) dX6_findToken_54
    · replace h := if_f c15 h
      refine g_aload_n (pc := 30) X 0 rfl dX6_findToken_30 ?_
      refine g_iload_n (pc := 31) X 1 rfl dX6_findToken_31 ?_
      obtain ⟨r13, σ14, hc12, h⟩ := bd2_e h
      refine g_callV (pc := 32) X k_ml_X6_79 (run_Re_findNumber  hc12) s_2 rfl (room_ok (Nat.le_of_ble_eq_true rfl) (Nat.le_of_ble_eq_true rfl)) ⟨Nat.le_refl _, Nat.le_refl _⟩ _ rfl (Nat.le_of_ble_eq_true rfl) dX6_findToken_32 ?_
      show Go V Γ M_X6_findToken (Zm V Γ 8 fin) 35 [(0, .ref (V.2.2.1 + 2)), (1, .int p1)] [.int r13] σ14
      cases h
      exact g_iret (pc := 35) X rfl rfl (hr _ _ hA) dX6_findToken_35
  · replace h := if_f c19 h
    refine g_aload_n (pc := 12) X 0 rfl dX6_findToken_12 ?_
    refine g_iload_n (pc := 13) X 1 rfl dX6_findToken_13 ?_
    obtain ⟨r17, σ18, hc16, h⟩ := bd2_e h
    refine g_callV (pc := 14) X k_ml_X6_73 (run_Re_findWord  hc16) s_2 rfl (room_ok (Nat.le_of_ble_eq_true rfl) (Nat.le_of_ble_eq_true rfl)) ⟨Nat.le_refl _, Nat.le_refl _⟩ _ rfl (Nat.le_of_ble_eq_true rfl) dX6_findToken_14 ?_
    show Go V Γ M_X6_findToken (Zm V Γ 8 fin) 17 [(0, .ref (V.2.2.1 + 2)), (1, .int p1)] [.int r17] σ18
    cases h
    exact g_iret (pc := 17) X rfl rfl (hr _ _ hA) dX6_findToken_17
set_option maxRecDepth 100000 in
theorem run_Re_findToken {V : Ev} {σ : St} {p1 : Int32} {o : (Int32 × St)}   (h : Re_findToken σ p1 = some o) : Rs V 8 M_X6_findToken [.ref (V.2.2.1 + 2), .int p1] σ (some (.int o.1), o.2) := by
  refine Rs.of (by decide +kernel) (Nat.le_of_ble_eq_true rfl) (fun Γ X => ?_)
  exact tm_Re_findToken X (A := fun o1 => o1 = o)  (fun _ _ e => by rw [← e]) h rfl
theorem dX6_begin_0 : decode cX6_begin 0 = .ok (.aload_n 0, 1) := by decide +kernel
theorem dX6_begin_1 : decode cX6_begin 1 = .ok (.iconst 0, 1) := by decide +kernel
theorem dX6_begin_2 : decode cX6_begin 2 = .ok (.iload_n 1, 1) := by decide +kernel
theorem dX6_begin_3 : decode cX6_begin 3 = .ok (.sipush 900, 3) := by decide +kernel
theorem dX6_begin_6 : decode cX6_begin 6 = .ok (.invokestatic 49, 3) := by decide +kernel
theorem dX6_begin_9 : decode cX6_begin 9 = .ok (.invokestatic 55, 3) := by decide +kernel
theorem dX6_begin_12 : decode cX6_begin 12 = .ok (.putfield 19, 3) := by decide +kernel
theorem dX6_begin_15 : decode cX6_begin 15 = .ok (.aload_n 0, 1) := by decide +kernel
theorem dX6_begin_16 : decode cX6_begin 16 = .ok (.iconst 0, 1) := by decide +kernel
theorem dX6_begin_17 : decode cX6_begin 17 = .ok (.putfield 15, 3) := by decide +kernel
theorem dX6_begin_20 : decode cX6_begin 20 = .ok (.aload_n 0, 1) := by decide +kernel
theorem dX6_begin_21 : decode cX6_begin 21 = .ok (.iconst 0, 1) := by decide +kernel
theorem dX6_begin_22 : decode cX6_begin 22 = .ok (.putfield 43, 3) := by decide +kernel
theorem dX6_begin_25 : decode cX6_begin 25 = .ok (.aload_n 0, 1) := by decide +kernel
theorem dX6_begin_26 : decode cX6_begin 26 = .ok (.iconst (-1), 1) := by decide +kernel
theorem dX6_begin_27 : decode cX6_begin 27 = .ok (.putfield 46, 3) := by decide +kernel
theorem dX6_begin_30 : decode cX6_begin 30 = .ok (.aload_n 0, 1) := by decide +kernel
theorem dX6_begin_31 : decode cX6_begin 31 = .ok (.iconst 0, 1) := by decide +kernel
theorem dX6_begin_32 : decode cX6_begin 32 = .ok (.putfield 33, 3) := by decide +kernel
theorem dX6_begin_35 : decode cX6_begin 35 = .ok (.aload_n 0, 1) := by decide +kernel
theorem dX6_begin_36 : decode cX6_begin 36 = .ok (.iconst 0, 1) := by decide +kernel
theorem dX6_begin_37 : decode cX6_begin 37 = .ok (.putfield 36, 3) := by decide +kernel
theorem dX6_begin_40 : decode cX6_begin 40 = .ok (.aload_n 0, 1) := by decide +kernel
theorem dX6_begin_41 : decode cX6_begin 41 = .ok (.iconst 0, 1) := by decide +kernel
theorem dX6_begin_42 : decode cX6_begin 42 = .ok (.invokevirtual 58, 3) := by decide +kernel
theorem dX6_begin_45 : decode cX6_begin 45 = .ok (.istore_n 2, 1) := by decide +kernel
theorem dX6_begin_46 : decode cX6_begin 46 = .ok (.iconst 0, 1) := by decide +kernel
theorem dX6_begin_47 : decode cX6_begin 47 = .ok (.istore_n 3, 1) := by decide +kernel
theorem dX6_begin_48 : decode cX6_begin 48 = .ok (.iload_n 3, 1) := by decide +kernel
theorem dX6_begin_49 : decode cX6_begin 49 = .ok (.sipush 900, 3) := by decide +kernel
theorem dX6_begin_52 : decode cX6_begin 52 = .ok (.if_icmp .ge 27, 3) := by decide +kernel
theorem dX6_begin_55 : decode cX6_begin 55 = .ok (.iload_n 2, 1) := by decide +kernel
theorem dX6_begin_56 : decode cX6_begin 56 = .ok (.aload_n 0, 1) := by decide +kernel
theorem dX6_begin_57 : decode cX6_begin 57 = .ok (.getfield 19, 3) := by decide +kernel
theorem dX6_begin_60 : decode cX6_begin 60 = .ok (.if_icmp .ge 19, 3) := by decide +kernel
theorem dX6_begin_63 : decode cX6_begin 63 = .ok (.aload_n 0, 1) := by decide +kernel
theorem dX6_begin_64 : decode cX6_begin 64 = .ok (.aload_n 0, 1) := by decide +kernel
theorem dX6_begin_65 : decode cX6_begin 65 = .ok (.iload_n 2, 1) := by decide +kernel
theorem dX6_begin_66 : decode cX6_begin 66 = .ok (.invokevirtual 62, 3) := by decide +kernel
theorem dX6_begin_69 : decode cX6_begin 69 = .ok (.invokevirtual 58, 3) := by decide +kernel
theorem dX6_begin_72 : decode cX6_begin 72 = .ok (.istore_n 2, 1) := by decide +kernel
theorem dX6_begin_73 : decode cX6_begin 73 = .ok (.iinc 3 1, 3) := by decide +kernel
theorem dX6_begin_76 : decode cX6_begin 76 = .ok (.goto (-28), 3) := by decide +kernel
theorem dX6_begin_79 : decode cX6_begin 79 = .ok (.aload_n 0, 1) := by decide +kernel
theorem dX6_begin_80 : decode cX6_begin 80 = .ok (.iconst 0, 1) := by decide +kernel
theorem dX6_begin_81 : decode cX6_begin 81 = .ok (.aload_n 0, 1) := by decide +kernel
theorem dX6_begin_82 : decode cX6_begin 82 = .ok (.getfield 19, 3) := by decide +kernel
theorem dX6_begin_85 : decode cX6_begin 85 = .ok (.lconst 0, 1) := by decide +kernel
theorem dX6_begin_86 : decode cX6_begin 86 = .ok (.invokevirtual 65, 3) := by decide +kernel
theorem dX6_begin_89 : decode cX6_begin 89 = .ok (.return_, 1) := by decide +kernel
noncomputable def Re_begin_L48 (σ : St) (x2 : Int32) (x3 : Int32) : Option ((Int32 × Int32 × St) ⊕ St) :=
  if 900 ≤ x3 then (some (.inr σ)) else (if (σ.1 2 2) ≤ x2 then (some (.inr σ)) else (bd2 (Re_findToken σ x2) (fun r10 σ11 => bd (Re_skipBlanks σ11 r10) (fun r13 => bnd (x3 + 1) (fun v14 => some (.inl (r13, v14, σ11)))))))
set_option maxRecDepth 100000 in
set_option maxHeartbeats 4000000 in
theorem tb_Re_begin_L48 {V : Ev} {Γ : Cn} {fin : Option Value × St} {σ : St} {x2 : Int32} {x3 : Int32} {o : ((Int32 × Int32 × St) ⊕ St)} (X : Cx V Γ M_X6_begin) {A : ((Int32 × Int32 × St) ⊕ St) → Prop}  (hb48 : ∀ (x2 : Int32) (x3 : Int32) (σ9 : St), A (.inl (x2, x3, σ9)) → Go V Γ M_X6_begin (Zm V Γ 9 fin) 48 [(0, .ref (V.2.2.1 + 2)), (2, .int x2), (3, .int x3)] [] σ9) (hx48 : ∀ (σ9 : St), A (.inr σ9) → Go V Γ M_X6_begin (Zm V Γ 9 fin) 79 [(0, .ref (V.2.2.1 + 2))] [] σ9) (h : Re_begin_L48 σ x2 x3 = some o) (hA : A o) : Go V Γ M_X6_begin (Zm V Γ 9 fin) 48 [(0, .ref (V.2.2.1 + 2)), (2, .int x2), (3, .int x3)] [] σ := by
  unfold Re_begin_L48 at h
  refine g_iload_n (pc := 48) X 2 rfl dX6_begin_48 ?_
  refine g_sipush (v := 900) (pc := 49) X (by decide) dX6_begin_49 ?_
  refine g_icmp_ge (pc := 52) (tgt := 79) X dX6_begin_52 rfl (fun c16 => ?_) (fun c16 => ?_)
  · replace h := if_t c16 h
    refine g_sub [0] rfl ?_
    cases h
    exact hx48 _ hA
  · replace h := if_f c16 h
    refine g_iload_n (pc := 55) X 1 rfl dX6_begin_55 ?_
    refine g_aload_n (pc := 56) X 0 rfl dX6_begin_56 ?_
    refine g_getI (pc := 57) X k_fl_X6_19 s_2 rfl dX6_begin_57 ?_
    refine g_icmp_ge (pc := 60) (tgt := 79) X dX6_begin_60 rfl (fun c15 => ?_) (fun c15 => ?_)
    · replace h := if_t c15 h
      refine g_sub [0] rfl ?_
      cases h
      exact hx48 _ hA
    · replace h := if_f c15 h
      refine g_aload_n (pc := 63) X 0 rfl dX6_begin_63 ?_
      refine g_aload_n (pc := 64) X 0 rfl dX6_begin_64 ?_
      refine g_iload_n (pc := 65) X 1 rfl dX6_begin_65 ?_
      obtain ⟨r10, σ11, hc9, h⟩ := bd2_e h
      refine g_callV (pc := 66) X k_ml_X6_62 (run_Re_findToken  hc9) s_2 rfl (room_ok (Nat.le_of_ble_eq_true rfl) (Nat.le_of_ble_eq_true rfl)) ⟨Nat.le_refl _, Nat.le_refl _⟩ _ rfl (Nat.le_of_ble_eq_true rfl) dX6_begin_66 ?_
      show Go V Γ M_X6_begin (Zm V Γ 9 fin) 69 [(0, .ref (V.2.2.1 + 2)), (2, .int x2), (3, .int x3)] [.int r10, .ref (V.2.2.1 + 2)] σ11
      obtain ⟨r13, hc12, h⟩ := bd_e h
      refine g_callV (pc := 69) X k_ml_X6_58 (run_Re_skipBlanks  hc12) s_2 rfl (room_ok (Nat.le_of_ble_eq_true rfl) (Nat.le_of_ble_eq_true rfl)) ⟨Nat.le_refl _, Nat.le_refl _⟩ _ rfl (Nat.le_of_ble_eq_true rfl) dX6_begin_69 ?_
      show Go V Γ M_X6_begin (Zm V Γ 9 fin) 72 [(0, .ref (V.2.2.1 + 2)), (2, .int x2), (3, .int x3)] [.int r13] σ11
      refine g_istore_n (pc := 72) X [(2, .int r13), (0, .ref (V.2.2.1 + 2)), (3, .int x3)] rfl (Nat.le_of_ble_eq_true rfl) rfl dX6_begin_72 ?_
      obtain ⟨v14, e_v14, h⟩ := bnd_e h
      refine g_iinc (pc := 73) (v := v14) X [(3, .int v14), (2, .int r13), (0, .ref (V.2.2.1 + 2))] 2 rfl (by rw [e_v14]; rfl) (Nat.le_of_ble_eq_true rfl) rfl dX6_begin_73 ?_
      refine g_goto (pc := 76) (tgt := 48) X dX6_begin_76 rfl ?_
      refine g_sub [2, 1, 0] rfl ?_
      cases h
      exact hb48 _ _ _ hA
set_option maxRecDepth 100000 in
theorem tl_Re_begin_L48 {V : Ev} {Γ : Cn} {fin : Option Value × St} {x2 : Int32} {x3 : Int32} {σ9 : St} (X : Cx V Γ M_X6_begin)  {σ8 : St} {n : Nat} (h : iter (fun s : (Int32 × Int32 × St) => Re_begin_L48 s.2.2 s.1 s.2.1) n (x2, x3, σ9) = some σ8) (hK : Go V Γ M_X6_begin (Zm V Γ 9 fin) 79 [(0, .ref (V.2.2.1 + 2))] [] σ8) : Go V Γ M_X6_begin (Zm V Γ 9 fin) 48 [(0, .ref (V.2.2.1 + 2)), (2, .int x2), (3, .int x3)] [] σ9 := by
  refine iter_go (G := (fun s : (Int32 × Int32 × St) => Go V Γ M_X6_begin (Zm V Γ 9 fin) 48 [(0, .ref (V.2.2.1 + 2)), (2, .int s.1), (3, .int s.2.1)] [] s.2.2)) (fun s o ho hS => ?_) n (x2, x3, σ9) h
  exact tb_Re_begin_L48 X  (fun _ _ _ h9 => h9) (fun _ he => by cases he; exact hK) ho hS
noncomputable def Re_begin (σ : St) (p1 : Int32) : Option St :=
  bnd (wI σ 2 2 (jmax 0 (jmin p1 900))) (fun σ1 => bnd (wI σ1 2 1 0) (fun σ2 => bnd (wI σ2 2 9 0) (fun σ3 => bnd (wI σ3 2 10 (-1)) (fun σ4 => bnd (wI σ4 2 6 0) (fun σ5 => bnd (wI σ5 2 7 0) (fun σ6 => bd (Re_skipBlanks σ6 0) (fun r8 => bd (iter (fun s : (Int32 × Int32 × St) => Re_begin_L48 s.2.2 s.1 s.2.1) FUEL (r8, 0, σ6)) (fun σ17 => bd (Re_keep σ17 0 (σ17.1 2 2) 0) (fun σ20 => some σ20)))))))))
set_option maxRecDepth 100000 in
set_option maxHeartbeats 4000000 in
theorem tm_Re_begin {V : Ev} {Γ : Cn} {fin : Option Value × St} {σ : St} {p1 : Int32} {o : St} (X : Cx V Γ M_X6_begin) {A : St → Prop}  (hr : ∀ (σ9 : St), A σ9 → (none, σ9) = fin) (h : Re_begin σ p1 = some o) (hA : A o) : Go V Γ M_X6_begin (Zm V Γ 9 fin) 0 [(0, .ref (V.2.2.1 + 2)), (1, .int p1)] [] σ := by
  unfold Re_begin at h
  refine g_aload_n (pc := 0) X 0 rfl dX6_begin_0 ?_
  refine g_iconst (v := 0) (pc := 1) X rfl dX6_begin_1 ?_
  refine g_iload_n (pc := 2) X 1 rfl dX6_begin_2 ?_
  refine g_sipush (v := 900) (pc := 3) X (by decide) dX6_begin_3 ?_
  refine g_min (pc := 6) X k_ml_X6_49 (Nat.le_of_ble_eq_true rfl) (Nat.le_of_ble_eq_true rfl) (Nat.le_refl _) (Nat.le_refl _) dX6_begin_6 ?_
  refine g_max (pc := 9) X k_ml_X6_55 (Nat.le_of_ble_eq_true rfl) (Nat.le_of_ble_eq_true rfl) (Nat.le_refl _) (Nat.le_refl _) dX6_begin_9 ?_
  refine g_putI (pc := 12) X k_fl_X6_19 s_2 rfl rfl rfl dX6_begin_12 ?_
  obtain ⟨σ1, e_σ1, h⟩ := bnd_e h
  refine g_nmS e_σ1 ?_
  refine g_aload_n (pc := 15) X 0 rfl dX6_begin_15 ?_
  refine g_iconst (v := 0) (pc := 16) X rfl dX6_begin_16 ?_
  refine g_putI (pc := 17) X k_fl_X6_15 s_2 rfl rfl rfl dX6_begin_17 ?_
  obtain ⟨σ2, e_σ2, h⟩ := bnd_e h
  refine g_nmS e_σ2 ?_
  refine g_aload_n (pc := 20) X 0 rfl dX6_begin_20 ?_
  refine g_iconst (v := 0) (pc := 21) X rfl dX6_begin_21 ?_
  refine g_putI (pc := 22) X k_fl_X6_43 s_2 rfl rfl rfl dX6_begin_22 ?_
  obtain ⟨σ3, e_σ3, h⟩ := bnd_e h
  refine g_nmS e_σ3 ?_
  refine g_aload_n (pc := 25) X 0 rfl dX6_begin_25 ?_
  refine g_iconst (v := (-1)) (pc := 26) X rfl dX6_begin_26 ?_
  refine g_putI (pc := 27) X k_fl_X6_46 s_2 rfl rfl rfl dX6_begin_27 ?_
  obtain ⟨σ4, e_σ4, h⟩ := bnd_e h
  refine g_nmS e_σ4 ?_
  refine g_aload_n (pc := 30) X 0 rfl dX6_begin_30 ?_
  refine g_iconst (v := 0) (pc := 31) X rfl dX6_begin_31 ?_
  refine g_putI (pc := 32) X k_fl_X6_33 s_2 rfl rfl rfl dX6_begin_32 ?_
  obtain ⟨σ5, e_σ5, h⟩ := bnd_e h
  refine g_nmS e_σ5 ?_
  refine g_aload_n (pc := 35) X 0 rfl dX6_begin_35 ?_
  refine g_iconst (v := 0) (pc := 36) X rfl dX6_begin_36 ?_
  refine g_putI (pc := 37) X k_fl_X6_36 s_2 rfl rfl rfl dX6_begin_37 ?_
  obtain ⟨σ6, e_σ6, h⟩ := bnd_e h
  refine g_nmS e_σ6 ?_
  refine g_aload_n (pc := 40) X 0 rfl dX6_begin_40 ?_
  refine g_iconst (v := 0) (pc := 41) X rfl dX6_begin_41 ?_
  obtain ⟨r8, hc7, h⟩ := bd_e h
  refine g_callV (pc := 42) X k_ml_X6_58 (run_Re_skipBlanks  hc7) s_2 rfl (room_ok (Nat.le_of_ble_eq_true rfl) (Nat.le_of_ble_eq_true rfl)) ⟨Nat.le_refl _, Nat.le_refl _⟩ _ rfl (Nat.le_of_ble_eq_true rfl) dX6_begin_42 ?_
  show Go V Γ M_X6_begin (Zm V Γ 9 fin) 45 [(0, .ref (V.2.2.1 + 2)), (1, .int p1)] [.int r8] σ6
  refine g_istore_n (pc := 45) X [(2, .int r8), (0, .ref (V.2.2.1 + 2)), (1, .int p1)] rfl (Nat.le_of_ble_eq_true rfl) rfl dX6_begin_45 ?_
  refine g_iconst (v := 0) (pc := 46) X rfl dX6_begin_46 ?_
  refine g_istore_n (pc := 47) X [(3, .int 0), (2, .int r8), (0, .ref (V.2.2.1 + 2)), (1, .int p1)] rfl (Nat.le_of_ble_eq_true rfl) rfl dX6_begin_47 ?_
  refine g_sub [2, 1, 0] rfl ?_
  obtain ⟨σ17, hi18, h⟩ := bd_e h
  refine tl_Re_begin_L48 X  hi18 ?_
  refine g_aload_n (pc := 79) X 0 rfl dX6_begin_79 ?_
  refine g_iconst (v := 0) (pc := 80) X rfl dX6_begin_80 ?_
  refine g_aload_n (pc := 81) X 0 rfl dX6_begin_81 ?_
  refine g_getI (pc := 82) X k_fl_X6_19 s_2 rfl dX6_begin_82 ?_
  refine g_lconst (v := 0) (pc := 85) X rfl dX6_begin_85 ?_
  obtain ⟨σ20, hc19, h⟩ := bd_e h
  refine g_callV (pc := 86) X k_ml_X6_65 (run_Re_keep  hc19) s_2 rfl (room_ok (Nat.le_of_ble_eq_true rfl) (Nat.le_of_ble_eq_true rfl)) ⟨Nat.le_refl _, Nat.le_refl _⟩ _ rfl (Nat.le_of_ble_eq_true rfl) dX6_begin_86 ?_
  show Go V Γ M_X6_begin (Zm V Γ 9 fin) 89 [(0, .ref (V.2.2.1 + 2))] [] σ20
  cases h
  exact g_vret (pc := 89) X rfl (hr _ hA) dX6_begin_89
set_option maxRecDepth 100000 in
theorem run_Re_begin {V : Ev} {σ : St} {p1 : Int32} {o : St}   (h : Re_begin σ p1 = some o) : Rs V 9 M_X6_begin [.ref (V.2.2.1 + 2), .int p1] σ (none, o) := by
  refine Rs.of (by decide +kernel) (Nat.le_of_ble_eq_true rfl) (fun Γ X => ?_)
  exact tm_Re_begin X (A := fun o1 => o1 = o)  (fun _ e => by rw [e]) h rfl
