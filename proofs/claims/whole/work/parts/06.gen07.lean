theorem dX12_lived_0 : decode cX12_lived 0 = .ok (.iload_n 1, 1) := by decide +kernel
theorem dX12_lived_1 : decode cX12_lived 1 = .ok (.ifCond .lt 8, 3) := by decide +kernel
theorem dX12_lived_4 : decode cX12_lived 4 = .ok (.iload_n 1, 1) := by decide +kernel
theorem dX12_lived_5 : decode cX12_lived 5 = .ok (.iconst 4, 1) := by decide +kernel
theorem dX12_lived_6 : decode cX12_lived 6 = .ok (.if_icmp .le 11, 3) := by decide +kernel
theorem dX12_lived_9 : decode cX12_lived 9 = .ok (.aload_n 0, 1) := by decide +kernel
theorem dX12_lived_10 : decode cX12_lived 10 = .ok (.iconst 1, 1) := by decide +kernel
theorem dX12_lived_11 : decode cX12_lived 11 = .ok (.invokevirtual 88, 3) := by decide +kernel
theorem dX12_lived_14 : decode cX12_lived 14 = .ok (.goto 29, 3) := by decide +kernel
theorem dX12_lived_17 : decode cX12_lived 17 = .ok (.aload_n 0, 1) := by decide +kernel
theorem dX12_lived_18 : decode cX12_lived 18 = .ok (.getfield 436, 3) := by decide +kernel
theorem dX12_lived_21 : decode cX12_lived 21 = .ok (.ifCond .eq 16, 3) := by decide +kernel
theorem dX12_lived_24 : decode cX12_lived 24 = .ok (.aload_n 0, 1) := by decide +kernel
theorem dX12_lived_25 : decode cX12_lived 25 = .ok (.aload_n 0, 1) := by decide +kernel
theorem dX12_lived_26 : decode cX12_lived 26 = .ok (.getfield 75, 3) := by decide +kernel
theorem dX12_lived_29 : decode cX12_lived 29 = .ok (.iload_n 1, 1) := by decide +kernel
theorem dX12_lived_30 : decode cX12_lived 30 = .ok (.iaload, 1) := by decide +kernel
theorem dX12_lived_31 : decode cX12_lived 31 = .ok (.invokevirtual 92, 3) := by decide +kernel
theorem dX12_lived_34 : decode cX12_lived 34 = .ok (.goto 9, 3) := by decide +kernel
theorem dX12_lived_37 : decode cX12_lived 37 = .ok (.aload_n 0, 1) := by decide +kernel
theorem dX12_lived_38 : decode cX12_lived 38 = .ok (.bipush 6, 2) := by decide +kernel
theorem dX12_lived_40 : decode cX12_lived 40 = .ok (.invokevirtual 88, 3) := by decide +kernel
theorem dX12_lived_43 : decode cX12_lived 43 = .ok (.ireturn, 1) := by decide +kernel
noncomputable def Mo_lived (σ : St) (p1 : Int32) : Option (Int32 × St) :=
  if p1 < 0 then (bd2 (Mo_refuse σ 1) (fun r2 σ3 => some (r2, σ3))) else (if p1 ≤ 4 then (if (σ.1 92 37) = 0 then (bd2 (Mo_refuse σ 6) (fun r5 σ6 => some (r5, σ6))) else (chk (ix p1 5) (bd2 (Mo_gives σ (σ.1 110 (tn p1))) (fun r9 σ10 => some (r9, σ10))))) else (bd2 (Mo_refuse σ 1) (fun r13 σ14 => some (r13, σ14))))
set_option maxRecDepth 100000 in
set_option maxHeartbeats 4000000 in
theorem tm_Mo_lived {V : Ev} {Γ : Cn} {fin : Option Value × St} {σ : St} {p1 : Int32} {o : (Int32 × St)} (X : Cx V Γ M_X12_lived) {A : (Int32 × St) → Prop}  (hr : ∀ (r : Int32) (σ9 : St), A (r, σ9) → (some (.int r), σ9) = fin) (h : Mo_lived σ p1 = some o) (hA : A o) : Go V Γ M_X12_lived (Zm V Γ 1 fin) 0 [(0, .ref (V.2.2.1 + 92)), (1, .int p1)] [] σ := by
  unfold Mo_lived at h
  refine g_iload_n (pc := 0) X 1 rfl dX12_lived_0 ?_
  refine g_if_lt (pc := 1) (tgt := 9) X dX12_lived_1 rfl (fun c16 => ?_) (fun c16 => ?_)
  · replace h := if_t c16 h
    refine g_aload_n (pc := 9) X 0 rfl dX12_lived_9 ?_
    refine g_iconst (v := 1) (pc := 10) X rfl dX12_lived_10 ?_
    obtain ⟨r2, σ3, hc1, h⟩ := bd2_e h
    refine g_callV (pc := 11) X k_ml_X12_88 (run_Mo_refuse  hc1) s_92 rfl (room_ok (Nat.le_of_ble_eq_true rfl) (Nat.le_of_ble_eq_true rfl)) ⟨Nat.le_refl _, Nat.le_refl _⟩ _ rfl (Nat.le_of_ble_eq_true rfl) dX12_lived_11 ?_
    show Go V Γ M_X12_lived (Zm V Γ 1 fin) 14 [(0, .ref (V.2.2.1 + 92)), (1, .int p1)] [.int r2] σ3
    refine g_goto (pc := 14) (tgt := 43) X dX12_lived_14 rfl ?_
    cases h
    exact g_iret (pc := 43) X rfl rfl (hr _ _ hA) dX12_lived_43
  · replace h := if_f c16 h
    refine g_iload_n (pc := 4) X 1 rfl dX12_lived_4 ?_
    refine g_iconst (v := 4) (pc := 5) X rfl dX12_lived_5 ?_
    refine g_icmp_le (pc := 6) (tgt := 17) X dX12_lived_6 rfl (fun c15 => ?_) (fun c15 => ?_)
    · replace h := if_t c15 h
      refine g_aload_n (pc := 17) X 0 rfl dX12_lived_17 ?_
      refine g_getI (pc := 18) X k_fl_X12_436 s_92 rfl dX12_lived_18 ?_
      refine g_if_eq (pc := 21) (tgt := 37) X dX12_lived_21 rfl (fun c11 => ?_) (fun c11 => ?_)
      · replace h := if_t c11 h
        refine g_aload_n (pc := 37) X 0 rfl dX12_lived_37 ?_
        refine g_bipush (v := 6) (pc := 38) X (by decide) dX12_lived_38 ?_
        obtain ⟨r5, σ6, hc4, h⟩ := bd2_e h
        refine g_callV (pc := 40) X k_ml_X12_88 (run_Mo_refuse  hc4) s_92 rfl (room_ok (Nat.le_of_ble_eq_true rfl) (Nat.le_of_ble_eq_true rfl)) ⟨Nat.le_refl _, Nat.le_refl _⟩ _ rfl (Nat.le_of_ble_eq_true rfl) dX12_lived_40 ?_
        show Go V Γ M_X12_lived (Zm V Γ 1 fin) 43 [(0, .ref (V.2.2.1 + 92)), (1, .int p1)] [.int r5] σ6
        cases h
        exact g_iret (pc := 43) X rfl rfl (hr _ _ hA) dX12_lived_43
      · replace h := if_f c11 h
        refine g_aload_n (pc := 24) X 0 rfl dX12_lived_24 ?_
        refine g_aload_n (pc := 25) X 0 rfl dX12_lived_25 ?_
        refine g_getR (r := 110) (pc := 26) X k_fl_X12_75 s_92 rfl dX12_lived_26 ?_
        refine g_iload_n (pc := 29) X 1 rfl dX12_lived_29 ?_
        obtain ⟨c7, h⟩ := chk_e h
        refine g_iald (pc := 30) X s_110 c7 dX12_lived_30 ?_
        obtain ⟨r9, σ10, hc8, h⟩ := bd2_e h
        refine g_callV (pc := 31) X k_ml_X12_92 (run_Mo_gives  hc8) s_92 rfl (room_ok (Nat.le_of_ble_eq_true rfl) (Nat.le_of_ble_eq_true rfl)) ⟨Nat.le_refl _, Nat.le_refl _⟩ _ rfl (Nat.le_of_ble_eq_true rfl) dX12_lived_31 ?_
        show Go V Γ M_X12_lived (Zm V Γ 1 fin) 34 [(0, .ref (V.2.2.1 + 92)), (1, .int p1)] [.int r9] σ10
        refine g_goto (pc := 34) (tgt := 43) X dX12_lived_34 rfl ?_
        cases h
        exact g_iret (pc := 43) X rfl rfl (hr _ _ hA) dX12_lived_43
    · replace h := if_f c15 h
      refine g_aload_n (pc := 9) X 0 rfl dX12_lived_9 ?_
      refine g_iconst (v := 1) (pc := 10) X rfl dX12_lived_10 ?_
      obtain ⟨r13, σ14, hc12, h⟩ := bd2_e h
      refine g_callV (pc := 11) X k_ml_X12_88 (run_Mo_refuse  hc12) s_92 rfl (room_ok (Nat.le_of_ble_eq_true rfl) (Nat.le_of_ble_eq_true rfl)) ⟨Nat.le_refl _, Nat.le_refl _⟩ _ rfl (Nat.le_of_ble_eq_true rfl) dX12_lived_11 ?_
      show Go V Γ M_X12_lived (Zm V Γ 1 fin) 14 [(0, .ref (V.2.2.1 + 92)), (1, .int p1)] [.int r13] σ14
      refine g_goto (pc := 14) (tgt := 43) X dX12_lived_14 rfl ?_
      cases h
      exact g_iret (pc := 43) X rfl rfl (hr _ _ hA) dX12_lived_43
set_option maxRecDepth 100000 in
theorem run_Mo_lived {V : Ev} {σ : St} {p1 : Int32} {o : (Int32 × St)}   (h : Mo_lived σ p1 = some o) : Rs V 1 M_X12_lived [.ref (V.2.2.1 + 92), .int p1] σ (some (.int o.1), o.2) := by
  refine Rs.of (by decide +kernel) (Nat.le_of_ble_eq_true rfl) (fun Γ X => ?_)
  exact tm_Mo_lived X (A := fun o1 => o1 = o)  (fun _ _ e => by rw [← e]) h rfl
theorem dX12_keeps_0 : decode cX12_keeps 0 = .ok (.iconst 0, 1) := by decide +kernel
theorem dX12_keeps_1 : decode cX12_keeps 1 = .ok (.istore_n 2, 1) := by decide +kernel
theorem dX12_keeps_2 : decode cX12_keeps 2 = .ok (.iload_n 2, 1) := by decide +kernel
theorem dX12_keeps_3 : decode cX12_keeps 3 = .ok (.bipush 40, 2) := by decide +kernel
theorem dX12_keeps_5 : decode cX12_keeps 5 = .ok (.if_icmp .ge 23, 3) := by decide +kernel
theorem dX12_keeps_8 : decode cX12_keeps 8 = .ok (.aload_n 0, 1) := by decide +kernel
theorem dX12_keeps_9 : decode cX12_keeps 9 = .ok (.getfield 7, 3) := by decide +kernel
theorem dX12_keeps_12 : decode cX12_keeps 12 = .ok (.iload_n 1, 1) := by decide +kernel
theorem dX12_keeps_13 : decode cX12_keeps 13 = .ok (.iload_n 2, 1) := by decide +kernel
theorem dX12_keeps_14 : decode cX12_keeps 14 = .ok (.iadd, 1) := by decide +kernel
theorem dX12_keeps_15 : decode cX12_keeps 15 = .ok (.aload_n 0, 1) := by decide +kernel
theorem dX12_keeps_16 : decode cX12_keeps 16 = .ok (.getfield 7, 3) := by decide +kernel
theorem dX12_keeps_19 : decode cX12_keeps 19 = .ok (.iload_n 2, 1) := by decide +kernel
theorem dX12_keeps_20 : decode cX12_keeps 20 = .ok (.iaload, 1) := by decide +kernel
theorem dX12_keeps_21 : decode cX12_keeps 21 = .ok (.iastore, 1) := by decide +kernel
theorem dX12_keeps_22 : decode cX12_keeps 22 = .ok (.iinc 2 1, 3) := by decide +kernel
theorem dX12_keeps_25 : decode cX12_keeps 25 = .ok (.goto (-23), 3) := by decide +kernel
theorem dX12_keeps_28 : decode cX12_keeps 28 = .ok (.return_, 1) := by decide +kernel
noncomputable def Mo_keeps_L2 (l1 : Int32) (σ : St) (x2 : Int32) : Option ((Int32 × St) ⊕ St) :=
  if 40 ≤ x2 then (some (.inr σ)) else (chk (ix x2 2060) (chk (ix (l1 + x2) 2060) (bnd (wI σ 93 (tn (l1 + x2)) (σ.1 93 (tn x2))) (fun σ3 => bnd (x2 + 1) (fun v4 => some (.inl (v4, σ3)))))))
set_option maxRecDepth 100000 in
set_option maxHeartbeats 4000000 in
theorem tb_Mo_keeps_L2 {V : Ev} {Γ : Cn} {fin : Option Value × St} {l1 : Int32} {σ : St} {x2 : Int32} {o : ((Int32 × St) ⊕ St)} (X : Cx V Γ M_X12_keeps) {A : ((Int32 × St) ⊕ St) → Prop}  (hb2 : ∀ (x2 : Int32) (σ9 : St), A (.inl (x2, σ9)) → Go V Γ M_X12_keeps (Zm V Γ 0 fin) 2 [(0, .ref (V.2.2.1 + 92)), (1, .int l1), (2, .int x2)] [] σ9) (hx2 : ∀ (σ9 : St), A (.inr σ9) → Go V Γ M_X12_keeps (Zm V Γ 0 fin) 28 [] [] σ9) (h : Mo_keeps_L2 l1 σ x2 = some o) (hA : A o) : Go V Γ M_X12_keeps (Zm V Γ 0 fin) 2 [(0, .ref (V.2.2.1 + 92)), (1, .int l1), (2, .int x2)] [] σ := by
  unfold Mo_keeps_L2 at h
  refine g_iload_n (pc := 2) X 2 rfl dX12_keeps_2 ?_
  refine g_bipush (v := 40) (pc := 3) X (by decide) dX12_keeps_3 ?_
  refine g_icmp_ge (pc := 5) (tgt := 28) X dX12_keeps_5 rfl (fun c5 => ?_) (fun c5 => ?_)
  · replace h := if_t c5 h
    refine g_sub [] rfl ?_
    cases h
    exact hx2 _ hA
  · replace h := if_f c5 h
    refine g_aload_n (pc := 8) X 0 rfl dX12_keeps_8 ?_
    refine g_getR (r := 93) (pc := 9) X k_fl_X12_7 s_92 rfl dX12_keeps_9 ?_
    refine g_iload_n (pc := 12) X 1 rfl dX12_keeps_12 ?_
    refine g_iload_n (pc := 13) X 2 rfl dX12_keeps_13 ?_
    refine g_iadd (pc := 14) X dX12_keeps_14 ?_
    refine g_aload_n (pc := 15) X 0 rfl dX12_keeps_15 ?_
    refine g_getR (r := 93) (pc := 16) X k_fl_X12_7 s_92 rfl dX12_keeps_16 ?_
    refine g_iload_n (pc := 19) X 2 rfl dX12_keeps_19 ?_
    obtain ⟨c1, h⟩ := chk_e h
    refine g_iald (pc := 20) X s_93 c1 dX12_keeps_20 ?_
    obtain ⟨c2, h⟩ := chk_e h
    refine g_iast (pc := 21) X s_93 c2 dX12_keeps_21 ?_
    obtain ⟨σ3, e_σ3, h⟩ := bnd_e h
    refine g_nmS e_σ3 ?_
    obtain ⟨v4, e_v4, h⟩ := bnd_e h
    refine g_iinc (pc := 22) (v := v4) X [(2, .int v4), (0, .ref (V.2.2.1 + 92)), (1, .int l1)] 2 rfl (by rw [e_v4]; rfl) (Nat.le_of_ble_eq_true rfl) rfl dX12_keeps_22 ?_
    refine g_goto (pc := 25) (tgt := 2) X dX12_keeps_25 rfl ?_
    refine g_sub [1, 2, 0] rfl ?_
    cases h
    exact hb2 _ _ hA
set_option maxRecDepth 100000 in
theorem tl_Mo_keeps_L2 {V : Ev} {Γ : Cn} {fin : Option Value × St} {l1 : Int32} {x2 : Int32} {σ9 : St} (X : Cx V Γ M_X12_keeps)  {σ8 : St} {n : Nat} (h : iter (fun s : (Int32 × St) => Mo_keeps_L2 l1 s.2 s.1) n (x2, σ9) = some σ8) (hK : Go V Γ M_X12_keeps (Zm V Γ 0 fin) 28 [] [] σ8) : Go V Γ M_X12_keeps (Zm V Γ 0 fin) 2 [(0, .ref (V.2.2.1 + 92)), (1, .int l1), (2, .int x2)] [] σ9 := by
  refine iter_go (G := (fun s : (Int32 × St) => Go V Γ M_X12_keeps (Zm V Γ 0 fin) 2 [(0, .ref (V.2.2.1 + 92)), (1, .int l1), (2, .int s.1)] [] s.2)) (fun s o ho hS => ?_) n (x2, σ9) h
  exact tb_Mo_keeps_L2 X  (fun _ _ h9 => h9) (fun _ he => by cases he; exact hK) ho hS
noncomputable def Mo_keeps (σ : St) (p1 : Int32) : Option St :=
  bd (iter (fun s : (Int32 × St) => Mo_keeps_L2 p1 s.2 s.1) FUEL (0, σ)) (fun σ6 => some σ6)
set_option maxRecDepth 100000 in
set_option maxHeartbeats 4000000 in
theorem tm_Mo_keeps {V : Ev} {Γ : Cn} {fin : Option Value × St} {σ : St} {p1 : Int32} {o : St} (X : Cx V Γ M_X12_keeps) {A : St → Prop}  (hr : ∀ (σ9 : St), A σ9 → (none, σ9) = fin) (h : Mo_keeps σ p1 = some o) (hA : A o) : Go V Γ M_X12_keeps (Zm V Γ 0 fin) 0 [(0, .ref (V.2.2.1 + 92)), (1, .int p1)] [] σ := by
  unfold Mo_keeps at h
  refine g_iconst (v := 0) (pc := 0) X rfl dX12_keeps_0 ?_
  refine g_istore_n (pc := 1) X [(2, .int 0), (0, .ref (V.2.2.1 + 92)), (1, .int p1)] rfl (Nat.le_of_ble_eq_true rfl) rfl dX12_keeps_1 ?_
  refine g_sub [1, 2, 0] rfl ?_
  obtain ⟨σ6, hi7, h⟩ := bd_e h
  refine tl_Mo_keeps_L2 X  hi7 ?_
  cases h
  exact g_vret (pc := 28) X rfl (hr _ hA) dX12_keeps_28
set_option maxRecDepth 100000 in
theorem run_Mo_keeps {V : Ev} {σ : St} {p1 : Int32} {o : St}   (h : Mo_keeps σ p1 = some o) : Rs V 0 M_X12_keeps [.ref (V.2.2.1 + 92), .int p1] σ (none, o) := by
  refine Rs.of (by decide +kernel) (Nat.le_of_ble_eq_true rfl) (fun Γ X => ?_)
  exact tm_Mo_keeps X (A := fun o1 => o1 = o)  (fun _ e => by rw [e]) h rfl
theorem dX12_brings_0 : decode cX12_brings 0 = .ok (.iconst 0, 1) := by decide +kernel
theorem dX12_brings_1 : decode cX12_brings 1 = .ok (.istore_n 2, 1) := by decide +kernel
theorem dX12_brings_2 : decode cX12_brings 2 = .ok (.iload_n 2, 1) := by decide +kernel
theorem dX12_brings_3 : decode cX12_brings 3 = .ok (.bipush 40, 2) := by decide +kernel
theorem dX12_brings_5 : decode cX12_brings 5 = .ok (.if_icmp .ge 23, 3) := by decide +kernel
theorem dX12_brings_8 : decode cX12_brings 8 = .ok (.aload_n 0, 1) := by decide +kernel
theorem dX12_brings_9 : decode cX12_brings 9 = .ok (.getfield 7, 3) := by decide +kernel
theorem dX12_brings_12 : decode cX12_brings 12 = .ok (.iload_n 2, 1) := by decide +kernel
theorem dX12_brings_13 : decode cX12_brings 13 = .ok (.aload_n 0, 1) := by decide +kernel
theorem dX12_brings_14 : decode cX12_brings 14 = .ok (.getfield 7, 3) := by decide +kernel
theorem dX12_brings_17 : decode cX12_brings 17 = .ok (.iload_n 1, 1) := by decide +kernel
theorem dX12_brings_18 : decode cX12_brings 18 = .ok (.iload_n 2, 1) := by decide +kernel
theorem dX12_brings_19 : decode cX12_brings 19 = .ok (.iadd, 1) := by decide +kernel
theorem dX12_brings_20 : decode cX12_brings 20 = .ok (.iaload, 1) := by decide +kernel
theorem dX12_brings_21 : decode cX12_brings 21 = .ok (.iastore, 1) := by decide +kernel
theorem dX12_brings_22 : decode cX12_brings 22 = .ok (.iinc 2 1, 3) := by decide +kernel
theorem dX12_brings_25 : decode cX12_brings 25 = .ok (.goto (-23), 3) := by decide +kernel
theorem dX12_brings_28 : decode cX12_brings 28 = .ok (.return_, 1) := by decide +kernel
noncomputable def Mo_brings_L2 (l1 : Int32) (σ : St) (x2 : Int32) : Option ((Int32 × St) ⊕ St) :=
  if 40 ≤ x2 then (some (.inr σ)) else (chk (ix (l1 + x2) 2060) (chk (ix x2 2060) (bnd (wI σ 93 (tn x2) (σ.1 93 (tn (l1 + x2)))) (fun σ3 => bnd (x2 + 1) (fun v4 => some (.inl (v4, σ3)))))))
set_option maxRecDepth 100000 in
set_option maxHeartbeats 4000000 in
theorem tb_Mo_brings_L2 {V : Ev} {Γ : Cn} {fin : Option Value × St} {l1 : Int32} {σ : St} {x2 : Int32} {o : ((Int32 × St) ⊕ St)} (X : Cx V Γ M_X12_brings) {A : ((Int32 × St) ⊕ St) → Prop}  (hb2 : ∀ (x2 : Int32) (σ9 : St), A (.inl (x2, σ9)) → Go V Γ M_X12_brings (Zm V Γ 0 fin) 2 [(0, .ref (V.2.2.1 + 92)), (1, .int l1), (2, .int x2)] [] σ9) (hx2 : ∀ (σ9 : St), A (.inr σ9) → Go V Γ M_X12_brings (Zm V Γ 0 fin) 28 [] [] σ9) (h : Mo_brings_L2 l1 σ x2 = some o) (hA : A o) : Go V Γ M_X12_brings (Zm V Γ 0 fin) 2 [(0, .ref (V.2.2.1 + 92)), (1, .int l1), (2, .int x2)] [] σ := by
  unfold Mo_brings_L2 at h
  refine g_iload_n (pc := 2) X 2 rfl dX12_brings_2 ?_
  refine g_bipush (v := 40) (pc := 3) X (by decide) dX12_brings_3 ?_
  refine g_icmp_ge (pc := 5) (tgt := 28) X dX12_brings_5 rfl (fun c5 => ?_) (fun c5 => ?_)
  · replace h := if_t c5 h
    refine g_sub [] rfl ?_
    cases h
    exact hx2 _ hA
  · replace h := if_f c5 h
    refine g_aload_n (pc := 8) X 0 rfl dX12_brings_8 ?_
    refine g_getR (r := 93) (pc := 9) X k_fl_X12_7 s_92 rfl dX12_brings_9 ?_
    refine g_iload_n (pc := 12) X 2 rfl dX12_brings_12 ?_
    refine g_aload_n (pc := 13) X 0 rfl dX12_brings_13 ?_
    refine g_getR (r := 93) (pc := 14) X k_fl_X12_7 s_92 rfl dX12_brings_14 ?_
    refine g_iload_n (pc := 17) X 1 rfl dX12_brings_17 ?_
    refine g_iload_n (pc := 18) X 2 rfl dX12_brings_18 ?_
    refine g_iadd (pc := 19) X dX12_brings_19 ?_
    obtain ⟨c1, h⟩ := chk_e h
    refine g_iald (pc := 20) X s_93 c1 dX12_brings_20 ?_
    obtain ⟨c2, h⟩ := chk_e h
    refine g_iast (pc := 21) X s_93 c2 dX12_brings_21 ?_
    obtain ⟨σ3, e_σ3, h⟩ := bnd_e h
    refine g_nmS e_σ3 ?_
    obtain ⟨v4, e_v4, h⟩ := bnd_e h
    refine g_iinc (pc := 22) (v := v4) X [(2, .int v4), (0, .ref (V.2.2.1 + 92)), (1, .int l1)] 2 rfl (by rw [e_v4]; rfl) (Nat.le_of_ble_eq_true rfl) rfl dX12_brings_22 ?_
    refine g_goto (pc := 25) (tgt := 2) X dX12_brings_25 rfl ?_
    refine g_sub [1, 2, 0] rfl ?_
    cases h
    exact hb2 _ _ hA
set_option maxRecDepth 100000 in
theorem tl_Mo_brings_L2 {V : Ev} {Γ : Cn} {fin : Option Value × St} {l1 : Int32} {x2 : Int32} {σ9 : St} (X : Cx V Γ M_X12_brings)  {σ8 : St} {n : Nat} (h : iter (fun s : (Int32 × St) => Mo_brings_L2 l1 s.2 s.1) n (x2, σ9) = some σ8) (hK : Go V Γ M_X12_brings (Zm V Γ 0 fin) 28 [] [] σ8) : Go V Γ M_X12_brings (Zm V Γ 0 fin) 2 [(0, .ref (V.2.2.1 + 92)), (1, .int l1), (2, .int x2)] [] σ9 := by
  refine iter_go (G := (fun s : (Int32 × St) => Go V Γ M_X12_brings (Zm V Γ 0 fin) 2 [(0, .ref (V.2.2.1 + 92)), (1, .int l1), (2, .int s.1)] [] s.2)) (fun s o ho hS => ?_) n (x2, σ9) h
  exact tb_Mo_brings_L2 X  (fun _ _ h9 => h9) (fun _ he => by cases he; exact hK) ho hS
noncomputable def Mo_brings (σ : St) (p1 : Int32) : Option St :=
  bd (iter (fun s : (Int32 × St) => Mo_brings_L2 p1 s.2 s.1) FUEL (0, σ)) (fun σ6 => some σ6)
set_option maxRecDepth 100000 in
set_option maxHeartbeats 4000000 in
theorem tm_Mo_brings {V : Ev} {Γ : Cn} {fin : Option Value × St} {σ : St} {p1 : Int32} {o : St} (X : Cx V Γ M_X12_brings) {A : St → Prop}  (hr : ∀ (σ9 : St), A σ9 → (none, σ9) = fin) (h : Mo_brings σ p1 = some o) (hA : A o) : Go V Γ M_X12_brings (Zm V Γ 0 fin) 0 [(0, .ref (V.2.2.1 + 92)), (1, .int p1)] [] σ := by
  unfold Mo_brings at h
  refine g_iconst (v := 0) (pc := 0) X rfl dX12_brings_0 ?_
  refine g_istore_n (pc := 1) X [(2, .int 0), (0, .ref (V.2.2.1 + 92)), (1, .int p1)] rfl (Nat.le_of_ble_eq_true rfl) rfl dX12_brings_1 ?_
  refine g_sub [1, 2, 0] rfl ?_
  obtain ⟨σ6, hi7, h⟩ := bd_e h
  refine tl_Mo_brings_L2 X  hi7 ?_
  cases h
  exact g_vret (pc := 28) X rfl (hr _ hA) dX12_brings_28
set_option maxRecDepth 100000 in
theorem run_Mo_brings {V : Ev} {σ : St} {p1 : Int32} {o : St}   (h : Mo_brings σ p1 = some o) : Rs V 0 M_X12_brings [.ref (V.2.2.1 + 92), .int p1] σ (none, o) := by
  refine Rs.of (by decide +kernel) (Nat.le_of_ble_eq_true rfl) (fun Γ X => ?_)
  exact tm_Mo_brings X (A := fun o1 => o1 = o)  (fun _ e => by rw [e]) h rfl
theorem dX12_mean_0 : decode cX12_mean 0 = .ok (.iload_n 1, 1) := by decide +kernel
theorem dX12_mean_1 : decode cX12_mean 1 = .ok (.i2l, 1) := by decide +kernel
theorem dX12_mean_2 : decode cX12_mean 2 = .ok (.lconst 0, 1) := by decide +kernel
theorem dX12_mean_3 : decode cX12_mean 3 = .ok (.ldc2_w 289, 3) := by decide +kernel
theorem dX12_mean_6 : decode cX12_mean 6 = .ok (.invokestatic 270, 3) := by decide +kernel
theorem dX12_mean_9 : decode cX12_mean 9 = .ok (.ifCond .eq 26, 3) := by decide +kernel
theorem dX12_mean_12 : decode cX12_mean 12 = .ok (.iload_n 2, 1) := by decide +kernel
theorem dX12_mean_13 : decode cX12_mean 13 = .ok (.i2l, 1) := by decide +kernel
theorem dX12_mean_14 : decode cX12_mean 14 = .ok (.lconst 1, 1) := by decide +kernel
theorem dX12_mean_15 : decode cX12_mean 15 = .ok (.ldc2_w 439, 3) := by decide +kernel
theorem dX12_mean_18 : decode cX12_mean 18 = .ok (.invokestatic 270, 3) := by decide +kernel
theorem dX12_mean_21 : decode cX12_mean 21 = .ok (.ifCond .eq 14, 3) := by decide +kernel
theorem dX12_mean_24 : decode cX12_mean 24 = .ok (.iload_n 1, 1) := by decide +kernel
theorem dX12_mean_25 : decode cX12_mean 25 = .ok (.iload_n 2, 1) := by decide +kernel
theorem dX12_mean_26 : decode cX12_mean 26 = .ok (.iadd, 1) := by decide +kernel
theorem dX12_mean_27 : decode cX12_mean 27 = .ok (.iconst 1, 1) := by decide +kernel
theorem dX12_mean_28 : decode cX12_mean 28 = .ok (.isub, 1) := by decide +kernel
theorem dX12_mean_29 : decode cX12_mean 29 = .ok (.sipush 9999, 3) := by decide +kernel
theorem dX12_mean_32 : decode cX12_mean 32 = .ok (.if_icmp .le 9, 3) := by decide +kernel
theorem dX12_mean_35 : decode cX12_mean 35 = .ok (.aload_n 0, 1) := by decide +kernel
theorem dX12_mean_36 : decode cX12_mean 36 = .ok (.iconst 1, 1) := by decide +kernel
theorem dX12_mean_37 : decode cX12_mean 37 = .ok (.invokevirtual 95, 3) := by decide +kernel
theorem dX12_mean_40 : decode cX12_mean 40 = .ok (.ireturn, 1) := by decide +kernel
theorem dX12_mean_41 : decode cX12_mean 41 = .ok (.aload_n 0, 1) := by decide +kernel
theorem dX12_mean_42 : decode cX12_mean 42 = .ok (.getfield 7, 3) := by decide +kernel
theorem dX12_mean_45 : decode cX12_mean 45 = .ok (.iconst 2, 1) := by decide +kernel
theorem dX12_mean_46 : decode cX12_mean 46 = .ok (.iaload, 1) := by decide +kernel
theorem dX12_mean_47 : decode cX12_mean 47 = .ok (.iconst (-1), 1) := by decide +kernel
theorem dX12_mean_48 : decode cX12_mean 48 = .ok (.if_icmp .ne 10, 3) := by decide +kernel
theorem dX12_mean_51 : decode cX12_mean 51 = .ok (.aload_n 0, 1) := by decide +kernel
theorem dX12_mean_52 : decode cX12_mean 52 = .ok (.bipush 6, 2) := by decide +kernel
theorem dX12_mean_54 : decode cX12_mean 54 = .ok (.invokevirtual 95, 3) := by decide +kernel
theorem dX12_mean_57 : decode cX12_mean 57 = .ok (.ireturn, 1) := by decide +kernel
theorem dX12_mean_58 : decode cX12_mean 58 = .ok (.aload_n 0, 1) := by decide +kernel
theorem dX12_mean_59 : decode cX12_mean 59 = .ok (.sipush 2020, 3) := by decide +kernel
theorem dX12_mean_62 : decode cX12_mean 62 = .ok (.invokevirtual 441, 3) := by decide +kernel
theorem dX12_mean_65 : decode cX12_mean 65 = .ok (.lconst 0, 1) := by decide +kernel
theorem dX12_mean_66 : decode cX12_mean 66 = .ok (.lstore_n 3, 1) := by decide +kernel
theorem dX12_mean_67 : decode cX12_mean 67 = .ok (.iconst 0, 1) := by decide +kernel
theorem dX12_mean_68 : decode cX12_mean 68 = .ok (.istore 5, 2) := by decide +kernel
theorem dX12_mean_70 : decode cX12_mean 70 = .ok (.iload 5, 2) := by decide +kernel
theorem dX12_mean_72 : decode cX12_mean 72 = .ok (.iload_n 2, 1) := by decide +kernel
theorem dX12_mean_73 : decode cX12_mean 73 = .ok (.if_icmp .ge 35, 3) := by decide +kernel
theorem dX12_mean_76 : decode cX12_mean 76 = .ok (.aload_n 0, 1) := by decide +kernel
theorem dX12_mean_77 : decode cX12_mean 77 = .ok (.iload_n 1, 1) := by decide +kernel
theorem dX12_mean_78 : decode cX12_mean 78 = .ok (.iload 5, 2) := by decide +kernel
theorem dX12_mean_80 : decode cX12_mean 80 = .ok (.iadd, 1) := by decide +kernel
theorem dX12_mean_81 : decode cX12_mean 81 = .ok (.invokevirtual 433, 3) := by decide +kernel
theorem dX12_mean_84 : decode cX12_mean 84 = .ok (.lload_n 3, 1) := by decide +kernel
theorem dX12_mean_85 : decode cX12_mean 85 = .ok (.aload_n 0, 1) := by decide +kernel
theorem dX12_mean_86 : decode cX12_mean 86 = .ok (.invokevirtual 259, 3) := by decide +kernel
theorem dX12_mean_89 : decode cX12_mean 89 = .ok (.invokestatic 333, 3) := by decide +kernel
theorem dX12_mean_92 : decode cX12_mean 92 = .ok (.i2l, 1) := by decide +kernel
theorem dX12_mean_93 : decode cX12_mean 93 = .ok (.ladd, 1) := by decide +kernel
theorem dX12_mean_94 : decode cX12_mean 94 = .ok (.lstore_n 3, 1) := by decide +kernel
theorem dX12_mean_95 : decode cX12_mean 95 = .ok (.aload_n 0, 1) := by decide +kernel
theorem dX12_mean_96 : decode cX12_mean 96 = .ok (.sipush 2020, 3) := by decide +kernel
theorem dX12_mean_99 : decode cX12_mean 99 = .ok (.invokevirtual 444, 3) := by decide +kernel
theorem dX12_mean_102 : decode cX12_mean 102 = .ok (.iinc 5 1, 3) := by decide +kernel
theorem dX12_mean_105 : decode cX12_mean 105 = .ok (.goto (-35), 3) := by decide +kernel
theorem dX12_mean_108 : decode cX12_mean 108 = .ok (.aload_n 0, 1) := by decide +kernel
theorem dX12_mean_109 : decode cX12_mean 109 = .ok (.lload_n 3, 1) := by decide +kernel
theorem dX12_mean_110 : decode cX12_mean 110 = .ok (.iload_n 2, 1) := by decide +kernel
theorem dX12_mean_111 : decode cX12_mean 111 = .ok (.i2l, 1) := by decide +kernel
theorem dX12_mean_112 : decode cX12_mean 112 = .ok (.invokevirtual 329, 3) := by decide +kernel
theorem dX12_mean_115 : decode cX12_mean 115 = .ok (.ireturn, 1) := by decide +kernel
noncomputable def Mo_mean_L70 (l1 : Int32) (l2 : Int32) (σ : St) (x3 : Int64) (x5 : Int32) : Option ((Int64 × Int32 × St) ⊕ (Int64 × St)) :=
  if l2 ≤ x5 then (some (.inr (x3, σ))) else (bd (Mo_lives σ (l1 + x5)) (fun σ17 => bd (Mo_onSet σ17) (fun r19 => bd (Mo_bits r19) (fun r21 => bnd ((x3 + r21.toInt64)) (fun v22 => bd (Mo_brings σ17 2020) (fun σ24 => bnd (x5 + 1) (fun v25 => some (.inl (v22, v25, σ24)))))))))
set_option maxRecDepth 100000 in
set_option maxHeartbeats 4000000 in
theorem tb_Mo_mean_L70 {V : Ev} {Γ : Cn} {fin : Option Value × St} {l1 : Int32} {l2 : Int32} {σ : St} {x3 : Int64} {x5 : Int32} {o : ((Int64 × Int32 × St) ⊕ (Int64 × St))} (X : Cx V Γ M_X12_mean) {A : ((Int64 × Int32 × St) ⊕ (Int64 × St)) → Prop}  (hb70 : ∀ (x3 : Int64) (x5 : Int32) (σ9 : St), A (.inl (x3, x5, σ9)) → Go V Γ M_X12_mean (Zm V Γ 7 fin) 70 [(0, .ref (V.2.2.1 + 92)), (1, .int l1), (2, .int l2), (3, .long x3), (5, .int x5)] [] σ9) (hx70 : ∀ (x3 : Int64) (σ9 : St), A (.inr (x3, σ9)) → Go V Γ M_X12_mean (Zm V Γ 7 fin) 108 [(0, .ref (V.2.2.1 + 92)), (2, .int l2), (3, .long x3)] [] σ9) (h : Mo_mean_L70 l1 l2 σ x3 x5 = some o) (hA : A o) : Go V Γ M_X12_mean (Zm V Γ 7 fin) 70 [(0, .ref (V.2.2.1 + 92)), (1, .int l1), (2, .int l2), (3, .long x3), (5, .int x5)] [] σ := by
  unfold Mo_mean_L70 at h
  refine g_iload (pc := 70) X 4 rfl dX12_mean_70 ?_
  refine g_iload_n (pc := 72) X 2 rfl dX12_mean_72 ?_
  refine g_icmp_ge (pc := 73) (tgt := 108) X dX12_mean_73 rfl (fun c26 => ?_) (fun c26 => ?_)
  · replace h := if_t c26 h
    refine g_sub [0, 2, 3] rfl ?_
    cases h
    exact hx70 _ _ hA
  · replace h := if_f c26 h
    refine g_aload_n (pc := 76) X 0 rfl dX12_mean_76 ?_
    refine g_iload_n (pc := 77) X 1 rfl dX12_mean_77 ?_
    refine g_iload (pc := 78) X 4 rfl dX12_mean_78 ?_
    refine g_iadd (pc := 80) X dX12_mean_80 ?_
    obtain ⟨σ17, hc16, h⟩ := bd_e h
    refine g_callV (pc := 81) X k_ml_X12_433 (run_Mo_lives  hc16) s_92 rfl (room_ok (Nat.le_of_ble_eq_true rfl) (Nat.le_of_ble_eq_true rfl)) ⟨Nat.le_refl _, Nat.le_refl _⟩ _ rfl (Nat.le_of_ble_eq_true rfl) dX12_mean_81 ?_
    show Go V Γ M_X12_mean (Zm V Γ 7 fin) 84 [(0, .ref (V.2.2.1 + 92)), (1, .int l1), (2, .int l2), (3, .long x3), (5, .int x5)] [] σ17
    refine g_lload_n (pc := 84) X 3 rfl dX12_mean_84 ?_
    refine g_aload_n (pc := 85) X 0 rfl dX12_mean_85 ?_
    obtain ⟨r19, hc18, h⟩ := bd_e h
    refine g_callV (pc := 86) X k_ml_X12_259 (run_Mo_onSet  hc18) s_92 rfl (room_ok (Nat.le_of_ble_eq_true rfl) (Nat.le_of_ble_eq_true rfl)) ⟨Nat.le_refl _, Nat.le_refl _⟩ _ rfl (Nat.le_of_ble_eq_true rfl) dX12_mean_86 ?_
    show Go V Γ M_X12_mean (Zm V Γ 7 fin) 89 [(0, .ref (V.2.2.1 + 92)), (1, .int l1), (2, .int l2), (3, .long x3), (5, .int x5)] [.int r19, .long x3] σ17
    obtain ⟨r21, hc20, h⟩ := bd_e h
    refine g_callS (pc := 89) X k_ml_X12_333 (run_Mo_bits  hc20) rfl (room_ok (Nat.le_of_ble_eq_true rfl) (Nat.le_of_ble_eq_true rfl)) ⟨Nat.le_refl _, Nat.le_refl _⟩ _ rfl (Nat.le_of_ble_eq_true rfl) dX12_mean_89 ?_
    show Go V Γ M_X12_mean (Zm V Γ 7 fin) 92 [(0, .ref (V.2.2.1 + 92)), (1, .int l1), (2, .int l2), (3, .long x3), (5, .int x5)] [.int r21, .long x3] σ17
    refine g_i2l (pc := 92) X dX12_mean_92 ?_
    refine g_ladd (pc := 93) X dX12_mean_93 ?_
    obtain ⟨v22, e_v22, h⟩ := bnd_e h
    refine g_nmL e_v22 ?_
    refine g_lstore_n (pc := 94) X [(3, .long v22), (0, .ref (V.2.2.1 + 92)), (1, .int l1), (2, .int l2), (5, .int x5)] rfl (Nat.le_of_ble_eq_true rfl) rfl dX12_mean_94 ?_
    refine g_aload_n (pc := 95) X 1 rfl dX12_mean_95 ?_
    refine g_sipush (v := 2020) (pc := 96) X (by decide) dX12_mean_96 ?_
    obtain ⟨σ24, hc23, h⟩ := bd_e h
    refine g_callV (pc := 99) X k_ml_X12_444 (run_Mo_brings  hc23) s_92 rfl (room_ok (Nat.le_of_ble_eq_true rfl) (Nat.le_of_ble_eq_true rfl)) ⟨Nat.le_refl _, Nat.le_refl _⟩ _ rfl (Nat.le_of_ble_eq_true rfl) dX12_mean_99 ?_
    show Go V Γ M_X12_mean (Zm V Γ 7 fin) 102 [(3, .long v22), (0, .ref (V.2.2.1 + 92)), (1, .int l1), (2, .int l2), (5, .int x5)] [] σ24
    obtain ⟨v25, e_v25, h⟩ := bnd_e h
    refine g_iinc (pc := 102) (v := v25) X [(5, .int v25), (3, .long v22), (0, .ref (V.2.2.1 + 92)), (1, .int l1), (2, .int l2)] 4 rfl (by rw [e_v25]; rfl) (Nat.le_of_ble_eq_true rfl) rfl dX12_mean_102 ?_
    refine g_goto (pc := 105) (tgt := 70) X dX12_mean_105 rfl ?_
    refine g_sub [2, 3, 4, 1, 0] rfl ?_
    cases h
    exact hb70 _ _ _ hA
set_option maxRecDepth 100000 in
theorem tl_Mo_mean_L70 {V : Ev} {Γ : Cn} {fin : Option Value × St} {l1 : Int32} {l2 : Int32} {x3 : Int64} {x5 : Int32} {σ9 : St} (X : Cx V Γ M_X12_mean)  {y3 : Int64} {σ8 : St} {n : Nat} (h : iter (fun s : (Int64 × Int32 × St) => Mo_mean_L70 l1 l2 s.2.2 s.1 s.2.1) n (x3, x5, σ9) = some (y3, σ8)) (hK : Go V Γ M_X12_mean (Zm V Γ 7 fin) 108 [(0, .ref (V.2.2.1 + 92)), (2, .int l2), (3, .long y3)] [] σ8) : Go V Γ M_X12_mean (Zm V Γ 7 fin) 70 [(0, .ref (V.2.2.1 + 92)), (1, .int l1), (2, .int l2), (3, .long x3), (5, .int x5)] [] σ9 := by
  refine iter_go (G := (fun s : (Int64 × Int32 × St) => Go V Γ M_X12_mean (Zm V Γ 7 fin) 70 [(0, .ref (V.2.2.1 + 92)), (1, .int l1), (2, .int l2), (3, .long s.1), (5, .int s.2.1)] [] s.2.2)) (fun s o ho hS => ?_) n (x3, x5, σ9) h
  exact tb_Mo_mean_L70 X  (fun _ _ _ h9 => h9) (fun _ _ he => by cases he; exact hK) ho hS
noncomputable def Mo_mean (σ : St) (p1 : Int32) (p2 : Int32) : Option (Int32 × St) :=
  bd (Mo_isFrom p1.toInt64 0 9999) (fun r2 => if r2 = 0 then (bd2 (Mo_is σ 1) (fun r4 σ5 => chk (ckz r4) (some (r4, σ5)))) else (bd (Mo_isFrom p2.toInt64 1 20) (fun r8 => if r8 = 0 then (bd2 (Mo_is σ 1) (fun r10 σ11 => chk (ckz r10) (some (r10, σ11)))) else (if ((p1 + p2) - 1) ≤ 9999 then (chk (ix 2 2060) (if (σ.1 93 (tn 2)) = (-1) then (bd2 (Mo_is σ 6) (fun r35 σ36 => chk (ckz r35) (some (r35, σ36)))) else (bd (Mo_keeps σ 2020) (fun σ15 => bd2 (iter (fun s : (Int64 × Int32 × St) => Mo_mean_L70 p1 p2 s.2.2 s.1 s.2.1) FUEL (0, 0, σ15)) (fun v27 σ28 => bd2 (Mo_tellsBy σ28 v27 p2.toInt64) (fun r31 σ32 => chk (ckz r31) (some (r31, σ32)))))))) else (bd2 (Mo_is σ 1) (fun r40 σ41 => chk (ckz r40) (some (r40, σ41))))))))
set_option maxRecDepth 100000 in
set_option maxHeartbeats 4000000 in
theorem tm_Mo_mean {V : Ev} {Γ : Cn} {fin : Option Value × St} {σ : St} {p1 : Int32} {p2 : Int32} {o : (Int32 × St)} (X : Cx V Γ M_X12_mean) {A : (Int32 × St) → Prop}  (hr : ∀ (r : Int32) (σ9 : St), A (r, σ9) → (some (.int r), σ9) = fin) (h : Mo_mean σ p1 p2 = some o) (hA : A o) : Go V Γ M_X12_mean (Zm V Γ 7 fin) 0 [(0, .ref (V.2.2.1 + 92)), (1, .int p1), (2, .int p2)] [] σ := by
  unfold Mo_mean at h
  refine g_iload_n (pc := 0) X 1 rfl dX12_mean_0 ?_
  refine g_i2l (pc := 1) X dX12_mean_1 ?_
  refine g_lconst (v := 0) (pc := 2) X rfl dX12_mean_2 ?_
  refine g_ldc2 (v := 9999) (pc := 3) X k_constl_X12_289 dX12_mean_3 ?_
  obtain ⟨r2, hc1, h⟩ := bd_e h
  refine g_callS (pc := 6) X k_ml_X12_270 (run_Mo_isFrom  hc1) rfl (room_ok (Nat.le_of_ble_eq_true rfl) (Nat.le_of_ble_eq_true rfl)) ⟨Nat.le_refl _, Nat.le_refl _⟩ _ rfl (Nat.le_of_ble_eq_true rfl) dX12_mean_6 ?_
  show Go V Γ M_X12_mean (Zm V Γ 7 fin) 9 [(0, .ref (V.2.2.1 + 92)), (1, .int p1), (2, .int p2)] [.int r2] σ
  refine g_if_eq (pc := 9) (tgt := 35) X dX12_mean_9 rfl (fun c45 => ?_) (fun c45 => ?_)
  · replace h := if_t c45 h
    refine g_aload_n (pc := 35) X 0 rfl dX12_mean_35 ?_
    refine g_iconst (v := 1) (pc := 36) X rfl dX12_mean_36 ?_
    obtain ⟨r4, σ5, hc3, h⟩ := bd2_e h
    refine g_callV (pc := 37) X k_ml_X12_95 (run_Mo_is  hc3) s_92 rfl (room_ok (Nat.le_of_ble_eq_true rfl) (Nat.le_of_ble_eq_true rfl)) ⟨Nat.le_refl _, Nat.le_refl _⟩ _ rfl (Nat.le_of_ble_eq_true rfl) dX12_mean_37 ?_
    show Go V Γ M_X12_mean (Zm V Γ 7 fin) 40 [(0, .ref (V.2.2.1 + 92)), (1, .int p1), (2, .int p2)] [.int r4] σ5
    obtain ⟨c6, h⟩ := chk_e h
    cases h
    exact g_iret (pc := 40) X rfl (ckz_e c6).1 (hr _ _ hA) dX12_mean_40
  · replace h := if_f c45 h
    refine g_iload_n (pc := 12) X 2 rfl dX12_mean_12 ?_
    refine g_i2l (pc := 13) X dX12_mean_13 ?_
    refine g_lconst (v := 1) (pc := 14) X rfl dX12_mean_14 ?_
    refine g_ldc2 (v := 20) (pc := 15) X k_constl_X12_439 dX12_mean_15 ?_
    obtain ⟨r8, hc7, h⟩ := bd_e h
    refine g_callS (pc := 18) X k_ml_X12_270 (run_Mo_isFrom  hc7) rfl (room_ok (Nat.le_of_ble_eq_true rfl) (Nat.le_of_ble_eq_true rfl)) ⟨Nat.le_refl _, Nat.le_refl _⟩ _ rfl (Nat.le_of_ble_eq_true rfl) dX12_mean_18 ?_
    show Go V Γ M_X12_mean (Zm V Γ 7 fin) 21 [(0, .ref (V.2.2.1 + 92)), (1, .int p1), (2, .int p2)] [.int r8] σ
    refine g_if_eq (pc := 21) (tgt := 35) X dX12_mean_21 rfl (fun c44 => ?_) (fun c44 => ?_)
    · replace h := if_t c44 h
      refine g_aload_n (pc := 35) X 0 rfl dX12_mean_35 ?_
      refine g_iconst (v := 1) (pc := 36) X rfl dX12_mean_36 ?_
      obtain ⟨r10, σ11, hc9, h⟩ := bd2_e h
      refine g_callV (pc := 37) X k_ml_X12_95 (run_Mo_is  hc9) s_92 rfl (room_ok (Nat.le_of_ble_eq_true rfl) (Nat.le_of_ble_eq_true rfl)) ⟨Nat.le_refl _, Nat.le_refl _⟩ _ rfl (Nat.le_of_ble_eq_true rfl) dX12_mean_37 ?_
      show Go V Γ M_X12_mean (Zm V Γ 7 fin) 40 [(0, .ref (V.2.2.1 + 92)), (1, .int p1), (2, .int p2)] [.int r10] σ11
      obtain ⟨c12, h⟩ := chk_e h
      cases h
      exact g_iret (pc := 40) X rfl (ckz_e c12).1 (hr _ _ hA) dX12_mean_40
    · replace h := if_f c44 h
      refine g_iload_n (pc := 24) X 1 rfl dX12_mean_24 ?_
      refine g_iload_n (pc := 25) X 2 rfl dX12_mean_25 ?_
      refine g_iadd (pc := 26) X dX12_mean_26 ?_
      refine g_iconst (v := 1) (pc := 27) X rfl dX12_mean_27 ?_
      refine g_isub (pc := 28) X dX12_mean_28 ?_
      refine g_sipush (v := 9999) (pc := 29) X (by decide) dX12_mean_29 ?_
      refine g_icmp_le (pc := 32) (tgt := 41) X dX12_mean_32 rfl (fun c43 => ?_) (fun c43 => ?_)
      · replace h := if_t c43 h
        refine g_aload_n (pc := 41) X 0 rfl dX12_mean_41 ?_
        refine g_getR (r := 93) (pc := 42) X k_fl_X12_7 s_92 rfl dX12_mean_42 ?_
        refine g_iconst (v := 2) (pc := 45) X rfl dX12_mean_45 ?_
        obtain ⟨c13, h⟩ := chk_e h
        refine g_iald (pc := 46) X s_93 c13 dX12_mean_46 ?_
        refine g_iconst (v := (-1)) (pc := 47) X rfl dX12_mean_47 ?_
        refine g_icmp_ne (pc := 48) (tgt := 58) X dX12_mean_48 rfl (fun c38 => ?_) (fun c38 => ?_)
        · replace h := if_f c38 h
          refine g_aload_n (pc := 58) X 0 rfl dX12_mean_58 ?_
          refine g_sipush (v := 2020) (pc := 59) X (by decide) dX12_mean_59 ?_
          obtain ⟨σ15, hc14, h⟩ := bd_e h
          refine g_callV (pc := 62) X k_ml_X12_441 (run_Mo_keeps  hc14) s_92 rfl (room_ok (Nat.le_of_ble_eq_true rfl) (Nat.le_of_ble_eq_true rfl)) ⟨Nat.le_refl _, Nat.le_refl _⟩ _ rfl (Nat.le_of_ble_eq_true rfl) dX12_mean_62 ?_
          show Go V Γ M_X12_mean (Zm V Γ 7 fin) 65 [(0, .ref (V.2.2.1 + 92)), (1, .int p1), (2, .int p2)] [] σ15
          refine g_lconst (v := 0) (pc := 65) X rfl dX12_mean_65 ?_
          refine g_lstore_n (pc := 66) X [(3, .long 0), (0, .ref (V.2.2.1 + 92)), (1, .int p1), (2, .int p2)] rfl (Nat.le_of_ble_eq_true rfl) rfl dX12_mean_66 ?_
          refine g_iconst (v := 0) (pc := 67) X rfl dX12_mean_67 ?_
          refine g_istore (pc := 68) X [(5, .int 0), (3, .long 0), (0, .ref (V.2.2.1 + 92)), (1, .int p1), (2, .int p2)] (Nat.le_of_ble_eq_true rfl) rfl dX12_mean_68 ?_
          refine g_sub [2, 3, 4, 1, 0] rfl ?_
          obtain ⟨v27, σ28, hi29, h⟩ := bd2_e h
          refine tl_Mo_mean_L70 X  hi29 ?_
          refine g_aload_n (pc := 108) X 0 rfl dX12_mean_108 ?_
          refine g_lload_n (pc := 109) X 2 rfl dX12_mean_109 ?_
          refine g_iload_n (pc := 110) X 1 rfl dX12_mean_110 ?_
          refine g_i2l (pc := 111) X dX12_mean_111 ?_
          obtain ⟨r31, σ32, hc30, h⟩ := bd2_e h
          refine g_callV (pc := 112) X k_ml_X12_329 (run_Mo_tellsBy  hc30) s_92 rfl (room_ok (Nat.le_of_ble_eq_true rfl) (Nat.le_of_ble_eq_true rfl)) ⟨Nat.le_refl _, Nat.le_refl _⟩ _ rfl (Nat.le_of_ble_eq_true rfl) dX12_mean_112 ?_
          show Go V Γ M_X12_mean (Zm V Γ 7 fin) 115 [(0, .ref (V.2.2.1 + 92)), (2, .int p2), (3, .long v27)] [.int r31] σ32
          obtain ⟨c33, h⟩ := chk_e h
          cases h
          exact g_iret (pc := 115) X rfl (ckz_e c33).1 (hr _ _ hA) dX12_mean_115
        · replace h := if_t c38 h
          refine g_aload_n (pc := 51) X 0 rfl dX12_mean_51 ?_
          refine g_bipush (v := 6) (pc := 52) X (by decide) dX12_mean_52 ?_
          obtain ⟨r35, σ36, hc34, h⟩ := bd2_e h
          refine g_callV (pc := 54) X k_ml_X12_95 (run_Mo_is  hc34) s_92 rfl (room_ok (Nat.le_of_ble_eq_true rfl) (Nat.le_of_ble_eq_true rfl)) ⟨Nat.le_refl _, Nat.le_refl _⟩ _ rfl (Nat.le_of_ble_eq_true rfl) dX12_mean_54 ?_
          show Go V Γ M_X12_mean (Zm V Γ 7 fin) 57 [(0, .ref (V.2.2.1 + 92)), (1, .int p1), (2, .int p2)] [.int r35] σ36
          obtain ⟨c37, h⟩ := chk_e h
          cases h
          exact g_iret (pc := 57) X rfl (ckz_e c37).1 (hr _ _ hA) dX12_mean_57
      · replace h := if_f c43 h
        refine g_aload_n (pc := 35) X 0 rfl dX12_mean_35 ?_
        refine g_iconst (v := 1) (pc := 36) X rfl dX12_mean_36 ?_
        obtain ⟨r40, σ41, hc39, h⟩ := bd2_e h
        refine g_callV (pc := 37) X k_ml_X12_95 (run_Mo_is  hc39) s_92 rfl (room_ok (Nat.le_of_ble_eq_true rfl) (Nat.le_of_ble_eq_true rfl)) ⟨Nat.le_refl _, Nat.le_refl _⟩ _ rfl (Nat.le_of_ble_eq_true rfl) dX12_mean_37 ?_
        show Go V Γ M_X12_mean (Zm V Γ 7 fin) 40 [(0, .ref (V.2.2.1 + 92)), (1, .int p1), (2, .int p2)] [.int r40] σ41
        obtain ⟨c42, h⟩ := chk_e h
        cases h
        exact g_iret (pc := 40) X rfl (ckz_e c42).1 (hr _ _ hA) dX12_mean_40
set_option maxRecDepth 100000 in
theorem run_Mo_mean {V : Ev} {σ : St} {p1 : Int32} {p2 : Int32} {o : (Int32 × St)}   (h : Mo_mean σ p1 p2 = some o) : Rs V 7 M_X12_mean [.ref (V.2.2.1 + 92), .int p1, .int p2] σ (some (.int o.1), o.2) := by
  refine Rs.of (by decide +kernel) (Nat.le_of_ble_eq_true rfl) (fun Γ X => ?_)
  exact tm_Mo_mean X (A := fun o1 => o1 = o)  (fun _ _ e => by rw [← e]) h rfl
theorem dX12_copies_0 : decode cX12_copies 0 = .ok (.iconst 0, 1) := by decide +kernel
theorem dX12_copies_1 : decode cX12_copies 1 = .ok (.istore_n 3, 1) := by decide +kernel
theorem dX12_copies_2 : decode cX12_copies 2 = .ok (.iload_n 3, 1) := by decide +kernel
theorem dX12_copies_3 : decode cX12_copies 3 = .ok (.sipush 404, 3) := by decide +kernel
theorem dX12_copies_6 : decode cX12_copies 6 = .ok (.if_icmp .ge 33, 3) := by decide +kernel
theorem dX12_copies_9 : decode cX12_copies 9 = .ok (.aload_n 0, 1) := by decide +kernel
theorem dX12_copies_10 : decode cX12_copies 10 = .ok (.getfield 7, 3) := by decide +kernel
theorem dX12_copies_13 : decode cX12_copies 13 = .ok (.sipush 404, 3) := by decide +kernel
theorem dX12_copies_16 : decode cX12_copies 16 = .ok (.iload_n 2, 1) := by decide +kernel
theorem dX12_copies_17 : decode cX12_copies 17 = .ok (.imul, 1) := by decide +kernel
theorem dX12_copies_18 : decode cX12_copies 18 = .ok (.iload_n 3, 1) := by decide +kernel
theorem dX12_copies_19 : decode cX12_copies 19 = .ok (.iadd, 1) := by decide +kernel
theorem dX12_copies_20 : decode cX12_copies 20 = .ok (.aload_n 0, 1) := by decide +kernel
theorem dX12_copies_21 : decode cX12_copies 21 = .ok (.getfield 7, 3) := by decide +kernel
theorem dX12_copies_24 : decode cX12_copies 24 = .ok (.sipush 404, 3) := by decide +kernel
theorem dX12_copies_27 : decode cX12_copies 27 = .ok (.iload_n 1, 1) := by decide +kernel
theorem dX12_copies_28 : decode cX12_copies 28 = .ok (.imul, 1) := by decide +kernel
theorem dX12_copies_29 : decode cX12_copies 29 = .ok (.iload_n 3, 1) := by decide +kernel
theorem dX12_copies_30 : decode cX12_copies 30 = .ok (.iadd, 1) := by decide +kernel
theorem dX12_copies_31 : decode cX12_copies 31 = .ok (.iaload, 1) := by decide +kernel
theorem dX12_copies_32 : decode cX12_copies 32 = .ok (.iastore, 1) := by decide +kernel
theorem dX12_copies_33 : decode cX12_copies 33 = .ok (.iinc 3 1, 3) := by decide +kernel
theorem dX12_copies_36 : decode cX12_copies 36 = .ok (.goto (-34), 3) := by decide +kernel
theorem dX12_copies_39 : decode cX12_copies 39 = .ok (.iconst 0, 1) := by decide +kernel
theorem dX12_copies_40 : decode cX12_copies 40 = .ok (.istore_n 3, 1) := by decide +kernel
theorem dX12_copies_41 : decode cX12_copies 41 = .ok (.iload_n 3, 1) := by decide +kernel
theorem dX12_copies_42 : decode cX12_copies 42 = .ok (.bipush 12, 2) := by decide +kernel
theorem dX12_copies_44 : decode cX12_copies 44 = .ok (.if_icmp .ge 31, 3) := by decide +kernel
theorem dX12_copies_47 : decode cX12_copies 47 = .ok (.aload_n 0, 1) := by decide +kernel
theorem dX12_copies_48 : decode cX12_copies 48 = .ok (.getfield 13, 3) := by decide +kernel
theorem dX12_copies_51 : decode cX12_copies 51 = .ok (.bipush 12, 2) := by decide +kernel
theorem dX12_copies_53 : decode cX12_copies 53 = .ok (.iload_n 2, 1) := by decide +kernel
theorem dX12_copies_54 : decode cX12_copies 54 = .ok (.imul, 1) := by decide +kernel
theorem dX12_copies_55 : decode cX12_copies 55 = .ok (.iload_n 3, 1) := by decide +kernel
theorem dX12_copies_56 : decode cX12_copies 56 = .ok (.iadd, 1) := by decide +kernel
theorem dX12_copies_57 : decode cX12_copies 57 = .ok (.aload_n 0, 1) := by decide +kernel
theorem dX12_copies_58 : decode cX12_copies 58 = .ok (.getfield 13, 3) := by decide +kernel
theorem dX12_copies_61 : decode cX12_copies 61 = .ok (.bipush 12, 2) := by decide +kernel
theorem dX12_copies_63 : decode cX12_copies 63 = .ok (.iload_n 1, 1) := by decide +kernel
theorem dX12_copies_64 : decode cX12_copies 64 = .ok (.imul, 1) := by decide +kernel
theorem dX12_copies_65 : decode cX12_copies 65 = .ok (.iload_n 3, 1) := by decide +kernel
theorem dX12_copies_66 : decode cX12_copies 66 = .ok (.iadd, 1) := by decide +kernel
theorem dX12_copies_67 : decode cX12_copies 67 = .ok (.laload, 1) := by decide +kernel
theorem dX12_copies_68 : decode cX12_copies 68 = .ok (.lastore, 1) := by decide +kernel
theorem dX12_copies_69 : decode cX12_copies 69 = .ok (.iinc 3 1, 3) := by decide +kernel
theorem dX12_copies_72 : decode cX12_copies 72 = .ok (.goto (-31), 3) := by decide +kernel
theorem dX12_copies_75 : decode cX12_copies 75 = .ok (.return_, 1) := by decide +kernel
noncomputable def Mo_copies_L2 (l1 : Int32) (l2 : Int32) (σ : St) (x3 : Int32) : Option ((Int32 × St) ⊕ St) :=
  if 404 ≤ x3 then (some (.inr σ)) else (chk (ix ((404 * l1) + x3) 2060) (chk (ix ((404 * l2) + x3) 2060) (bnd (wI σ 93 (tn ((404 * l2) + x3)) (σ.1 93 (tn ((404 * l1) + x3)))) (fun σ3 => bnd (x3 + 1) (fun v4 => some (.inl (v4, σ3)))))))
set_option maxRecDepth 100000 in
set_option maxHeartbeats 4000000 in
theorem tb_Mo_copies_L2 {V : Ev} {Γ : Cn} {fin : Option Value × St} {l1 : Int32} {l2 : Int32} {σ : St} {x3 : Int32} {o : ((Int32 × St) ⊕ St)} (X : Cx V Γ M_X12_copies) {A : ((Int32 × St) ⊕ St) → Prop}  (hb2 : ∀ (x3 : Int32) (σ9 : St), A (.inl (x3, σ9)) → Go V Γ M_X12_copies (Zm V Γ 0 fin) 2 [(0, .ref (V.2.2.1 + 92)), (1, .int l1), (2, .int l2), (3, .int x3)] [] σ9) (hx2 : ∀ (σ9 : St), A (.inr σ9) → Go V Γ M_X12_copies (Zm V Γ 0 fin) 39 [(0, .ref (V.2.2.1 + 92)), (1, .int l1), (2, .int l2)] [] σ9) (h : Mo_copies_L2 l1 l2 σ x3 = some o) (hA : A o) : Go V Γ M_X12_copies (Zm V Γ 0 fin) 2 [(0, .ref (V.2.2.1 + 92)), (1, .int l1), (2, .int l2), (3, .int x3)] [] σ := by
  unfold Mo_copies_L2 at h
  refine g_iload_n (pc := 2) X 3 rfl dX12_copies_2 ?_
  refine g_sipush (v := 404) (pc := 3) X (by decide) dX12_copies_3 ?_
  refine g_icmp_ge (pc := 6) (tgt := 39) X dX12_copies_6 rfl (fun c5 => ?_) (fun c5 => ?_)
  · replace h := if_t c5 h
    refine g_sub [0, 1, 2] rfl ?_
    cases h
    exact hx2 _ hA
  · replace h := if_f c5 h
    refine g_aload_n (pc := 9) X 0 rfl dX12_copies_9 ?_
    refine g_getR (r := 93) (pc := 10) X k_fl_X12_7 s_92 rfl dX12_copies_10 ?_
    refine g_sipush (v := 404) (pc := 13) X (by decide) dX12_copies_13 ?_
    refine g_iload_n (pc := 16) X 2 rfl dX12_copies_16 ?_
    refine g_imul (pc := 17) X dX12_copies_17 ?_
    refine g_iload_n (pc := 18) X 3 rfl dX12_copies_18 ?_
    refine g_iadd (pc := 19) X dX12_copies_19 ?_
    refine g_aload_n (pc := 20) X 0 rfl dX12_copies_20 ?_
    refine g_getR (r := 93) (pc := 21) X k_fl_X12_7 s_92 rfl dX12_copies_21 ?_
    refine g_sipush (v := 404) (pc := 24) X (by decide) dX12_copies_24 ?_
    refine g_iload_n (pc := 27) X 1 rfl dX12_copies_27 ?_
    refine g_imul (pc := 28) X dX12_copies_28 ?_
    refine g_iload_n (pc := 29) X 3 rfl dX12_copies_29 ?_
    refine g_iadd (pc := 30) X dX12_copies_30 ?_
    obtain ⟨c1, h⟩ := chk_e h
    refine g_iald (pc := 31) X s_93 c1 dX12_copies_31 ?_
    obtain ⟨c2, h⟩ := chk_e h
    refine g_iast (pc := 32) X s_93 c2 dX12_copies_32 ?_
    obtain ⟨σ3, e_σ3, h⟩ := bnd_e h
    refine g_nmS e_σ3 ?_
    obtain ⟨v4, e_v4, h⟩ := bnd_e h
    refine g_iinc (pc := 33) (v := v4) X [(3, .int v4), (0, .ref (V.2.2.1 + 92)), (1, .int l1), (2, .int l2)] 3 rfl (by rw [e_v4]; rfl) (Nat.le_of_ble_eq_true rfl) rfl dX12_copies_33 ?_
    refine g_goto (pc := 36) (tgt := 2) X dX12_copies_36 rfl ?_
    refine g_sub [1, 2, 3, 0] rfl ?_
    cases h
    exact hb2 _ _ hA
set_option maxRecDepth 100000 in
theorem tl_Mo_copies_L2 {V : Ev} {Γ : Cn} {fin : Option Value × St} {l1 : Int32} {l2 : Int32} {x3 : Int32} {σ9 : St} (X : Cx V Γ M_X12_copies)  {σ8 : St} {n : Nat} (h : iter (fun s : (Int32 × St) => Mo_copies_L2 l1 l2 s.2 s.1) n (x3, σ9) = some σ8) (hK : Go V Γ M_X12_copies (Zm V Γ 0 fin) 39 [(0, .ref (V.2.2.1 + 92)), (1, .int l1), (2, .int l2)] [] σ8) : Go V Γ M_X12_copies (Zm V Γ 0 fin) 2 [(0, .ref (V.2.2.1 + 92)), (1, .int l1), (2, .int l2), (3, .int x3)] [] σ9 := by
  refine iter_go (G := (fun s : (Int32 × St) => Go V Γ M_X12_copies (Zm V Γ 0 fin) 2 [(0, .ref (V.2.2.1 + 92)), (1, .int l1), (2, .int l2), (3, .int s.1)] [] s.2)) (fun s o ho hS => ?_) n (x3, σ9) h
  exact tb_Mo_copies_L2 X  (fun _ _ h9 => h9) (fun _ he => by cases he; exact hK) ho hS
noncomputable def Mo_copies_L41 (l1 : Int32) (l2 : Int32) (σ : St) (x3 : Int32) : Option ((Int32 × St) ⊕ St) :=
  if 12 ≤ x3 then (some (.inr σ)) else (chk (ix ((12 * l1) + x3) 60) (chk (ix ((12 * l2) + x3) 60) (bnd (wL σ 94 (tn ((12 * l2) + x3)) (σ.2 94 (tn ((12 * l1) + x3)))) (fun σ10 => bnd (x3 + 1) (fun v11 => some (.inl (v11, σ10)))))))
set_option maxRecDepth 100000 in
set_option maxHeartbeats 4000000 in
theorem tb_Mo_copies_L41 {V : Ev} {Γ : Cn} {fin : Option Value × St} {l1 : Int32} {l2 : Int32} {σ : St} {x3 : Int32} {o : ((Int32 × St) ⊕ St)} (X : Cx V Γ M_X12_copies) {A : ((Int32 × St) ⊕ St) → Prop}  (hb41 : ∀ (x3 : Int32) (σ9 : St), A (.inl (x3, σ9)) → Go V Γ M_X12_copies (Zm V Γ 0 fin) 41 [(0, .ref (V.2.2.1 + 92)), (1, .int l1), (2, .int l2), (3, .int x3)] [] σ9) (hx41 : ∀ (σ9 : St), A (.inr σ9) → Go V Γ M_X12_copies (Zm V Γ 0 fin) 75 [] [] σ9) (h : Mo_copies_L41 l1 l2 σ x3 = some o) (hA : A o) : Go V Γ M_X12_copies (Zm V Γ 0 fin) 41 [(0, .ref (V.2.2.1 + 92)), (1, .int l1), (2, .int l2), (3, .int x3)] [] σ := by
  unfold Mo_copies_L41 at h
  refine g_iload_n (pc := 41) X 3 rfl dX12_copies_41 ?_
  refine g_bipush (v := 12) (pc := 42) X (by decide) dX12_copies_42 ?_
  refine g_icmp_ge (pc := 44) (tgt := 75) X dX12_copies_44 rfl (fun c12 => ?_) (fun c12 => ?_)
  · replace h := if_t c12 h
    refine g_sub [] rfl ?_
    cases h
    exact hx41 _ hA
  · replace h := if_f c12 h
    refine g_aload_n (pc := 47) X 0 rfl dX12_copies_47 ?_
    refine g_getR (r := 94) (pc := 48) X k_fl_X12_13 s_92 rfl dX12_copies_48 ?_
    refine g_bipush (v := 12) (pc := 51) X (by decide) dX12_copies_51 ?_
    refine g_iload_n (pc := 53) X 2 rfl dX12_copies_53 ?_
    refine g_imul (pc := 54) X dX12_copies_54 ?_
    refine g_iload_n (pc := 55) X 3 rfl dX12_copies_55 ?_
    refine g_iadd (pc := 56) X dX12_copies_56 ?_
    refine g_aload_n (pc := 57) X 0 rfl dX12_copies_57 ?_
    refine g_getR (r := 94) (pc := 58) X k_fl_X12_13 s_92 rfl dX12_copies_58 ?_
    refine g_bipush (v := 12) (pc := 61) X (by decide) dX12_copies_61 ?_
    refine g_iload_n (pc := 63) X 1 rfl dX12_copies_63 ?_
    refine g_imul (pc := 64) X dX12_copies_64 ?_
    refine g_iload_n (pc := 65) X 3 rfl dX12_copies_65 ?_
    refine g_iadd (pc := 66) X dX12_copies_66 ?_
    obtain ⟨c8, h⟩ := chk_e h
    refine g_lald (pc := 67) X s_94 c8 dX12_copies_67 ?_
    obtain ⟨c9, h⟩ := chk_e h
    refine g_last (pc := 68) X s_94 c9 dX12_copies_68 ?_
    obtain ⟨σ10, e_σ10, h⟩ := bnd_e h
    refine g_nmS e_σ10 ?_
    obtain ⟨v11, e_v11, h⟩ := bnd_e h
    refine g_iinc (pc := 69) (v := v11) X [(3, .int v11), (0, .ref (V.2.2.1 + 92)), (1, .int l1), (2, .int l2)] 3 rfl (by rw [e_v11]; rfl) (Nat.le_of_ble_eq_true rfl) rfl dX12_copies_69 ?_
    refine g_goto (pc := 72) (tgt := 41) X dX12_copies_72 rfl ?_
    refine g_sub [1, 2, 3, 0] rfl ?_
    cases h
    exact hb41 _ _ hA
set_option maxRecDepth 100000 in
theorem tl_Mo_copies_L41 {V : Ev} {Γ : Cn} {fin : Option Value × St} {l1 : Int32} {l2 : Int32} {x3 : Int32} {σ9 : St} (X : Cx V Γ M_X12_copies)  {σ8 : St} {n : Nat} (h : iter (fun s : (Int32 × St) => Mo_copies_L41 l1 l2 s.2 s.1) n (x3, σ9) = some σ8) (hK : Go V Γ M_X12_copies (Zm V Γ 0 fin) 75 [] [] σ8) : Go V Γ M_X12_copies (Zm V Γ 0 fin) 41 [(0, .ref (V.2.2.1 + 92)), (1, .int l1), (2, .int l2), (3, .int x3)] [] σ9 := by
  refine iter_go (G := (fun s : (Int32 × St) => Go V Γ M_X12_copies (Zm V Γ 0 fin) 41 [(0, .ref (V.2.2.1 + 92)), (1, .int l1), (2, .int l2), (3, .int s.1)] [] s.2)) (fun s o ho hS => ?_) n (x3, σ9) h
  exact tb_Mo_copies_L41 X  (fun _ _ h9 => h9) (fun _ he => by cases he; exact hK) ho hS
noncomputable def Mo_copies (σ : St) (p1 : Int32) (p2 : Int32) : Option St :=
  bd (iter (fun s : (Int32 × St) => Mo_copies_L2 p1 p2 s.2 s.1) FUEL (0, σ)) (fun σ6 => bd (iter (fun s : (Int32 × St) => Mo_copies_L41 p1 p2 s.2 s.1) FUEL (0, σ6)) (fun σ13 => some σ13))
set_option maxRecDepth 100000 in
set_option maxHeartbeats 4000000 in
theorem tm_Mo_copies {V : Ev} {Γ : Cn} {fin : Option Value × St} {σ : St} {p1 : Int32} {p2 : Int32} {o : St} (X : Cx V Γ M_X12_copies) {A : St → Prop}  (hr : ∀ (σ9 : St), A σ9 → (none, σ9) = fin) (h : Mo_copies σ p1 p2 = some o) (hA : A o) : Go V Γ M_X12_copies (Zm V Γ 0 fin) 0 [(0, .ref (V.2.2.1 + 92)), (1, .int p1), (2, .int p2)] [] σ := by
  unfold Mo_copies at h
  refine g_iconst (v := 0) (pc := 0) X rfl dX12_copies_0 ?_
  refine g_istore_n (pc := 1) X [(3, .int 0), (0, .ref (V.2.2.1 + 92)), (1, .int p1), (2, .int p2)] rfl (Nat.le_of_ble_eq_true rfl) rfl dX12_copies_1 ?_
  refine g_sub [1, 2, 3, 0] rfl ?_
  obtain ⟨σ6, hi7, h⟩ := bd_e h
  refine tl_Mo_copies_L2 X  hi7 ?_
  refine g_iconst (v := 0) (pc := 39) X rfl dX12_copies_39 ?_
  refine g_istore_n (pc := 40) X [(3, .int 0), (0, .ref (V.2.2.1 + 92)), (1, .int p1), (2, .int p2)] rfl (Nat.le_of_ble_eq_true rfl) rfl dX12_copies_40 ?_
  refine g_sub [1, 2, 3, 0] rfl ?_
  obtain ⟨σ13, hi14, h⟩ := bd_e h
  refine tl_Mo_copies_L41 X  hi14 ?_
  cases h
  exact g_vret (pc := 75) X rfl (hr _ hA) dX12_copies_75
set_option maxRecDepth 100000 in
theorem run_Mo_copies {V : Ev} {σ : St} {p1 : Int32} {p2 : Int32} {o : St}   (h : Mo_copies σ p1 p2 = some o) : Rs V 0 M_X12_copies [.ref (V.2.2.1 + 92), .int p1, .int p2] σ (none, o) := by
  refine Rs.of (by decide +kernel) (Nat.le_of_ble_eq_true rfl) (fun Γ X => ?_)
  exact tm_Mo_copies X (A := fun o1 => o1 = o)  (fun _ e => by rw [e]) h rfl
theorem dX12_mark_0 : decode cX12_mark 0 = .ok (.aload_n 0, 1) := by decide +kernel
theorem dX12_mark_1 : decode cX12_mark 1 = .ok (.getfield 447, 3) := by decide +kernel
theorem dX12_mark_4 : decode cX12_mark 4 = .ok (.iconst 3, 1) := by decide +kernel
theorem dX12_mark_5 : decode cX12_mark 5 = .ok (.if_icmp .ne 9, 3) := by decide +kernel
theorem dX12_mark_8 : decode cX12_mark 8 = .ok (.aload_n 0, 1) := by decide +kernel
theorem dX12_mark_9 : decode cX12_mark 9 = .ok (.iconst 4, 1) := by decide +kernel
theorem dX12_mark_10 : decode cX12_mark 10 = .ok (.invokevirtual 88, 3) := by decide +kernel
theorem dX12_mark_13 : decode cX12_mark 13 = .ok (.ireturn, 1) := by decide +kernel
theorem dX12_mark_14 : decode cX12_mark 14 = .ok (.aload_n 0, 1) := by decide +kernel
theorem dX12_mark_15 : decode cX12_mark 15 = .ok (.dup, 1) := by decide +kernel
theorem dX12_mark_16 : decode cX12_mark 16 = .ok (.getfield 447, 3) := by decide +kernel
theorem dX12_mark_19 : decode cX12_mark 19 = .ok (.iconst 1, 1) := by decide +kernel
theorem dX12_mark_20 : decode cX12_mark 20 = .ok (.iadd, 1) := by decide +kernel
theorem dX12_mark_21 : decode cX12_mark 21 = .ok (.putfield 447, 3) := by decide +kernel
theorem dX12_mark_24 : decode cX12_mark 24 = .ok (.aload_n 0, 1) := by decide +kernel
theorem dX12_mark_25 : decode cX12_mark 25 = .ok (.iconst 0, 1) := by decide +kernel
theorem dX12_mark_26 : decode cX12_mark 26 = .ok (.aload_n 0, 1) := by decide +kernel
theorem dX12_mark_27 : decode cX12_mark 27 = .ok (.getfield 447, 3) := by decide +kernel
theorem dX12_mark_30 : decode cX12_mark 30 = .ok (.invokevirtual 450, 3) := by decide +kernel
theorem dX12_mark_33 : decode cX12_mark 33 = .ok (.aload_n 0, 1) := by decide +kernel
theorem dX12_mark_34 : decode cX12_mark 34 = .ok (.aload_n 0, 1) := by decide +kernel
theorem dX12_mark_35 : decode cX12_mark 35 = .ok (.getfield 447, 3) := by decide +kernel
theorem dX12_mark_38 : decode cX12_mark 38 = .ok (.invokevirtual 92, 3) := by decide +kernel
theorem dX12_mark_41 : decode cX12_mark 41 = .ok (.ireturn, 1) := by decide +kernel
noncomputable def Mo_mark (σ : St) : Option (Int32 × St) :=
  if (σ.1 92 38) = 3 then (bd2 (Mo_refuse σ 4) (fun r8 σ9 => some (r8, σ9))) else (bnd (wI σ 92 38 ((σ.1 92 38) + 1)) (fun σ1 => bd (Mo_copies σ1 0 (σ1.1 92 38)) (fun σ3 => bd2 (Mo_gives σ3 (σ3.1 92 38)) (fun r5 σ6 => some (r5, σ6)))))
set_option maxRecDepth 100000 in
set_option maxHeartbeats 4000000 in
theorem tm_Mo_mark {V : Ev} {Γ : Cn} {fin : Option Value × St} {σ : St} {o : (Int32 × St)} (X : Cx V Γ M_X12_mark) {A : (Int32 × St) → Prop}  (hr : ∀ (r : Int32) (σ9 : St), A (r, σ9) → (some (.int r), σ9) = fin) (h : Mo_mark σ = some o) (hA : A o) : Go V Γ M_X12_mark (Zm V Γ 1 fin) 0 [(0, .ref (V.2.2.1 + 92))] [] σ := by
  unfold Mo_mark at h
  refine g_aload_n (pc := 0) X 0 rfl dX12_mark_0 ?_
  refine g_getI (pc := 1) X k_fl_X12_447 s_92 rfl dX12_mark_1 ?_
  refine g_iconst (v := 3) (pc := 4) X rfl dX12_mark_4 ?_
  refine g_icmp_ne (pc := 5) (tgt := 14) X dX12_mark_5 rfl (fun c10 => ?_) (fun c10 => ?_)
  · replace h := if_f c10 h
    refine g_aload_n (pc := 14) X 0 rfl dX12_mark_14 ?_
    refine g_dup (pc := 15) X rfl dX12_mark_15 ?_
    refine g_getI (pc := 16) X k_fl_X12_447 s_92 rfl dX12_mark_16 ?_
    refine g_iconst (v := 1) (pc := 19) X rfl dX12_mark_19 ?_
    refine g_iadd (pc := 20) X dX12_mark_20 ?_
    refine g_putI (pc := 21) X k_fl_X12_447 s_92 rfl rfl rfl dX12_mark_21 ?_
    obtain ⟨σ1, e_σ1, h⟩ := bnd_e h
    refine g_nmS e_σ1 ?_
    refine g_aload_n (pc := 24) X 0 rfl dX12_mark_24 ?_
    refine g_iconst (v := 0) (pc := 25) X rfl dX12_mark_25 ?_
    refine g_aload_n (pc := 26) X 0 rfl dX12_mark_26 ?_
    refine g_getI (pc := 27) X k_fl_X12_447 s_92 rfl dX12_mark_27 ?_
    obtain ⟨σ3, hc2, h⟩ := bd_e h
    refine g_callV (pc := 30) X k_ml_X12_450 (run_Mo_copies  hc2) s_92 rfl (room_ok (Nat.le_of_ble_eq_true rfl) (Nat.le_of_ble_eq_true rfl)) ⟨Nat.le_refl _, Nat.le_refl _⟩ _ rfl (Nat.le_of_ble_eq_true rfl) dX12_mark_30 ?_
    show Go V Γ M_X12_mark (Zm V Γ 1 fin) 33 [(0, .ref (V.2.2.1 + 92))] [] σ3
    refine g_aload_n (pc := 33) X 0 rfl dX12_mark_33 ?_
    refine g_aload_n (pc := 34) X 0 rfl dX12_mark_34 ?_
    refine g_getI (pc := 35) X k_fl_X12_447 s_92 rfl dX12_mark_35 ?_
    obtain ⟨r5, σ6, hc4, h⟩ := bd2_e h
    refine g_callV (pc := 38) X k_ml_X12_92 (run_Mo_gives  hc4) s_92 rfl (room_ok (Nat.le_of_ble_eq_true rfl) (Nat.le_of_ble_eq_true rfl)) ⟨Nat.le_refl _, Nat.le_refl _⟩ _ rfl (Nat.le_of_ble_eq_true rfl) dX12_mark_38 ?_
    show Go V Γ M_X12_mark (Zm V Γ 1 fin) 41 [(0, .ref (V.2.2.1 + 92))] [.int r5] σ6
    cases h
    exact g_iret (pc := 41) X rfl rfl (hr _ _ hA) dX12_mark_41
  · replace h := if_t c10 h
    refine g_aload_n (pc := 8) X 0 rfl dX12_mark_8 ?_
    refine g_iconst (v := 4) (pc := 9) X rfl dX12_mark_9 ?_
    obtain ⟨r8, σ9, hc7, h⟩ := bd2_e h
    refine g_callV (pc := 10) X k_ml_X12_88 (run_Mo_refuse  hc7) s_92 rfl (room_ok (Nat.le_of_ble_eq_true rfl) (Nat.le_of_ble_eq_true rfl)) ⟨Nat.le_refl _, Nat.le_refl _⟩ _ rfl (Nat.le_of_ble_eq_true rfl) dX12_mark_10 ?_
    show Go V Γ M_X12_mark (Zm V Γ 1 fin) 13 [(0, .ref (V.2.2.1 + 92))] [.int r8] σ9
    cases h
    exact g_iret (pc := 13) X rfl rfl (hr _ _ hA) dX12_mark_13
set_option maxRecDepth 100000 in
theorem run_Mo_mark {V : Ev} {σ : St} {o : (Int32 × St)}   (h : Mo_mark σ = some o) : Rs V 1 M_X12_mark [.ref (V.2.2.1 + 92)] σ (some (.int o.1), o.2) := by
  refine Rs.of (by decide +kernel) (Nat.le_of_ble_eq_true rfl) (fun Γ X => ?_)
  exact tm_Mo_mark X (A := fun o1 => o1 = o)  (fun _ _ e => by rw [← e]) h rfl
theorem dX12_undo_0 : decode cX12_undo 0 = .ok (.aload_n 0, 1) := by decide +kernel
theorem dX12_undo_1 : decode cX12_undo 1 = .ok (.getfield 447, 3) := by decide +kernel
theorem dX12_undo_4 : decode cX12_undo 4 = .ok (.ifCond .ne 10, 3) := by decide +kernel
theorem dX12_undo_7 : decode cX12_undo 7 = .ok (.aload_n 0, 1) := by decide +kernel
theorem dX12_undo_8 : decode cX12_undo 8 = .ok (.bipush 6, 2) := by decide +kernel
theorem dX12_undo_10 : decode cX12_undo 10 = .ok (.invokevirtual 88, 3) := by decide +kernel
theorem dX12_undo_13 : decode cX12_undo 13 = .ok (.ireturn, 1) := by decide +kernel
theorem dX12_undo_14 : decode cX12_undo 14 = .ok (.aload_n 0, 1) := by decide +kernel
theorem dX12_undo_15 : decode cX12_undo 15 = .ok (.aload_n 0, 1) := by decide +kernel
theorem dX12_undo_16 : decode cX12_undo 16 = .ok (.getfield 447, 3) := by decide +kernel
theorem dX12_undo_19 : decode cX12_undo 19 = .ok (.iconst 0, 1) := by decide +kernel
theorem dX12_undo_20 : decode cX12_undo 20 = .ok (.invokevirtual 450, 3) := by decide +kernel
theorem dX12_undo_23 : decode cX12_undo 23 = .ok (.aload_n 0, 1) := by decide +kernel
theorem dX12_undo_24 : decode cX12_undo 24 = .ok (.dup, 1) := by decide +kernel
theorem dX12_undo_25 : decode cX12_undo 25 = .ok (.getfield 447, 3) := by decide +kernel
theorem dX12_undo_28 : decode cX12_undo 28 = .ok (.iconst 1, 1) := by decide +kernel
theorem dX12_undo_29 : decode cX12_undo 29 = .ok (.isub, 1) := by decide +kernel
theorem dX12_undo_30 : decode cX12_undo 30 = .ok (.putfield 447, 3) := by decide +kernel
theorem dX12_undo_33 : decode cX12_undo 33 = .ok (.aload_n 0, 1) := by decide +kernel
theorem dX12_undo_34 : decode cX12_undo 34 = .ok (.aload_n 0, 1) := by decide +kernel
theorem dX12_undo_35 : decode cX12_undo 35 = .ok (.getfield 447, 3) := by decide +kernel
theorem dX12_undo_38 : decode cX12_undo 38 = .ok (.invokevirtual 92, 3) := by decide +kernel
theorem dX12_undo_41 : decode cX12_undo 41 = .ok (.ireturn, 1) := by decide +kernel
noncomputable def Mo_undo (σ : St) : Option (Int32 × St) :=
  if (σ.1 92 38) = 0 then (bd2 (Mo_refuse σ 6) (fun r8 σ9 => some (r8, σ9))) else (bd (Mo_copies σ (σ.1 92 38) 0) (fun σ2 => bnd (wI σ2 92 38 ((σ2.1 92 38) - 1)) (fun σ3 => bd2 (Mo_gives σ3 (σ3.1 92 38)) (fun r5 σ6 => some (r5, σ6)))))
set_option maxRecDepth 100000 in
set_option maxHeartbeats 4000000 in
theorem tm_Mo_undo {V : Ev} {Γ : Cn} {fin : Option Value × St} {σ : St} {o : (Int32 × St)} (X : Cx V Γ M_X12_undo) {A : (Int32 × St) → Prop}  (hr : ∀ (r : Int32) (σ9 : St), A (r, σ9) → (some (.int r), σ9) = fin) (h : Mo_undo σ = some o) (hA : A o) : Go V Γ M_X12_undo (Zm V Γ 1 fin) 0 [(0, .ref (V.2.2.1 + 92))] [] σ := by
  unfold Mo_undo at h
  refine g_aload_n (pc := 0) X 0 rfl dX12_undo_0 ?_
  refine g_getI (pc := 1) X k_fl_X12_447 s_92 rfl dX12_undo_1 ?_
  refine g_if_ne (pc := 4) (tgt := 14) X dX12_undo_4 rfl (fun c10 => ?_) (fun c10 => ?_)
  · replace h := if_f c10 h
    refine g_aload_n (pc := 14) X 0 rfl dX12_undo_14 ?_
    refine g_aload_n (pc := 15) X 0 rfl dX12_undo_15 ?_
    refine g_getI (pc := 16) X k_fl_X12_447 s_92 rfl dX12_undo_16 ?_
    refine g_iconst (v := 0) (pc := 19) X rfl dX12_undo_19 ?_
    obtain ⟨σ2, hc1, h⟩ := bd_e h
    refine g_callV (pc := 20) X k_ml_X12_450 (run_Mo_copies  hc1) s_92 rfl (room_ok (Nat.le_of_ble_eq_true rfl) (Nat.le_of_ble_eq_true rfl)) ⟨Nat.le_refl _, Nat.le_refl _⟩ _ rfl (Nat.le_of_ble_eq_true rfl) dX12_undo_20 ?_
    show Go V Γ M_X12_undo (Zm V Γ 1 fin) 23 [(0, .ref (V.2.2.1 + 92))] [] σ2
    refine g_aload_n (pc := 23) X 0 rfl dX12_undo_23 ?_
    refine g_dup (pc := 24) X rfl dX12_undo_24 ?_
    refine g_getI (pc := 25) X k_fl_X12_447 s_92 rfl dX12_undo_25 ?_
    refine g_iconst (v := 1) (pc := 28) X rfl dX12_undo_28 ?_
    refine g_isub (pc := 29) X dX12_undo_29 ?_
    refine g_putI (pc := 30) X k_fl_X12_447 s_92 rfl rfl rfl dX12_undo_30 ?_
    obtain ⟨σ3, e_σ3, h⟩ := bnd_e h
    refine g_nmS e_σ3 ?_
    refine g_aload_n (pc := 33) X 0 rfl dX12_undo_33 ?_
    refine g_aload_n (pc := 34) X 0 rfl dX12_undo_34 ?_
    refine g_getI (pc := 35) X k_fl_X12_447 s_92 rfl dX12_undo_35 ?_
    obtain ⟨r5, σ6, hc4, h⟩ := bd2_e h
    refine g_callV (pc := 38) X k_ml_X12_92 (run_Mo_gives  hc4) s_92 rfl (room_ok (Nat.le_of_ble_eq_true rfl) (Nat.le_of_ble_eq_true rfl)) ⟨Nat.le_refl _, Nat.le_refl _⟩ _ rfl (Nat.le_of_ble_eq_true rfl) dX12_undo_38 ?_
    show Go V Γ M_X12_undo (Zm V Γ 1 fin) 41 [(0, .ref (V.2.2.1 + 92))] [.int r5] σ6
    cases h
    exact g_iret (pc := 41) X rfl rfl (hr _ _ hA) dX12_undo_41
  · replace h := if_t c10 h
    refine g_aload_n (pc := 7) X 0 rfl dX12_undo_7 ?_
    refine g_bipush (v := 6) (pc := 8) X (by decide) dX12_undo_8 ?_
    obtain ⟨r8, σ9, hc7, h⟩ := bd2_e h
    refine g_callV (pc := 10) X k_ml_X12_88 (run_Mo_refuse  hc7) s_92 rfl (room_ok (Nat.le_of_ble_eq_true rfl) (Nat.le_of_ble_eq_true rfl)) ⟨Nat.le_refl _, Nat.le_refl _⟩ _ rfl (Nat.le_of_ble_eq_true rfl) dX12_undo_10 ?_
    show Go V Γ M_X12_undo (Zm V Γ 1 fin) 13 [(0, .ref (V.2.2.1 + 92))] [.int r8] σ9
    cases h
    exact g_iret (pc := 13) X rfl rfl (hr _ _ hA) dX12_undo_13
set_option maxRecDepth 100000 in
theorem run_Mo_undo {V : Ev} {σ : St} {o : (Int32 × St)}   (h : Mo_undo σ = some o) : Rs V 1 M_X12_undo [.ref (V.2.2.1 + 92)] σ (some (.int o.1), o.2) := by
  refine Rs.of (by decide +kernel) (Nat.le_of_ble_eq_true rfl) (fun Γ X => ?_)
  exact tm_Mo_undo X (A := fun o1 => o1 = o)  (fun _ _ e => by rw [← e]) h rfl
