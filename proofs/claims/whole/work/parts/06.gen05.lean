theorem dX12_areUnlike_0 : decode cX12_areUnlike 0 = .ok (.iconst 1, 1) := by decide +kernel
theorem dX12_areUnlike_1 : decode cX12_areUnlike 1 = .ok (.istore_n 1, 1) := by decide +kernel
theorem dX12_areUnlike_2 : decode cX12_areUnlike 2 = .ok (.iconst 0, 1) := by decide +kernel
theorem dX12_areUnlike_3 : decode cX12_areUnlike 3 = .ok (.istore_n 2, 1) := by decide +kernel
theorem dX12_areUnlike_4 : decode cX12_areUnlike 4 = .ok (.iload_n 2, 1) := by decide +kernel
theorem dX12_areUnlike_5 : decode cX12_areUnlike 5 = .ok (.aload_n 0, 1) := by decide +kernel
theorem dX12_areUnlike_6 : decode cX12_areUnlike 6 = .ok (.getfield 7, 3) := by decide +kernel
theorem dX12_areUnlike_9 : decode cX12_areUnlike 9 = .ok (.iconst 0, 1) := by decide +kernel
theorem dX12_areUnlike_10 : decode cX12_areUnlike 10 = .ok (.iaload, 1) := by decide +kernel
theorem dX12_areUnlike_11 : decode cX12_areUnlike 11 = .ok (.if_icmp .ge 88, 3) := by decide +kernel
theorem dX12_areUnlike_14 : decode cX12_areUnlike 14 = .ok (.iload_n 1, 1) := by decide +kernel
theorem dX12_areUnlike_15 : decode cX12_areUnlike 15 = .ok (.ifCond .eq 24, 3) := by decide +kernel
theorem dX12_areUnlike_18 : decode cX12_areUnlike 18 = .ok (.aload_n 0, 1) := by decide +kernel
theorem dX12_areUnlike_19 : decode cX12_areUnlike 19 = .ok (.iload_n 2, 1) := by decide +kernel
theorem dX12_areUnlike_20 : decode cX12_areUnlike 20 = .ok (.invokevirtual 238, 3) := by decide +kernel
theorem dX12_areUnlike_23 : decode cX12_areUnlike 23 = .ok (.ifCond .eq 12, 3) := by decide +kernel
theorem dX12_areUnlike_26 : decode cX12_areUnlike 26 = .ok (.aload_n 0, 1) := by decide +kernel
theorem dX12_areUnlike_27 : decode cX12_areUnlike 27 = .ok (.iload_n 2, 1) := by decide +kernel
theorem dX12_areUnlike_28 : decode cX12_areUnlike 28 = .ok (.invokevirtual 244, 3) := by decide +kernel
theorem dX12_areUnlike_31 : decode cX12_areUnlike 31 = .ok (.iconst 1, 1) := by decide +kernel
theorem dX12_areUnlike_32 : decode cX12_areUnlike 32 = .ok (.if_icmp .le 7, 3) := by decide +kernel
theorem dX12_areUnlike_35 : decode cX12_areUnlike 35 = .ok (.iconst 1, 1) := by decide +kernel
theorem dX12_areUnlike_36 : decode cX12_areUnlike 36 = .ok (.goto 4, 3) := by decide +kernel
theorem dX12_areUnlike_39 : decode cX12_areUnlike 39 = .ok (.iconst 0, 1) := by decide +kernel
theorem dX12_areUnlike_40 : decode cX12_areUnlike 40 = .ok (.istore_n 1, 1) := by decide +kernel
theorem dX12_areUnlike_41 : decode cX12_areUnlike 41 = .ok (.iconst 0, 1) := by decide +kernel
theorem dX12_areUnlike_42 : decode cX12_areUnlike 42 = .ok (.istore_n 3, 1) := by decide +kernel
theorem dX12_areUnlike_43 : decode cX12_areUnlike 43 = .ok (.iload_n 3, 1) := by decide +kernel
theorem dX12_areUnlike_44 : decode cX12_areUnlike 44 = .ok (.iload_n 2, 1) := by decide +kernel
theorem dX12_areUnlike_45 : decode cX12_areUnlike 45 = .ok (.if_icmp .ge 48, 3) := by decide +kernel
theorem dX12_areUnlike_48 : decode cX12_areUnlike 48 = .ok (.iload_n 1, 1) := by decide +kernel
theorem dX12_areUnlike_49 : decode cX12_areUnlike 49 = .ok (.ifCond .eq 36, 3) := by decide +kernel
theorem dX12_areUnlike_52 : decode cX12_areUnlike 52 = .ok (.aload_n 0, 1) := by decide +kernel
theorem dX12_areUnlike_53 : decode cX12_areUnlike 53 = .ok (.iload_n 2, 1) := by decide +kernel
theorem dX12_areUnlike_54 : decode cX12_areUnlike 54 = .ok (.invokevirtual 238, 3) := by decide +kernel
theorem dX12_areUnlike_57 : decode cX12_areUnlike 57 = .ok (.ifCond .eq 24, 3) := by decide +kernel
theorem dX12_areUnlike_60 : decode cX12_areUnlike 60 = .ok (.aload_n 0, 1) := by decide +kernel
theorem dX12_areUnlike_61 : decode cX12_areUnlike 61 = .ok (.iload_n 3, 1) := by decide +kernel
theorem dX12_areUnlike_62 : decode cX12_areUnlike 62 = .ok (.invokevirtual 238, 3) := by decide +kernel
theorem dX12_areUnlike_65 : decode cX12_areUnlike 65 = .ok (.ifCond .eq 16, 3) := by decide +kernel
theorem dX12_areUnlike_68 : decode cX12_areUnlike 68 = .ok (.aload_n 0, 1) := by decide +kernel
theorem dX12_areUnlike_69 : decode cX12_areUnlike 69 = .ok (.iload_n 2, 1) := by decide +kernel
theorem dX12_areUnlike_70 : decode cX12_areUnlike 70 = .ok (.invokevirtual 244, 3) := by decide +kernel
theorem dX12_areUnlike_73 : decode cX12_areUnlike 73 = .ok (.aload_n 0, 1) := by decide +kernel
theorem dX12_areUnlike_74 : decode cX12_areUnlike 74 = .ok (.iload_n 3, 1) := by decide +kernel
theorem dX12_areUnlike_75 : decode cX12_areUnlike 75 = .ok (.invokevirtual 244, 3) := by decide +kernel
theorem dX12_areUnlike_78 : decode cX12_areUnlike 78 = .ok (.if_icmp .eq 7, 3) := by decide +kernel
theorem dX12_areUnlike_81 : decode cX12_areUnlike 81 = .ok (.iconst 1, 1) := by decide +kernel
theorem dX12_areUnlike_82 : decode cX12_areUnlike 82 = .ok (.goto 4, 3) := by decide +kernel
theorem dX12_areUnlike_85 : decode cX12_areUnlike 85 = .ok (.iconst 0, 1) := by decide +kernel
theorem dX12_areUnlike_86 : decode cX12_areUnlike 86 = .ok (.istore_n 1, 1) := by decide +kernel
theorem dX12_areUnlike_87 : decode cX12_areUnlike 87 = .ok (.iinc 3 1, 3) := by decide +kernel
theorem dX12_areUnlike_90 : decode cX12_areUnlike 90 = .ok (.goto (-47), 3) := by decide +kernel
theorem dX12_areUnlike_93 : decode cX12_areUnlike 93 = .ok (.iinc 2 1, 3) := by decide +kernel
theorem dX12_areUnlike_96 : decode cX12_areUnlike 96 = .ok (.goto (-92), 3) := by decide +kernel
theorem dX12_areUnlike_99 : decode cX12_areUnlike 99 = .ok (.iload_n 1, 1) := by decide +kernel
theorem dX12_areUnlike_100 : decode cX12_areUnlike 100 = .ok (.ireturn, 1) := by decide +kernel
noncomputable def Mo_areUnlike_L43 (l2 : Int32) (σ : St) (x1 : Int32) (x3 : Int32) : Option ((Int32 × Int32) ⊕ Int32) :=
  if l2 ≤ x3 then (some (.inr x1)) else (if x1 = 0 then (bnd (x3 + 1) (fun v2 => some (.inl (0, v2)))) else (bd (Mo_isOn σ l2) (fun r4 => if r4 = 0 then (bnd (x3 + 1) (fun v5 => some (.inl (1, v5)))) else (bd (Mo_isOn σ x3) (fun r7 => if r7 = 0 then (bnd (x3 + 1) (fun v8 => some (.inl (1, v8)))) else (bd (Mo_modulusOf σ l2) (fun r10 => bd (Mo_modulusOf σ x3) (fun r12 => if r10 = r12 then (bnd (x3 + 1) (fun v13 => some (.inl (0, v13)))) else (bnd (x3 + 1) (fun v14 => some (.inl (1, v14))))))))))))
set_option maxRecDepth 100000 in
set_option maxHeartbeats 4000000 in
theorem tb_Mo_areUnlike_L43 {V : Ev} {Γ : Cn} {fin : Option Value × St} {l2 : Int32} {σ : St} {x1 : Int32} {x3 : Int32} {o : ((Int32 × Int32) ⊕ Int32)} (X : Cx V Γ M_X12_areUnlike) {A : ((Int32 × Int32) ⊕ Int32) → Prop}  (hb43 : ∀ (x1 : Int32) (x3 : Int32), A (.inl (x1, x3)) → Go V Γ M_X12_areUnlike (Zm V Γ 2 fin) 43 [(0, .ref (V.2.2.1 + 92)), (1, .int x1), (2, .int l2), (3, .int x3)] [] σ) (hx43 : ∀ (x1 : Int32), A (.inr x1) → Go V Γ M_X12_areUnlike (Zm V Γ 2 fin) 93 [(0, .ref (V.2.2.1 + 92)), (1, .int x1), (2, .int l2)] [] σ) (h : Mo_areUnlike_L43 l2 σ x1 x3 = some o) (hA : A o) : Go V Γ M_X12_areUnlike (Zm V Γ 2 fin) 43 [(0, .ref (V.2.2.1 + 92)), (1, .int x1), (2, .int l2), (3, .int x3)] [] σ := by
  unfold Mo_areUnlike_L43 at h
  refine g_iload_n (pc := 43) X 3 rfl dX12_areUnlike_43 ?_
  refine g_iload_n (pc := 44) X 2 rfl dX12_areUnlike_44 ?_
  refine g_icmp_ge (pc := 45) (tgt := 93) X dX12_areUnlike_45 rfl (fun c19 => ?_) (fun c19 => ?_)
  · replace h := if_t c19 h
    refine g_sub [0, 1, 2] rfl ?_
    cases h
    exact hx43 _ hA
  · replace h := if_f c19 h
    refine g_iload_n (pc := 48) X 1 rfl dX12_areUnlike_48 ?_
    refine g_if_eq (pc := 49) (tgt := 85) X dX12_areUnlike_49 rfl (fun c18 => ?_) (fun c18 => ?_)
    · replace h := if_t c18 h
      refine g_iconst (v := 0) (pc := 85) X rfl dX12_areUnlike_85 ?_
      refine g_istore_n (pc := 86) X [(1, .int 0), (0, .ref (V.2.2.1 + 92)), (2, .int l2), (3, .int x3)] rfl (Nat.le_of_ble_eq_true rfl) rfl dX12_areUnlike_86 ?_
      obtain ⟨v2, e_v2, h⟩ := bnd_e h
      refine g_iinc (pc := 87) (v := v2) X [(3, .int v2), (1, .int 0), (0, .ref (V.2.2.1 + 92)), (2, .int l2)] 3 rfl (by rw [e_v2]; rfl) (Nat.le_of_ble_eq_true rfl) rfl dX12_areUnlike_87 ?_
      refine g_goto (pc := 90) (tgt := 43) X dX12_areUnlike_90 rfl ?_
      refine g_sub [2, 1, 3, 0] rfl ?_
      cases h
      exact hb43 _ _ hA
    · replace h := if_f c18 h
      refine g_aload_n (pc := 52) X 0 rfl dX12_areUnlike_52 ?_
      refine g_iload_n (pc := 53) X 2 rfl dX12_areUnlike_53 ?_
      obtain ⟨r4, hc3, h⟩ := bd_e h
      refine g_callV (pc := 54) X k_ml_X12_238 (run_Mo_isOn  hc3) s_92 rfl (room_ok (Nat.le_of_ble_eq_true rfl) (Nat.le_of_ble_eq_true rfl)) ⟨Nat.le_refl _, Nat.le_refl _⟩ _ rfl (Nat.le_of_ble_eq_true rfl) dX12_areUnlike_54 ?_
      show Go V Γ M_X12_areUnlike (Zm V Γ 2 fin) 57 [(0, .ref (V.2.2.1 + 92)), (1, .int x1), (2, .int l2), (3, .int x3)] [.int r4] σ
      refine g_if_eq (pc := 57) (tgt := 81) X dX12_areUnlike_57 rfl (fun c17 => ?_) (fun c17 => ?_)
      · replace h := if_t c17 h
        refine g_iconst (v := 1) (pc := 81) X rfl dX12_areUnlike_81 ?_
        refine g_goto (pc := 82) (tgt := 86) X dX12_areUnlike_82 rfl ?_
        refine g_istore_n (pc := 86) X [(1, .int 1), (0, .ref (V.2.2.1 + 92)), (2, .int l2), (3, .int x3)] rfl (Nat.le_of_ble_eq_true rfl) rfl dX12_areUnlike_86 ?_
        obtain ⟨v5, e_v5, h⟩ := bnd_e h
        refine g_iinc (pc := 87) (v := v5) X [(3, .int v5), (1, .int 1), (0, .ref (V.2.2.1 + 92)), (2, .int l2)] 3 rfl (by rw [e_v5]; rfl) (Nat.le_of_ble_eq_true rfl) rfl dX12_areUnlike_87 ?_
        refine g_goto (pc := 90) (tgt := 43) X dX12_areUnlike_90 rfl ?_
        refine g_sub [2, 1, 3, 0] rfl ?_
        cases h
        exact hb43 _ _ hA
      · replace h := if_f c17 h
        refine g_aload_n (pc := 60) X 0 rfl dX12_areUnlike_60 ?_
        refine g_iload_n (pc := 61) X 3 rfl dX12_areUnlike_61 ?_
        obtain ⟨r7, hc6, h⟩ := bd_e h
        refine g_callV (pc := 62) X k_ml_X12_238 (run_Mo_isOn  hc6) s_92 rfl (room_ok (Nat.le_of_ble_eq_true rfl) (Nat.le_of_ble_eq_true rfl)) ⟨Nat.le_refl _, Nat.le_refl _⟩ _ rfl (Nat.le_of_ble_eq_true rfl) dX12_areUnlike_62 ?_
        show Go V Γ M_X12_areUnlike (Zm V Γ 2 fin) 65 [(0, .ref (V.2.2.1 + 92)), (1, .int x1), (2, .int l2), (3, .int x3)] [.int r7] σ
        refine g_if_eq (pc := 65) (tgt := 81) X dX12_areUnlike_65 rfl (fun c16 => ?_) (fun c16 => ?_)
        · replace h := if_t c16 h
          refine g_iconst (v := 1) (pc := 81) X rfl dX12_areUnlike_81 ?_
          refine g_goto (pc := 82) (tgt := 86) X dX12_areUnlike_82 rfl ?_
          refine g_istore_n (pc := 86) X [(1, .int 1), (0, .ref (V.2.2.1 + 92)), (2, .int l2), (3, .int x3)] rfl (Nat.le_of_ble_eq_true rfl) rfl dX12_areUnlike_86 ?_
          obtain ⟨v8, e_v8, h⟩ := bnd_e h
          refine g_iinc (pc := 87) (v := v8) X [(3, .int v8), (1, .int 1), (0, .ref (V.2.2.1 + 92)), (2, .int l2)] 3 rfl (by rw [e_v8]; rfl) (Nat.le_of_ble_eq_true rfl) rfl dX12_areUnlike_87 ?_
          refine g_goto (pc := 90) (tgt := 43) X dX12_areUnlike_90 rfl ?_
          refine g_sub [2, 1, 3, 0] rfl ?_
          cases h
          exact hb43 _ _ hA
        · replace h := if_f c16 h
          refine g_aload_n (pc := 68) X 0 rfl dX12_areUnlike_68 ?_
          refine g_iload_n (pc := 69) X 2 rfl dX12_areUnlike_69 ?_
          obtain ⟨r10, hc9, h⟩ := bd_e h
          refine g_callV (pc := 70) X k_ml_X12_244 (run_Mo_modulusOf  hc9) s_92 rfl (room_ok (Nat.le_of_ble_eq_true rfl) (Nat.le_of_ble_eq_true rfl)) ⟨Nat.le_refl _, Nat.le_refl _⟩ _ rfl (Nat.le_of_ble_eq_true rfl) dX12_areUnlike_70 ?_
          show Go V Γ M_X12_areUnlike (Zm V Γ 2 fin) 73 [(0, .ref (V.2.2.1 + 92)), (1, .int x1), (2, .int l2), (3, .int x3)] [.int r10] σ
          refine g_aload_n (pc := 73) X 0 rfl dX12_areUnlike_73 ?_
          refine g_iload_n (pc := 74) X 3 rfl dX12_areUnlike_74 ?_
          obtain ⟨r12, hc11, h⟩ := bd_e h
          refine g_callV (pc := 75) X k_ml_X12_244 (run_Mo_modulusOf  hc11) s_92 rfl (room_ok (Nat.le_of_ble_eq_true rfl) (Nat.le_of_ble_eq_true rfl)) ⟨Nat.le_refl _, Nat.le_refl _⟩ _ rfl (Nat.le_of_ble_eq_true rfl) dX12_areUnlike_75 ?_
          show Go V Γ M_X12_areUnlike (Zm V Γ 2 fin) 78 [(0, .ref (V.2.2.1 + 92)), (1, .int x1), (2, .int l2), (3, .int x3)] [.int r12, .int r10] σ
          refine g_icmp_eq (pc := 78) (tgt := 85) X dX12_areUnlike_78 rfl (fun c15 => ?_) (fun c15 => ?_)
          · replace h := if_t c15 h
            refine g_iconst (v := 0) (pc := 85) X rfl dX12_areUnlike_85 ?_
            refine g_istore_n (pc := 86) X [(1, .int 0), (0, .ref (V.2.2.1 + 92)), (2, .int l2), (3, .int x3)] rfl (Nat.le_of_ble_eq_true rfl) rfl dX12_areUnlike_86 ?_
            obtain ⟨v13, e_v13, h⟩ := bnd_e h
            refine g_iinc (pc := 87) (v := v13) X [(3, .int v13), (1, .int 0), (0, .ref (V.2.2.1 + 92)), (2, .int l2)] 3 rfl (by rw [e_v13]; rfl) (Nat.le_of_ble_eq_true rfl) rfl dX12_areUnlike_87 ?_
            refine g_goto (pc := 90) (tgt := 43) X dX12_areUnlike_90 rfl ?_
            refine g_sub [2, 1, 3, 0] rfl ?_
            cases h
            exact hb43 _ _ hA
          · replace h := if_f c15 h
            refine g_iconst (v := 1) (pc := 81) X rfl dX12_areUnlike_81 ?_
            refine g_goto (pc := 82) (tgt := 86) X dX12_areUnlike_82 rfl ?_
            refine g_istore_n (pc := 86) X [(1, .int 1), (0, .ref (V.2.2.1 + 92)), (2, .int l2), (3, .int x3)] rfl (Nat.le_of_ble_eq_true rfl) rfl dX12_areUnlike_86 ?_
            obtain ⟨v14, e_v14, h⟩ := bnd_e h
            refine g_iinc (pc := 87) (v := v14) X [(3, .int v14), (1, .int 1), (0, .ref (V.2.2.1 + 92)), (2, .int l2)] 3 rfl (by rw [e_v14]; rfl) (Nat.le_of_ble_eq_true rfl) rfl dX12_areUnlike_87 ?_
            refine g_goto (pc := 90) (tgt := 43) X dX12_areUnlike_90 rfl ?_
            refine g_sub [2, 1, 3, 0] rfl ?_
            cases h
            exact hb43 _ _ hA
set_option maxRecDepth 100000 in
theorem tl_Mo_areUnlike_L43 {V : Ev} {Γ : Cn} {fin : Option Value × St} {l2 : Int32} {σ : St} {x1 : Int32} {x3 : Int32} (X : Cx V Γ M_X12_areUnlike)  {y1 : Int32} {n : Nat} (h : iter (fun s : (Int32 × Int32) => Mo_areUnlike_L43 l2 σ s.1 s.2) n (x1, x3) = some y1) (hK : Go V Γ M_X12_areUnlike (Zm V Γ 2 fin) 93 [(0, .ref (V.2.2.1 + 92)), (1, .int y1), (2, .int l2)] [] σ) : Go V Γ M_X12_areUnlike (Zm V Γ 2 fin) 43 [(0, .ref (V.2.2.1 + 92)), (1, .int x1), (2, .int l2), (3, .int x3)] [] σ := by
  refine iter_go (G := (fun s : (Int32 × Int32) => Go V Γ M_X12_areUnlike (Zm V Γ 2 fin) 43 [(0, .ref (V.2.2.1 + 92)), (1, .int s.1), (2, .int l2), (3, .int s.2)] [] σ)) (fun s o ho hS => ?_) n (x1, x3) h
  exact tb_Mo_areUnlike_L43 X  (fun _ _ h9 => h9) (fun _ he => by cases he; exact hK) ho hS
noncomputable def Mo_areUnlike_L4 (σ : St) (x1 : Int32) (x2 : Int32) : Option ((Int32 × Int32) ⊕ Int32) :=
  chk (ix 0 2060) (if (σ.1 93 (tn 0)) ≤ x2 then (some (.inr x1)) else (if x1 = 0 then (bd (iter (fun s : (Int32 × Int32) => Mo_areUnlike_L43 x2 σ s.1 s.2) FUEL (0, 0)) (fun v20 => bnd (x2 + 1) (fun v22 => some (.inl (v20, v22))))) else (bd (Mo_isOn σ x2) (fun r24 => if r24 = 0 then (bd (iter (fun s : (Int32 × Int32) => Mo_areUnlike_L43 x2 σ s.1 s.2) FUEL (1, 0)) (fun v25 => bnd (x2 + 1) (fun v27 => some (.inl (v25, v27))))) else (bd (Mo_modulusOf σ x2) (fun r29 => if r29 ≤ 1 then (bd (iter (fun s : (Int32 × Int32) => Mo_areUnlike_L43 x2 σ s.1 s.2) FUEL (0, 0)) (fun v30 => bnd (x2 + 1) (fun v32 => some (.inl (v30, v32))))) else (bd (iter (fun s : (Int32 × Int32) => Mo_areUnlike_L43 x2 σ s.1 s.2) FUEL (1, 0)) (fun v33 => bnd (x2 + 1) (fun v35 => some (.inl (v33, v35)))))))))))
set_option maxRecDepth 100000 in
set_option maxHeartbeats 4000000 in
theorem tb_Mo_areUnlike_L4 {V : Ev} {Γ : Cn} {fin : Option Value × St} {σ : St} {x1 : Int32} {x2 : Int32} {o : ((Int32 × Int32) ⊕ Int32)} (X : Cx V Γ M_X12_areUnlike) {A : ((Int32 × Int32) ⊕ Int32) → Prop}  (hb4 : ∀ (x1 : Int32) (x2 : Int32), A (.inl (x1, x2)) → Go V Γ M_X12_areUnlike (Zm V Γ 2 fin) 4 [(0, .ref (V.2.2.1 + 92)), (1, .int x1), (2, .int x2)] [] σ) (hx4 : ∀ (x1 : Int32), A (.inr x1) → Go V Γ M_X12_areUnlike (Zm V Γ 2 fin) 99 [(1, .int x1)] [] σ) (h : Mo_areUnlike_L4 σ x1 x2 = some o) (hA : A o) : Go V Γ M_X12_areUnlike (Zm V Γ 2 fin) 4 [(0, .ref (V.2.2.1 + 92)), (1, .int x1), (2, .int x2)] [] σ := by
  unfold Mo_areUnlike_L4 at h
  refine g_iload_n (pc := 4) X 2 rfl dX12_areUnlike_4 ?_
  refine g_aload_n (pc := 5) X 0 rfl dX12_areUnlike_5 ?_
  refine g_getR (r := 93) (pc := 6) X k_fl_X12_7 s_92 rfl dX12_areUnlike_6 ?_
  refine g_iconst (v := 0) (pc := 9) X rfl dX12_areUnlike_9 ?_
  obtain ⟨c1, h⟩ := chk_e h
  refine g_iald (pc := 10) X s_93 c1 dX12_areUnlike_10 ?_
  refine g_icmp_ge (pc := 11) (tgt := 99) X dX12_areUnlike_11 rfl (fun c39 => ?_) (fun c39 => ?_)
  · replace h := if_t c39 h
    refine g_sub [1] rfl ?_
    cases h
    exact hx4 _ hA
  · replace h := if_f c39 h
    refine g_iload_n (pc := 14) X 1 rfl dX12_areUnlike_14 ?_
    refine g_if_eq (pc := 15) (tgt := 39) X dX12_areUnlike_15 rfl (fun c38 => ?_) (fun c38 => ?_)
    · replace h := if_t c38 h
      refine g_iconst (v := 0) (pc := 39) X rfl dX12_areUnlike_39 ?_
      refine g_istore_n (pc := 40) X [(1, .int 0), (0, .ref (V.2.2.1 + 92)), (2, .int x2)] rfl (Nat.le_of_ble_eq_true rfl) rfl dX12_areUnlike_40 ?_
      refine g_iconst (v := 0) (pc := 41) X rfl dX12_areUnlike_41 ?_
      refine g_istore_n (pc := 42) X [(3, .int 0), (1, .int 0), (0, .ref (V.2.2.1 + 92)), (2, .int x2)] rfl (Nat.le_of_ble_eq_true rfl) rfl dX12_areUnlike_42 ?_
      refine g_sub [2, 1, 3, 0] rfl ?_
      obtain ⟨v20, hi21, h⟩ := bd_e h
      refine tl_Mo_areUnlike_L43 X  hi21 ?_
      obtain ⟨v22, e_v22, h⟩ := bnd_e h
      refine g_iinc (pc := 93) (v := v22) X [(2, .int v22), (0, .ref (V.2.2.1 + 92)), (1, .int v20)] 2 rfl (by rw [e_v22]; rfl) (Nat.le_of_ble_eq_true rfl) rfl dX12_areUnlike_93 ?_
      refine g_goto (pc := 96) (tgt := 4) X dX12_areUnlike_96 rfl ?_
      refine g_sub [1, 2, 0] rfl ?_
      cases h
      exact hb4 _ _ hA
    · replace h := if_f c38 h
      refine g_aload_n (pc := 18) X 0 rfl dX12_areUnlike_18 ?_
      refine g_iload_n (pc := 19) X 2 rfl dX12_areUnlike_19 ?_
      obtain ⟨r24, hc23, h⟩ := bd_e h
      refine g_callV (pc := 20) X k_ml_X12_238 (run_Mo_isOn  hc23) s_92 rfl (room_ok (Nat.le_of_ble_eq_true rfl) (Nat.le_of_ble_eq_true rfl)) ⟨Nat.le_refl _, Nat.le_refl _⟩ _ rfl (Nat.le_of_ble_eq_true rfl) dX12_areUnlike_20 ?_
      show Go V Γ M_X12_areUnlike (Zm V Γ 2 fin) 23 [(0, .ref (V.2.2.1 + 92)), (1, .int x1), (2, .int x2)] [.int r24] σ
      refine g_if_eq (pc := 23) (tgt := 35) X dX12_areUnlike_23 rfl (fun c37 => ?_) (fun c37 => ?_)
      · replace h := if_t c37 h
        refine g_iconst (v := 1) (pc := 35) X rfl dX12_areUnlike_35 ?_
        refine g_goto (pc := 36) (tgt := 40) X dX12_areUnlike_36 rfl ?_
        refine g_istore_n (pc := 40) X [(1, .int 1), (0, .ref (V.2.2.1 + 92)), (2, .int x2)] rfl (Nat.le_of_ble_eq_true rfl) rfl dX12_areUnlike_40 ?_
        refine g_iconst (v := 0) (pc := 41) X rfl dX12_areUnlike_41 ?_
        refine g_istore_n (pc := 42) X [(3, .int 0), (1, .int 1), (0, .ref (V.2.2.1 + 92)), (2, .int x2)] rfl (Nat.le_of_ble_eq_true rfl) rfl dX12_areUnlike_42 ?_
        refine g_sub [2, 1, 3, 0] rfl ?_
        obtain ⟨v25, hi26, h⟩ := bd_e h
        refine tl_Mo_areUnlike_L43 X  hi26 ?_
        obtain ⟨v27, e_v27, h⟩ := bnd_e h
        refine g_iinc (pc := 93) (v := v27) X [(2, .int v27), (0, .ref (V.2.2.1 + 92)), (1, .int v25)] 2 rfl (by rw [e_v27]; rfl) (Nat.le_of_ble_eq_true rfl) rfl dX12_areUnlike_93 ?_
        refine g_goto (pc := 96) (tgt := 4) X dX12_areUnlike_96 rfl ?_
        refine g_sub [1, 2, 0] rfl ?_
        cases h
        exact hb4 _ _ hA
      · replace h := if_f c37 h
        refine g_aload_n (pc := 26) X 0 rfl dX12_areUnlike_26 ?_
        refine g_iload_n (pc := 27) X 2 rfl dX12_areUnlike_27 ?_
        obtain ⟨r29, hc28, h⟩ := bd_e h
        refine g_callV (pc := 28) X k_ml_X12_244 (run_Mo_modulusOf  hc28) s_92 rfl (room_ok (Nat.le_of_ble_eq_true rfl) (Nat.le_of_ble_eq_true rfl)) ⟨Nat.le_refl _, Nat.le_refl _⟩ _ rfl (Nat.le_of_ble_eq_true rfl) dX12_areUnlike_28 ?_
        show Go V Γ M_X12_areUnlike (Zm V Γ 2 fin) 31 [(0, .ref (V.2.2.1 + 92)), (1, .int x1), (2, .int x2)] [.int r29] σ
        refine g_iconst (v := 1) (pc := 31) X rfl dX12_areUnlike_31 ?_
        refine g_icmp_le (pc := 32) (tgt := 39) X dX12_areUnlike_32 rfl (fun c36 => ?_) (fun c36 => ?_)
        · replace h := if_t c36 h
          refine g_iconst (v := 0) (pc := 39) X rfl dX12_areUnlike_39 ?_
          refine g_istore_n (pc := 40) X [(1, .int 0), (0, .ref (V.2.2.1 + 92)), (2, .int x2)] rfl (Nat.le_of_ble_eq_true rfl) rfl dX12_areUnlike_40 ?_
          refine g_iconst (v := 0) (pc := 41) X rfl dX12_areUnlike_41 ?_
          refine g_istore_n (pc := 42) X [(3, .int 0), (1, .int 0), (0, .ref (V.2.2.1 + 92)), (2, .int x2)] rfl (Nat.le_of_ble_eq_true rfl) rfl dX12_areUnlike_42 ?_
          refine g_sub [2, 1, 3, 0] rfl ?_
          obtain ⟨v30, hi31, h⟩ := bd_e h
          refine tl_Mo_areUnlike_L43 X  hi31 ?_
          obtain ⟨v32, e_v32, h⟩ := bnd_e h
          refine g_iinc (pc := 93) (v := v32) X [(2, .int v32), (0, .ref (V.2.2.1 + 92)), (1, .int v30)] 2 rfl (by rw [e_v32]; rfl) (Nat.le_of_ble_eq_true rfl) rfl dX12_areUnlike_93 ?_
          refine g_goto (pc := 96) (tgt := 4) X dX12_areUnlike_96 rfl ?_
          refine g_sub [1, 2, 0] rfl ?_
          cases h
          exact hb4 _ _ hA
        · replace h := if_f c36 h
          refine g_iconst (v := 1) (pc := 35) X rfl dX12_areUnlike_35 ?_
          refine g_goto (pc := 36) (tgt := 40) X dX12_areUnlike_36 rfl ?_
          refine g_istore_n (pc := 40) X [(1, .int 1), (0, .ref (V.2.2.1 + 92)), (2, .int x2)] rfl (Nat.le_of_ble_eq_true rfl) rfl dX12_areUnlike_40 ?_
          refine g_iconst (v := 0) (pc := 41) X rfl dX12_areUnlike_41 ?_
          refine g_istore_n (pc := 42) X [(3, .int 0), (1, .int 1), (0, .ref (V.2.2.1 + 92)), (2, .int x2)] rfl (Nat.le_of_ble_eq_true rfl) rfl dX12_areUnlike_42 ?_
          refine g_sub [2, 1, 3, 0] rfl ?_
          obtain ⟨v33, hi34, h⟩ := bd_e h
          refine tl_Mo_areUnlike_L43 X  hi34 ?_
          obtain ⟨v35, e_v35, h⟩ := bnd_e h
          refine g_iinc (pc := 93) (v := v35) X [(2, .int v35), (0, .ref (V.2.2.1 + 92)), (1, .int v33)] 2 rfl (by rw [e_v35]; rfl) (Nat.le_of_ble_eq_true rfl) rfl dX12_areUnlike_93 ?_
          refine g_goto (pc := 96) (tgt := 4) X dX12_areUnlike_96 rfl ?_
          refine g_sub [1, 2, 0] rfl ?_
          cases h
          exact hb4 _ _ hA
set_option maxRecDepth 100000 in
theorem tl_Mo_areUnlike_L4 {V : Ev} {Γ : Cn} {fin : Option Value × St} {σ : St} {x1 : Int32} {x2 : Int32} (X : Cx V Γ M_X12_areUnlike)  {y1 : Int32} {n : Nat} (h : iter (fun s : (Int32 × Int32) => Mo_areUnlike_L4 σ s.1 s.2) n (x1, x2) = some y1) (hK : Go V Γ M_X12_areUnlike (Zm V Γ 2 fin) 99 [(1, .int y1)] [] σ) : Go V Γ M_X12_areUnlike (Zm V Γ 2 fin) 4 [(0, .ref (V.2.2.1 + 92)), (1, .int x1), (2, .int x2)] [] σ := by
  refine iter_go (G := (fun s : (Int32 × Int32) => Go V Γ M_X12_areUnlike (Zm V Γ 2 fin) 4 [(0, .ref (V.2.2.1 + 92)), (1, .int s.1), (2, .int s.2)] [] σ)) (fun s o ho hS => ?_) n (x1, x2) h
  exact tb_Mo_areUnlike_L4 X  (fun _ _ h9 => h9) (fun _ he => by cases he; exact hK) ho hS
noncomputable def Mo_areUnlike (σ : St) : Option Int32 :=
  bd (iter (fun s : (Int32 × Int32) => Mo_areUnlike_L4 σ s.1 s.2) FUEL (1, 0)) (fun v40 => chk (ckz v40) (some v40))
set_option maxRecDepth 100000 in
set_option maxHeartbeats 4000000 in
theorem tm_Mo_areUnlike {V : Ev} {Γ : Cn} {fin : Option Value × St} {σ : St} {o : Int32} (X : Cx V Γ M_X12_areUnlike) {A : Int32 → Prop}  (hr : ∀ (r : Int32), A r → (some (.int r), σ) = fin) (h : Mo_areUnlike σ = some o) (hA : A o) : Go V Γ M_X12_areUnlike (Zm V Γ 2 fin) 0 [(0, .ref (V.2.2.1 + 92))] [] σ := by
  unfold Mo_areUnlike at h
  refine g_iconst (v := 1) (pc := 0) X rfl dX12_areUnlike_0 ?_
  refine g_istore_n (pc := 1) X [(1, .int 1), (0, .ref (V.2.2.1 + 92))] rfl (Nat.le_of_ble_eq_true rfl) rfl dX12_areUnlike_1 ?_
  refine g_iconst (v := 0) (pc := 2) X rfl dX12_areUnlike_2 ?_
  refine g_istore_n (pc := 3) X [(2, .int 0), (1, .int 1), (0, .ref (V.2.2.1 + 92))] rfl (Nat.le_of_ble_eq_true rfl) rfl dX12_areUnlike_3 ?_
  refine g_sub [2, 1, 0] rfl ?_
  obtain ⟨v40, hi41, h⟩ := bd_e h
  refine tl_Mo_areUnlike_L4 X  hi41 ?_
  refine g_iload_n (pc := 99) X 0 rfl dX12_areUnlike_99 ?_
  obtain ⟨c42, h⟩ := chk_e h
  cases h
  exact g_iret (pc := 100) X rfl (ckz_e c42).1 (hr _ hA) dX12_areUnlike_100
set_option maxRecDepth 100000 in
theorem run_Mo_areUnlike {V : Ev} {σ : St} {o : Int32}   (h : Mo_areUnlike σ = some o) : Rs V 2 M_X12_areUnlike [.ref (V.2.2.1 + 92)] σ (some (.int o), σ) := by
  refine Rs.of (by decide +kernel) (Nat.le_of_ble_eq_true rfl) (fun Γ X => ?_)
  exact tm_Mo_areUnlike X (A := fun o1 => o1 = o)  (fun _ e => by rw [e]) h rfl
theorem dX12_told_0 : decode cX12_told 0 = .ok (.iload_n 1, 1) := by decide +kernel
theorem dX12_told_1 : decode cX12_told 1 = .ok (.i2l, 1) := by decide +kernel
theorem dX12_told_2 : decode cX12_told 2 = .ok (.lconst 0, 1) := by decide +kernel
theorem dX12_told_3 : decode cX12_told 3 = .ok (.ldc2_w 268, 3) := by decide +kernel
theorem dX12_told_6 : decode cX12_told 6 = .ok (.invokestatic 270, 3) := by decide +kernel
theorem dX12_told_9 : decode cX12_told 9 = .ok (.ifCond .ne 9, 3) := by decide +kernel
theorem dX12_told_12 : decode cX12_told 12 = .ok (.aload_n 0, 1) := by decide +kernel
theorem dX12_told_13 : decode cX12_told 13 = .ok (.iconst 1, 1) := by decide +kernel
theorem dX12_told_14 : decode cX12_told 14 = .ok (.invokevirtual 88, 3) := by decide +kernel
theorem dX12_told_17 : decode cX12_told 17 = .ok (.ireturn, 1) := by decide +kernel
theorem dX12_told_18 : decode cX12_told 18 = .ok (.iload_n 1, 1) := by decide +kernel
theorem dX12_told_19 : decode cX12_told 19 = .ok (.iconst 2, 1) := by decide +kernel
theorem dX12_told_20 : decode cX12_told 20 = .ok (.if_icmp .le 23, 3) := by decide +kernel
theorem dX12_told_23 : decode cX12_told 23 = .ok (.iload_n 1, 1) := by decide +kernel
theorem dX12_told_24 : decode cX12_told 24 = .ok (.bipush 6, 2) := by decide +kernel
theorem dX12_told_26 : decode cX12_told 26 = .ok (.if_icmp .ge 17, 3) := by decide +kernel
theorem dX12_told_29 : decode cX12_told 29 = .ok (.aload_n 0, 1) := by decide +kernel
theorem dX12_told_30 : decode cX12_told 30 = .ok (.invokevirtual 274, 3) := by decide +kernel
theorem dX12_told_33 : decode cX12_told 33 = .ok (.ifCond .ne 10, 3) := by decide +kernel
theorem dX12_told_36 : decode cX12_told 36 = .ok (.aload_n 0, 1) := by decide +kernel
theorem dX12_told_37 : decode cX12_told 37 = .ok (.bipush 7, 2) := by decide +kernel
theorem dX12_told_39 : decode cX12_told 39 = .ok (.invokevirtual 88, 3) := by decide +kernel
theorem dX12_told_42 : decode cX12_told 42 = .ok (.ireturn, 1) := by decide +kernel
theorem dX12_told_43 : decode cX12_told 43 = .ok (.iload_n 1, 1) := by decide +kernel
theorem dX12_told_44 : decode cX12_told 44 = .ok (.tableswitch 121 0 6 #[44, 55, 66, 75, 84, 94, 112], 44) := by decide +kernel
theorem dX12_told_88 : decode cX12_told 88 = .ok (.aload_n 0, 1) := by decide +kernel
theorem dX12_told_89 : decode cX12_told 89 = .ok (.aload_n 0, 1) := by decide +kernel
theorem dX12_told_90 : decode cX12_told 90 = .ok (.getfield 7, 3) := by decide +kernel
theorem dX12_told_93 : decode cX12_told 93 = .ok (.iconst 0, 1) := by decide +kernel
theorem dX12_told_94 : decode cX12_told 94 = .ok (.iaload, 1) := by decide +kernel
theorem dX12_told_95 : decode cX12_told 95 = .ok (.invokevirtual 92, 3) := by decide +kernel
theorem dX12_told_98 : decode cX12_told 98 = .ok (.ireturn, 1) := by decide +kernel
theorem dX12_told_99 : decode cX12_told 99 = .ok (.aload_n 0, 1) := by decide +kernel
theorem dX12_told_100 : decode cX12_told 100 = .ok (.aload_n 0, 1) := by decide +kernel
theorem dX12_told_101 : decode cX12_told 101 = .ok (.getfield 7, 3) := by decide +kernel
theorem dX12_told_104 : decode cX12_told 104 = .ok (.iconst 1, 1) := by decide +kernel
theorem dX12_told_105 : decode cX12_told 105 = .ok (.iaload, 1) := by decide +kernel
theorem dX12_told_106 : decode cX12_told 106 = .ok (.invokevirtual 92, 3) := by decide +kernel
theorem dX12_told_109 : decode cX12_told 109 = .ok (.ireturn, 1) := by decide +kernel
theorem dX12_told_110 : decode cX12_told 110 = .ok (.aload_n 0, 1) := by decide +kernel
theorem dX12_told_111 : decode cX12_told 111 = .ok (.aload_n 0, 1) := by decide +kernel
theorem dX12_told_112 : decode cX12_told 112 = .ok (.invokevirtual 259, 3) := by decide +kernel
theorem dX12_told_115 : decode cX12_told 115 = .ok (.invokevirtual 92, 3) := by decide +kernel
theorem dX12_told_118 : decode cX12_told 118 = .ok (.ireturn, 1) := by decide +kernel
theorem dX12_told_119 : decode cX12_told 119 = .ok (.aload_n 0, 1) := by decide +kernel
theorem dX12_told_120 : decode cX12_told 120 = .ok (.aload_n 0, 1) := by decide +kernel
theorem dX12_told_121 : decode cX12_told 121 = .ok (.getfield 253, 3) := by decide +kernel
theorem dX12_told_124 : decode cX12_told 124 = .ok (.invokevirtual 92, 3) := by decide +kernel
theorem dX12_told_127 : decode cX12_told 127 = .ok (.ireturn, 1) := by decide +kernel
theorem dX12_told_128 : decode cX12_told 128 = .ok (.aload_n 0, 1) := by decide +kernel
theorem dX12_told_129 : decode cX12_told 129 = .ok (.aload_n 0, 1) := by decide +kernel
theorem dX12_told_130 : decode cX12_told 130 = .ok (.iconst 0, 1) := by decide +kernel
theorem dX12_told_131 : decode cX12_told 131 = .ok (.invokevirtual 277, 3) := by decide +kernel
theorem dX12_told_134 : decode cX12_told 134 = .ok (.invokevirtual 92, 3) := by decide +kernel
theorem dX12_told_137 : decode cX12_told 137 = .ok (.ireturn, 1) := by decide +kernel
theorem dX12_told_138 : decode cX12_told 138 = .ok (.aload_n 0, 1) := by decide +kernel
theorem dX12_told_139 : decode cX12_told 139 = .ok (.aload_n 0, 1) := by decide +kernel
theorem dX12_told_140 : decode cX12_told 140 = .ok (.iconst 0, 1) := by decide +kernel
theorem dX12_told_141 : decode cX12_told 141 = .ok (.invokevirtual 277, 3) := by decide +kernel
theorem dX12_told_144 : decode cX12_told 144 = .ok (.ifCond .ne 7, 3) := by decide +kernel
theorem dX12_told_147 : decode cX12_told 147 = .ok (.iconst 1, 1) := by decide +kernel
theorem dX12_told_148 : decode cX12_told 148 = .ok (.goto 4, 3) := by decide +kernel
theorem dX12_told_151 : decode cX12_told 151 = .ok (.iconst 0, 1) := by decide +kernel
theorem dX12_told_152 : decode cX12_told 152 = .ok (.invokevirtual 92, 3) := by decide +kernel
theorem dX12_told_155 : decode cX12_told 155 = .ok (.ireturn, 1) := by decide +kernel
theorem dX12_told_156 : decode cX12_told 156 = .ok (.aload_n 0, 1) := by decide +kernel
theorem dX12_told_157 : decode cX12_told 157 = .ok (.aload_n 0, 1) := by decide +kernel
theorem dX12_told_158 : decode cX12_told 158 = .ok (.invokevirtual 280, 3) := by decide +kernel
theorem dX12_told_161 : decode cX12_told 161 = .ok (.invokevirtual 92, 3) := by decide +kernel
theorem dX12_told_164 : decode cX12_told 164 = .ok (.ireturn, 1) := by decide +kernel
theorem dX12_told_165 : decode cX12_told 165 = .ok (.aload_n 0, 1) := by decide +kernel
theorem dX12_told_166 : decode cX12_told 166 = .ok (.aload_n 0, 1) := by decide +kernel
theorem dX12_told_167 : decode cX12_told 167 = .ok (.invokevirtual 283, 3) := by decide +kernel
theorem dX12_told_170 : decode cX12_told 170 = .ok (.ifCond .eq 7, 3) := by decide +kernel
theorem dX12_told_173 : decode cX12_told 173 = .ok (.iconst 1, 1) := by decide +kernel
theorem dX12_told_174 : decode cX12_told 174 = .ok (.goto 4, 3) := by decide +kernel
theorem dX12_told_177 : decode cX12_told 177 = .ok (.iconst 0, 1) := by decide +kernel
theorem dX12_told_178 : decode cX12_told 178 = .ok (.invokevirtual 92, 3) := by decide +kernel
theorem dX12_told_181 : decode cX12_told 181 = .ok (.ireturn, 1) := by decide +kernel
noncomputable def Mo_told_J43 (σ : St) (l1 : Int32) : Option ((Int32 × St)) :=
  if l1 = 0 then (chk (ix 0 2060) (bd2 (Mo_gives σ (σ.1 93 (tn 0))) (fun r5 σ6 => some (r5, σ6)))) else if l1 = 1 then (chk (ix 1 2060) (bd2 (Mo_gives σ (σ.1 93 (tn 1))) (fun r10 σ11 => some (r10, σ11)))) else if l1 = 2 then (bd (Mo_onSet σ) (fun r14 => bd2 (Mo_gives σ r14) (fun r16 σ17 => some (r16, σ17)))) else if l1 = 3 then (bd2 (Mo_gives σ (σ.1 92 23)) (fun r20 σ21 => some (r20, σ21))) else if l1 = 4 then (bd (Mo_justBy σ 0) (fun r24 => bd2 (Mo_gives σ r24) (fun r26 σ27 => some (r26, σ27)))) else if l1 = 5 then (bd (Mo_justBy σ 0) (fun r30 => if r30 = 0 then (bd2 (Mo_gives σ 1) (fun r35 σ36 => some (r35, σ36))) else (bd2 (Mo_gives σ 0) (fun r32 σ33 => some (r32, σ33))))) else if l1 = 6 then (bd (Mo_couples σ) (fun r40 => bd2 (Mo_gives σ r40) (fun r42 σ43 => some (r42, σ43)))) else (bd (Mo_areUnlike σ) (fun r46 => if r46 = 0 then (bd2 (Mo_gives σ 0) (fun r48 σ49 => some (r48, σ49))) else (bd2 (Mo_gives σ 1) (fun r51 σ52 => some (r51, σ52)))))
set_option maxRecDepth 100000 in
set_option maxHeartbeats 4000000 in
theorem tj_Mo_told_J43 {V : Ev} {Γ : Cn} {fin : Option Value × St} {σ : St} {l1 : Int32} {o : (Int32 × St)} (X : Cx V Γ M_X12_told) {A : (Int32 × St) → Prop}  (hr : ∀ (r : Int32) (σ9 : St), A (r, σ9) → (some (.int r), σ9) = fin) (h : Mo_told_J43 σ l1 = some o) (hA : A o) : Go V Γ M_X12_told (Zm V Γ 5 fin) 43 [(0, .ref (V.2.2.1 + 92)), (1, .int l1)] [] σ := by
  unfold Mo_told_J43 at h
  refine g_iload_n (pc := 43) X 1 rfl dX12_told_43 ?_
  by_cases c7 : l1 = 0
  · replace h := if_t c7 h
    refine g_tabIn (pc := 44) (tgt := 88) X c7 dX12_told_44 (by decide) (by decide) rfl rfl ?_
    refine g_aload_n (pc := 88) X 0 rfl dX12_told_88 ?_
    refine g_aload_n (pc := 89) X 0 rfl dX12_told_89 ?_
    refine g_getR (r := 93) (pc := 90) X k_fl_X12_7 s_92 rfl dX12_told_90 ?_
    refine g_iconst (v := 0) (pc := 93) X rfl dX12_told_93 ?_
    obtain ⟨c3, h⟩ := chk_e h
    refine g_iald (pc := 94) X s_93 c3 dX12_told_94 ?_
    obtain ⟨r5, σ6, hc4, h⟩ := bd2_e h
    refine g_callV (pc := 95) X k_ml_X12_92 (run_Mo_gives  hc4) s_92 rfl (room_ok (Nat.le_of_ble_eq_true rfl) (Nat.le_of_ble_eq_true rfl)) ⟨Nat.le_refl _, Nat.le_refl _⟩ _ rfl (Nat.le_of_ble_eq_true rfl) dX12_told_95 ?_
    show Go V Γ M_X12_told (Zm V Γ 5 fin) 98 [(0, .ref (V.2.2.1 + 92)), (1, .int l1)] [.int r5] σ6
    cases h
    exact g_iret (pc := 98) X rfl rfl (hr _ _ hA) dX12_told_98
  replace h := if_f c7 h
  by_cases c12 : l1 = 1
  · replace h := if_t c12 h
    refine g_tabIn (pc := 44) (tgt := 99) X c12 dX12_told_44 (by decide) (by decide) rfl rfl ?_
    refine g_aload_n (pc := 99) X 0 rfl dX12_told_99 ?_
    refine g_aload_n (pc := 100) X 0 rfl dX12_told_100 ?_
    refine g_getR (r := 93) (pc := 101) X k_fl_X12_7 s_92 rfl dX12_told_101 ?_
    refine g_iconst (v := 1) (pc := 104) X rfl dX12_told_104 ?_
    obtain ⟨c8, h⟩ := chk_e h
    refine g_iald (pc := 105) X s_93 c8 dX12_told_105 ?_
    obtain ⟨r10, σ11, hc9, h⟩ := bd2_e h
    refine g_callV (pc := 106) X k_ml_X12_92 (run_Mo_gives  hc9) s_92 rfl (room_ok (Nat.le_of_ble_eq_true rfl) (Nat.le_of_ble_eq_true rfl)) ⟨Nat.le_refl _, Nat.le_refl _⟩ _ rfl (Nat.le_of_ble_eq_true rfl) dX12_told_106 ?_
    show Go V Γ M_X12_told (Zm V Γ 5 fin) 109 [(0, .ref (V.2.2.1 + 92)), (1, .int l1)] [.int r10] σ11
    cases h
    exact g_iret (pc := 109) X rfl rfl (hr _ _ hA) dX12_told_109
  replace h := if_f c12 h
  by_cases c18 : l1 = 2
  · replace h := if_t c18 h
    refine g_tabIn (pc := 44) (tgt := 110) X c18 dX12_told_44 (by decide) (by decide) rfl rfl ?_
    refine g_aload_n (pc := 110) X 0 rfl dX12_told_110 ?_
    refine g_aload_n (pc := 111) X 0 rfl dX12_told_111 ?_
    obtain ⟨r14, hc13, h⟩ := bd_e h
    refine g_callV (pc := 112) X k_ml_X12_259 (run_Mo_onSet  hc13) s_92 rfl (room_ok (Nat.le_of_ble_eq_true rfl) (Nat.le_of_ble_eq_true rfl)) ⟨Nat.le_refl _, Nat.le_refl _⟩ _ rfl (Nat.le_of_ble_eq_true rfl) dX12_told_112 ?_
    show Go V Γ M_X12_told (Zm V Γ 5 fin) 115 [(0, .ref (V.2.2.1 + 92)), (1, .int l1)] [.int r14, .ref (V.2.2.1 + 92)] σ
    obtain ⟨r16, σ17, hc15, h⟩ := bd2_e h
    refine g_callV (pc := 115) X k_ml_X12_92 (run_Mo_gives  hc15) s_92 rfl (room_ok (Nat.le_of_ble_eq_true rfl) (Nat.le_of_ble_eq_true rfl)) ⟨Nat.le_refl _, Nat.le_refl _⟩ _ rfl (Nat.le_of_ble_eq_true rfl) dX12_told_115 ?_
    show Go V Γ M_X12_told (Zm V Γ 5 fin) 118 [(0, .ref (V.2.2.1 + 92)), (1, .int l1)] [.int r16] σ17
    cases h
    exact g_iret (pc := 118) X rfl rfl (hr _ _ hA) dX12_told_118
  replace h := if_f c18 h
  by_cases c22 : l1 = 3
  · replace h := if_t c22 h
    refine g_tabIn (pc := 44) (tgt := 119) X c22 dX12_told_44 (by decide) (by decide) rfl rfl ?_
    refine g_aload_n (pc := 119) X 0 rfl dX12_told_119 ?_
    refine g_aload_n (pc := 120) X 0 rfl dX12_told_120 ?_
    refine g_getI (pc := 121) X k_fl_X12_253 s_92 rfl dX12_told_121 ?_
    obtain ⟨r20, σ21, hc19, h⟩ := bd2_e h
    refine g_callV (pc := 124) X k_ml_X12_92 (run_Mo_gives  hc19) s_92 rfl (room_ok (Nat.le_of_ble_eq_true rfl) (Nat.le_of_ble_eq_true rfl)) ⟨Nat.le_refl _, Nat.le_refl _⟩ _ rfl (Nat.le_of_ble_eq_true rfl) dX12_told_124 ?_
    show Go V Γ M_X12_told (Zm V Γ 5 fin) 127 [(0, .ref (V.2.2.1 + 92)), (1, .int l1)] [.int r20] σ21
    cases h
    exact g_iret (pc := 127) X rfl rfl (hr _ _ hA) dX12_told_127
  replace h := if_f c22 h
  by_cases c28 : l1 = 4
  · replace h := if_t c28 h
    refine g_tabIn (pc := 44) (tgt := 128) X c28 dX12_told_44 (by decide) (by decide) rfl rfl ?_
    refine g_aload_n (pc := 128) X 0 rfl dX12_told_128 ?_
    refine g_aload_n (pc := 129) X 0 rfl dX12_told_129 ?_
    refine g_iconst (v := 0) (pc := 130) X rfl dX12_told_130 ?_
    obtain ⟨r24, hc23, h⟩ := bd_e h
    refine g_callV (pc := 131) X k_ml_X12_277 (run_Mo_justBy  hc23) s_92 rfl (room_ok (Nat.le_of_ble_eq_true rfl) (Nat.le_of_ble_eq_true rfl)) ⟨Nat.le_refl _, Nat.le_refl _⟩ _ rfl (Nat.le_of_ble_eq_true rfl) dX12_told_131 ?_
    show Go V Γ M_X12_told (Zm V Γ 5 fin) 134 [(0, .ref (V.2.2.1 + 92)), (1, .int l1)] [.int r24, .ref (V.2.2.1 + 92)] σ
    obtain ⟨r26, σ27, hc25, h⟩ := bd2_e h
    refine g_callV (pc := 134) X k_ml_X12_92 (run_Mo_gives  hc25) s_92 rfl (room_ok (Nat.le_of_ble_eq_true rfl) (Nat.le_of_ble_eq_true rfl)) ⟨Nat.le_refl _, Nat.le_refl _⟩ _ rfl (Nat.le_of_ble_eq_true rfl) dX12_told_134 ?_
    show Go V Γ M_X12_told (Zm V Γ 5 fin) 137 [(0, .ref (V.2.2.1 + 92)), (1, .int l1)] [.int r26] σ27
    cases h
    exact g_iret (pc := 137) X rfl rfl (hr _ _ hA) dX12_told_137
  replace h := if_f c28 h
  by_cases c38 : l1 = 5
  · replace h := if_t c38 h
    refine g_tabIn (pc := 44) (tgt := 138) X c38 dX12_told_44 (by decide) (by decide) rfl rfl ?_
    refine g_aload_n (pc := 138) X 0 rfl dX12_told_138 ?_
    refine g_aload_n (pc := 139) X 0 rfl dX12_told_139 ?_
    refine g_iconst (v := 0) (pc := 140) X rfl dX12_told_140 ?_
    obtain ⟨r30, hc29, h⟩ := bd_e h
    refine g_callV (pc := 141) X k_ml_X12_277 (run_Mo_justBy  hc29) s_92 rfl (room_ok (Nat.le_of_ble_eq_true rfl) (Nat.le_of_ble_eq_true rfl)) ⟨Nat.le_refl _, Nat.le_refl _⟩ _ rfl (Nat.le_of_ble_eq_true rfl) dX12_told_141 ?_
    show Go V Γ M_X12_told (Zm V Γ 5 fin) 144 [(0, .ref (V.2.2.1 + 92)), (1, .int l1)] [.int r30, .ref (V.2.2.1 + 92)] σ
    refine g_if_ne (pc := 144) (tgt := 151) X dX12_told_144 rfl (fun c37 => ?_) (fun c37 => ?_)
    · replace h := if_f c37 h
      refine g_iconst (v := 0) (pc := 151) X rfl dX12_told_151 ?_
      obtain ⟨r32, σ33, hc31, h⟩ := bd2_e h
      refine g_callV (pc := 152) X k_ml_X12_92 (run_Mo_gives  hc31) s_92 rfl (room_ok (Nat.le_of_ble_eq_true rfl) (Nat.le_of_ble_eq_true rfl)) ⟨Nat.le_refl _, Nat.le_refl _⟩ _ rfl (Nat.le_of_ble_eq_true rfl) dX12_told_152 ?_
      show Go V Γ M_X12_told (Zm V Γ 5 fin) 155 [(0, .ref (V.2.2.1 + 92)), (1, .int l1)] [.int r32] σ33
      cases h
      exact g_iret (pc := 155) X rfl rfl (hr _ _ hA) dX12_told_155
    · replace h := if_t c37 h
      refine g_iconst (v := 1) (pc := 147) X rfl dX12_told_147 ?_
      refine g_goto (pc := 148) (tgt := 152) X dX12_told_148 rfl ?_
      obtain ⟨r35, σ36, hc34, h⟩ := bd2_e h
      refine g_callV (pc := 152) X k_ml_X12_92 (run_Mo_gives  hc34) s_92 rfl (room_ok (Nat.le_of_ble_eq_true rfl) (Nat.le_of_ble_eq_true rfl)) ⟨Nat.le_refl _, Nat.le_refl _⟩ _ rfl (Nat.le_of_ble_eq_true rfl) dX12_told_152 ?_
      show Go V Γ M_X12_told (Zm V Γ 5 fin) 155 [(0, .ref (V.2.2.1 + 92)), (1, .int l1)] [.int r35] σ36
      cases h
      exact g_iret (pc := 155) X rfl rfl (hr _ _ hA) dX12_told_155
  replace h := if_f c38 h
  by_cases c44 : l1 = 6
  · replace h := if_t c44 h
    refine g_tabIn (pc := 44) (tgt := 156) X c44 dX12_told_44 (by decide) (by decide) rfl rfl ?_
    refine g_aload_n (pc := 156) X 0 rfl dX12_told_156 ?_
    refine g_aload_n (pc := 157) X 0 rfl dX12_told_157 ?_
    obtain ⟨r40, hc39, h⟩ := bd_e h
    refine g_callV (pc := 158) X k_ml_X12_280 (run_Mo_couples  hc39) s_92 rfl (room_ok (Nat.le_of_ble_eq_true rfl) (Nat.le_of_ble_eq_true rfl)) ⟨Nat.le_refl _, Nat.le_refl _⟩ _ rfl (Nat.le_of_ble_eq_true rfl) dX12_told_158 ?_
    show Go V Γ M_X12_told (Zm V Γ 5 fin) 161 [(0, .ref (V.2.2.1 + 92)), (1, .int l1)] [.int r40, .ref (V.2.2.1 + 92)] σ
    obtain ⟨r42, σ43, hc41, h⟩ := bd2_e h
    refine g_callV (pc := 161) X k_ml_X12_92 (run_Mo_gives  hc41) s_92 rfl (room_ok (Nat.le_of_ble_eq_true rfl) (Nat.le_of_ble_eq_true rfl)) ⟨Nat.le_refl _, Nat.le_refl _⟩ _ rfl (Nat.le_of_ble_eq_true rfl) dX12_told_161 ?_
    show Go V Γ M_X12_told (Zm V Γ 5 fin) 164 [(0, .ref (V.2.2.1 + 92)), (1, .int l1)] [.int r42] σ43
    cases h
    exact g_iret (pc := 164) X rfl rfl (hr _ _ hA) dX12_told_164
  replace h := if_f c44 h
  refine g_tabOut (pc := 44) (tgt := 165) X dX12_told_44 (by have qc7 := lv_neT (k := 0) (a := 0) c7 rfl; have qc12 := lv_neT (k := 1) (a := 1) c12 rfl; have qc18 := lv_neT (k := 2) (a := 2) c18 rfl; have qc22 := lv_neT (k := 3) (a := 3) c22 rfl; have qc28 := lv_neT (k := 4) (a := 4) c28 rfl; have qc38 := lv_neT (k := 5) (a := 5) c38 rfl; have qc44 := lv_neT (k := 6) (a := 6) c44 rfl; omega) rfl ?_
  refine g_aload_n (pc := 165) X 0 rfl dX12_told_165 ?_
  refine g_aload_n (pc := 166) X 0 rfl dX12_told_166 ?_
  obtain ⟨r46, hc45, h⟩ := bd_e h
  refine g_callV (pc := 167) X k_ml_X12_283 (run_Mo_areUnlike  hc45) s_92 rfl (room_ok (Nat.le_of_ble_eq_true rfl) (Nat.le_of_ble_eq_true rfl)) ⟨Nat.le_refl _, Nat.le_refl _⟩ _ rfl (Nat.le_of_ble_eq_true rfl) dX12_told_167 ?_
  show Go V Γ M_X12_told (Zm V Γ 5 fin) 170 [(0, .ref (V.2.2.1 + 92)), (1, .int l1)] [.int r46, .ref (V.2.2.1 + 92)] σ
  refine g_if_eq (pc := 170) (tgt := 177) X dX12_told_170 rfl (fun c53 => ?_) (fun c53 => ?_)
  · replace h := if_t c53 h
    refine g_iconst (v := 0) (pc := 177) X rfl dX12_told_177 ?_
    obtain ⟨r48, σ49, hc47, h⟩ := bd2_e h
    refine g_callV (pc := 178) X k_ml_X12_92 (run_Mo_gives  hc47) s_92 rfl (room_ok (Nat.le_of_ble_eq_true rfl) (Nat.le_of_ble_eq_true rfl)) ⟨Nat.le_refl _, Nat.le_refl _⟩ _ rfl (Nat.le_of_ble_eq_true rfl) dX12_told_178 ?_
    show Go V Γ M_X12_told (Zm V Γ 5 fin) 181 [(0, .ref (V.2.2.1 + 92)), (1, .int l1)] [.int r48] σ49
    cases h
    exact g_iret (pc := 181) X rfl rfl (hr _ _ hA) dX12_told_181
  · replace h := if_f c53 h
    refine g_iconst (v := 1) (pc := 173) X rfl dX12_told_173 ?_
    refine g_goto (pc := 174) (tgt := 178) X dX12_told_174 rfl ?_
    obtain ⟨r51, σ52, hc50, h⟩ := bd2_e h
    refine g_callV (pc := 178) X k_ml_X12_92 (run_Mo_gives  hc50) s_92 rfl (room_ok (Nat.le_of_ble_eq_true rfl) (Nat.le_of_ble_eq_true rfl)) ⟨Nat.le_refl _, Nat.le_refl _⟩ _ rfl (Nat.le_of_ble_eq_true rfl) dX12_told_178 ?_
    show Go V Γ M_X12_told (Zm V Γ 5 fin) 181 [(0, .ref (V.2.2.1 + 92)), (1, .int l1)] [.int r51] σ52
    cases h
    exact g_iret (pc := 181) X rfl rfl (hr _ _ hA) dX12_told_181
noncomputable def Mo_told (σ : St) (p1 : Int32) : Option (Int32 × St) :=
  bd (Mo_isFrom p1.toInt64 0 7) (fun r2 => if r2 = 0 then (bd2 (Mo_refuse σ 1) (fun r64 σ65 => some (r64, σ65))) else (if p1 ≤ 2 then (Mo_told_J43 σ p1) else (if 6 ≤ p1 then (Mo_told_J43 σ p1) else (bd2 (Mo_laysNow σ) (fun r55 σ56 => if r55 = 0 then (bd2 (Mo_refuse σ56 7) (fun r58 σ59 => some (r58, σ59))) else (Mo_told_J43 σ56 p1))))))
set_option maxRecDepth 100000 in
set_option maxHeartbeats 4000000 in
theorem tm_Mo_told {V : Ev} {Γ : Cn} {fin : Option Value × St} {σ : St} {p1 : Int32} {o : (Int32 × St)} (X : Cx V Γ M_X12_told) {A : (Int32 × St) → Prop}  (hr : ∀ (r : Int32) (σ9 : St), A (r, σ9) → (some (.int r), σ9) = fin) (h : Mo_told σ p1 = some o) (hA : A o) : Go V Γ M_X12_told (Zm V Γ 5 fin) 0 [(0, .ref (V.2.2.1 + 92)), (1, .int p1)] [] σ := by
  unfold Mo_told at h
  refine g_iload_n (pc := 0) X 1 rfl dX12_told_0 ?_
  refine g_i2l (pc := 1) X dX12_told_1 ?_
  refine g_lconst (v := 0) (pc := 2) X rfl dX12_told_2 ?_
  refine g_ldc2 (v := 7) (pc := 3) X k_constl_X12_268 dX12_told_3 ?_
  obtain ⟨r2, hc1, h⟩ := bd_e h
  refine g_callS (pc := 6) X k_ml_X12_270 (run_Mo_isFrom  hc1) rfl (room_ok (Nat.le_of_ble_eq_true rfl) (Nat.le_of_ble_eq_true rfl)) ⟨Nat.le_refl _, Nat.le_refl _⟩ _ rfl (Nat.le_of_ble_eq_true rfl) dX12_told_6 ?_
  show Go V Γ M_X12_told (Zm V Γ 5 fin) 9 [(0, .ref (V.2.2.1 + 92)), (1, .int p1)] [.int r2] σ
  refine g_if_ne (pc := 9) (tgt := 18) X dX12_told_9 rfl (fun c66 => ?_) (fun c66 => ?_)
  · replace h := if_f c66 h
    refine g_iload_n (pc := 18) X 1 rfl dX12_told_18 ?_
    refine g_iconst (v := 2) (pc := 19) X rfl dX12_told_19 ?_
    refine g_icmp_le (pc := 20) (tgt := 43) X dX12_told_20 rfl (fun c62 => ?_) (fun c62 => ?_)
    · replace h := if_t c62 h
      refine g_sub [0, 1] rfl ?_
      exact tj_Mo_told_J43 X  hr h hA
    · replace h := if_f c62 h
      refine g_iload_n (pc := 23) X 1 rfl dX12_told_23 ?_
      refine g_bipush (v := 6) (pc := 24) X (by decide) dX12_told_24 ?_
      refine g_icmp_ge (pc := 26) (tgt := 43) X dX12_told_26 rfl (fun c61 => ?_) (fun c61 => ?_)
      · replace h := if_t c61 h
        refine g_sub [0, 1] rfl ?_
        exact tj_Mo_told_J43 X  hr h hA
      · replace h := if_f c61 h
        refine g_aload_n (pc := 29) X 0 rfl dX12_told_29 ?_
        obtain ⟨r55, σ56, hc54, h⟩ := bd2_e h
        refine g_callV (pc := 30) X k_ml_X12_274 (run_Mo_laysNow  hc54) s_92 rfl (room_ok (Nat.le_of_ble_eq_true rfl) (Nat.le_of_ble_eq_true rfl)) ⟨Nat.le_refl _, Nat.le_refl _⟩ _ rfl (Nat.le_of_ble_eq_true rfl) dX12_told_30 ?_
        show Go V Γ M_X12_told (Zm V Γ 5 fin) 33 [(0, .ref (V.2.2.1 + 92)), (1, .int p1)] [.int r55] σ56
        refine g_if_ne (pc := 33) (tgt := 43) X dX12_told_33 rfl (fun c60 => ?_) (fun c60 => ?_)
        · replace h := if_f c60 h
          refine g_sub [0, 1] rfl ?_
          exact tj_Mo_told_J43 X  hr h hA
        · replace h := if_t c60 h
          refine g_aload_n (pc := 36) X 0 rfl dX12_told_36 ?_
          refine g_bipush (v := 7) (pc := 37) X (by decide) dX12_told_37 ?_
          obtain ⟨r58, σ59, hc57, h⟩ := bd2_e h
          refine g_callV (pc := 39) X k_ml_X12_88 (run_Mo_refuse  hc57) s_92 rfl (room_ok (Nat.le_of_ble_eq_true rfl) (Nat.le_of_ble_eq_true rfl)) ⟨Nat.le_refl _, Nat.le_refl _⟩ _ rfl (Nat.le_of_ble_eq_true rfl) dX12_told_39 ?_
          show Go V Γ M_X12_told (Zm V Γ 5 fin) 42 [(0, .ref (V.2.2.1 + 92)), (1, .int p1)] [.int r58] σ59
          cases h
          exact g_iret (pc := 42) X rfl rfl (hr _ _ hA) dX12_told_42
  · replace h := if_t c66 h
    refine g_aload_n (pc := 12) X 0 rfl dX12_told_12 ?_
    refine g_iconst (v := 1) (pc := 13) X rfl dX12_told_13 ?_
    obtain ⟨r64, σ65, hc63, h⟩ := bd2_e h
    refine g_callV (pc := 14) X k_ml_X12_88 (run_Mo_refuse  hc63) s_92 rfl (room_ok (Nat.le_of_ble_eq_true rfl) (Nat.le_of_ble_eq_true rfl)) ⟨Nat.le_refl _, Nat.le_refl _⟩ _ rfl (Nat.le_of_ble_eq_true rfl) dX12_told_14 ?_
    show Go V Γ M_X12_told (Zm V Γ 5 fin) 17 [(0, .ref (V.2.2.1 + 92)), (1, .int p1)] [.int r64] σ65
    cases h
    exact g_iret (pc := 17) X rfl rfl (hr _ _ hA) dX12_told_17
set_option maxRecDepth 100000 in
theorem run_Mo_told {V : Ev} {σ : St} {p1 : Int32} {o : (Int32 × St)}   (h : Mo_told σ p1 = some o) : Rs V 5 M_X12_told [.ref (V.2.2.1 + 92), .int p1] σ (some (.int o.1), o.2) := by
  refine Rs.of (by decide +kernel) (Nat.le_of_ble_eq_true rfl) (fun Γ X => ?_)
  exact tm_Mo_told X (A := fun o1 => o1 = o)  (fun _ _ e => by rw [← e]) h rfl
theorem dX12_classOf_0 : decode cX12_classOf 0 = .ok (.aload_n 0, 1) := by decide +kernel
theorem dX12_classOf_1 : decode cX12_classOf 1 = .ok (.iload_n 1, 1) := by decide +kernel
theorem dX12_classOf_2 : decode cX12_classOf 2 = .ok (.invokevirtual 286, 3) := by decide +kernel
theorem dX12_classOf_5 : decode cX12_classOf 5 = .ok (.ifCond .eq 30, 3) := by decide +kernel
theorem dX12_classOf_8 : decode cX12_classOf 8 = .ok (.iload_n 2, 1) := by decide +kernel
theorem dX12_classOf_9 : decode cX12_classOf 9 = .ok (.ifCond .lt 26, 3) := by decide +kernel
theorem dX12_classOf_12 : decode cX12_classOf 12 = .ok (.iload_n 2, 1) := by decide +kernel
theorem dX12_classOf_13 : decode cX12_classOf 13 = .ok (.iconst 2, 1) := by decide +kernel
theorem dX12_classOf_14 : decode cX12_classOf 14 = .ok (.if_icmp .gt 21, 3) := by decide +kernel
theorem dX12_classOf_17 : decode cX12_classOf 17 = .ok (.aload_n 0, 1) := by decide +kernel
theorem dX12_classOf_18 : decode cX12_classOf 18 = .ok (.aload_n 0, 1) := by decide +kernel
theorem dX12_classOf_19 : decode cX12_classOf 19 = .ok (.getfield 7, 3) := by decide +kernel
theorem dX12_classOf_22 : decode cX12_classOf 22 = .ok (.iload_n 1, 1) := by decide +kernel
theorem dX12_classOf_23 : decode cX12_classOf 23 = .ok (.invokestatic 180, 3) := by decide +kernel
theorem dX12_classOf_26 : decode cX12_classOf 26 = .ok (.iload_n 2, 1) := by decide +kernel
theorem dX12_classOf_27 : decode cX12_classOf 27 = .ok (.iadd, 1) := by decide +kernel
theorem dX12_classOf_28 : decode cX12_classOf 28 = .ok (.iaload, 1) := by decide +kernel
theorem dX12_classOf_29 : decode cX12_classOf 29 = .ok (.invokevirtual 92, 3) := by decide +kernel
theorem dX12_classOf_32 : decode cX12_classOf 32 = .ok (.goto 8, 3) := by decide +kernel
theorem dX12_classOf_35 : decode cX12_classOf 35 = .ok (.aload_n 0, 1) := by decide +kernel
theorem dX12_classOf_36 : decode cX12_classOf 36 = .ok (.iconst 1, 1) := by decide +kernel
theorem dX12_classOf_37 : decode cX12_classOf 37 = .ok (.invokevirtual 88, 3) := by decide +kernel
theorem dX12_classOf_40 : decode cX12_classOf 40 = .ok (.ireturn, 1) := by decide +kernel
noncomputable def Mo_classOf (σ : St) (p1 : Int32) (p2 : Int32) : Option (Int32 × St) :=
  bd (Mo_isClass σ p1) (fun r2 => if r2 = 0 then (bd2 (Mo_refuse σ 1) (fun r4 σ5 => some (r4, σ5))) else (if p2 < 0 then (bd2 (Mo_refuse σ 1) (fun r7 σ8 => some (r7, σ8))) else (if 2 < p2 then (bd2 (Mo_refuse σ 1) (fun r10 σ11 => some (r10, σ11))) else (bd (Mo_rowOf p1) (fun r13 => chk (ix (r13 + p2) 2060) (bd2 (Mo_gives σ (σ.1 93 (tn (r13 + p2)))) (fun r16 σ17 => some (r16, σ17))))))))
set_option maxRecDepth 100000 in
set_option maxHeartbeats 4000000 in
theorem tm_Mo_classOf {V : Ev} {Γ : Cn} {fin : Option Value × St} {σ : St} {p1 : Int32} {p2 : Int32} {o : (Int32 × St)} (X : Cx V Γ M_X12_classOf) {A : (Int32 × St) → Prop}  (hr : ∀ (r : Int32) (σ9 : St), A (r, σ9) → (some (.int r), σ9) = fin) (h : Mo_classOf σ p1 p2 = some o) (hA : A o) : Go V Γ M_X12_classOf (Zm V Γ 1 fin) 0 [(0, .ref (V.2.2.1 + 92)), (1, .int p1), (2, .int p2)] [] σ := by
  unfold Mo_classOf at h
  refine g_aload_n (pc := 0) X 0 rfl dX12_classOf_0 ?_
  refine g_iload_n (pc := 1) X 1 rfl dX12_classOf_1 ?_
  obtain ⟨r2, hc1, h⟩ := bd_e h
  refine g_callV (pc := 2) X k_ml_X12_286 (run_Mo_isClass  hc1) s_92 rfl (room_ok (Nat.le_of_ble_eq_true rfl) (Nat.le_of_ble_eq_true rfl)) ⟨Nat.le_refl _, Nat.le_refl _⟩ _ rfl (Nat.le_of_ble_eq_true rfl) dX12_classOf_2 ?_
  show Go V Γ M_X12_classOf (Zm V Γ 1 fin) 5 [(0, .ref (V.2.2.1 + 92)), (1, .int p1), (2, .int p2)] [.int r2] σ
  refine g_if_eq (pc := 5) (tgt := 35) X dX12_classOf_5 rfl (fun c20 => ?_) (fun c20 => ?_)
  · replace h := if_t c20 h
    refine g_aload_n (pc := 35) X 0 rfl dX12_classOf_35 ?_
    refine g_iconst (v := 1) (pc := 36) X rfl dX12_classOf_36 ?_
    obtain ⟨r4, σ5, hc3, h⟩ := bd2_e h
    refine g_callV (pc := 37) X k_ml_X12_88 (run_Mo_refuse  hc3) s_92 rfl (room_ok (Nat.le_of_ble_eq_true rfl) (Nat.le_of_ble_eq_true rfl)) ⟨Nat.le_refl _, Nat.le_refl _⟩ _ rfl (Nat.le_of_ble_eq_true rfl) dX12_classOf_37 ?_
    show Go V Γ M_X12_classOf (Zm V Γ 1 fin) 40 [(0, .ref (V.2.2.1 + 92)), (1, .int p1), (2, .int p2)] [.int r4] σ5
    cases h
    exact g_iret (pc := 40) X rfl rfl (hr _ _ hA) dX12_classOf_40
  · replace h := if_f c20 h
    refine g_iload_n (pc := 8) X 2 rfl dX12_classOf_8 ?_
    refine g_if_lt (pc := 9) (tgt := 35) X dX12_classOf_9 rfl (fun c19 => ?_) (fun c19 => ?_)
    · replace h := if_t c19 h
      refine g_aload_n (pc := 35) X 0 rfl dX12_classOf_35 ?_
      refine g_iconst (v := 1) (pc := 36) X rfl dX12_classOf_36 ?_
      obtain ⟨r7, σ8, hc6, h⟩ := bd2_e h
      refine g_callV (pc := 37) X k_ml_X12_88 (run_Mo_refuse  hc6) s_92 rfl (room_ok (Nat.le_of_ble_eq_true rfl) (Nat.le_of_ble_eq_true rfl)) ⟨Nat.le_refl _, Nat.le_refl _⟩ _ rfl (Nat.le_of_ble_eq_true rfl) dX12_classOf_37 ?_
      show Go V Γ M_X12_classOf (Zm V Γ 1 fin) 40 [(0, .ref (V.2.2.1 + 92)), (1, .int p1), (2, .int p2)] [.int r7] σ8
      cases h
      exact g_iret (pc := 40) X rfl rfl (hr _ _ hA) dX12_classOf_40
    · replace h := if_f c19 h
      refine g_iload_n (pc := 12) X 2 rfl dX12_classOf_12 ?_
      refine g_iconst (v := 2) (pc := 13) X rfl dX12_classOf_13 ?_
      refine g_icmp_gt (pc := 14) (tgt := 35) X dX12_classOf_14 rfl (fun c18 => ?_) (fun c18 => ?_)
      · replace h := if_t c18 h
        refine g_aload_n (pc := 35) X 0 rfl dX12_classOf_35 ?_
        refine g_iconst (v := 1) (pc := 36) X rfl dX12_classOf_36 ?_
        obtain ⟨r10, σ11, hc9, h⟩ := bd2_e h
        refine g_callV (pc := 37) X k_ml_X12_88 (run_Mo_refuse  hc9) s_92 rfl (room_ok (Nat.le_of_ble_eq_true rfl) (Nat.le_of_ble_eq_true rfl)) ⟨Nat.le_refl _, Nat.le_refl _⟩ _ rfl (Nat.le_of_ble_eq_true rfl) dX12_classOf_37 ?_
        show Go V Γ M_X12_classOf (Zm V Γ 1 fin) 40 [(0, .ref (V.2.2.1 + 92)), (1, .int p1), (2, .int p2)] [.int r10] σ11
        cases h
        exact g_iret (pc := 40) X rfl rfl (hr _ _ hA) dX12_classOf_40
      · replace h := if_f c18 h
        refine g_aload_n (pc := 17) X 0 rfl dX12_classOf_17 ?_
        refine g_aload_n (pc := 18) X 0 rfl dX12_classOf_18 ?_
        refine g_getR (r := 93) (pc := 19) X k_fl_X12_7 s_92 rfl dX12_classOf_19 ?_
        refine g_iload_n (pc := 22) X 1 rfl dX12_classOf_22 ?_
        obtain ⟨r13, hc12, h⟩ := bd_e h
        refine g_callS (pc := 23) X k_ml_X12_180 (run_Mo_rowOf  hc12) rfl (room_ok (Nat.le_of_ble_eq_true rfl) (Nat.le_of_ble_eq_true rfl)) ⟨Nat.le_refl _, Nat.le_refl _⟩ _ rfl (Nat.le_of_ble_eq_true rfl) dX12_classOf_23 ?_
        show Go V Γ M_X12_classOf (Zm V Γ 1 fin) 26 [(0, .ref (V.2.2.1 + 92)), (1, .int p1), (2, .int p2)] [.int r13, .ref (V.2.2.1 + 93), .ref (V.2.2.1 + 92)] σ
        refine g_iload_n (pc := 26) X 2 rfl dX12_classOf_26 ?_
        refine g_iadd (pc := 27) X dX12_classOf_27 ?_
        obtain ⟨c14, h⟩ := chk_e h
        refine g_iald (pc := 28) X s_93 c14 dX12_classOf_28 ?_
        obtain ⟨r16, σ17, hc15, h⟩ := bd2_e h
        refine g_callV (pc := 29) X k_ml_X12_92 (run_Mo_gives  hc15) s_92 rfl (room_ok (Nat.le_of_ble_eq_true rfl) (Nat.le_of_ble_eq_true rfl)) ⟨Nat.le_refl _, Nat.le_refl _⟩ _ rfl (Nat.le_of_ble_eq_true rfl) dX12_classOf_29 ?_
        show Go V Γ M_X12_classOf (Zm V Γ 1 fin) 32 [(0, .ref (V.2.2.1 + 92)), (1, .int p1), (2, .int p2)] [.int r16] σ17
        refine g_goto (pc := 32) (tgt := 40) X dX12_classOf_32 rfl ?_
        cases h
        exact g_iret (pc := 40) X rfl rfl (hr _ _ hA) dX12_classOf_40
set_option maxRecDepth 100000 in
theorem run_Mo_classOf {V : Ev} {σ : St} {p1 : Int32} {p2 : Int32} {o : (Int32 × St)}   (h : Mo_classOf σ p1 p2 = some o) : Rs V 1 M_X12_classOf [.ref (V.2.2.1 + 92), .int p1, .int p2] σ (some (.int o.1), o.2) := by
  refine Rs.of (by decide +kernel) (Nat.le_of_ble_eq_true rfl) (fun Γ X => ?_)
  exact tm_Mo_classOf X (A := fun o1 => o1 = o)  (fun _ _ e => by rw [← e]) h rfl
theorem dX12_catchers_0 : decode cX12_catchers 0 = .ok (.iconst 0, 1) := by decide +kernel
theorem dX12_catchers_1 : decode cX12_catchers 1 = .ok (.istore_n 2, 1) := by decide +kernel
theorem dX12_catchers_2 : decode cX12_catchers 2 = .ok (.iconst 0, 1) := by decide +kernel
theorem dX12_catchers_3 : decode cX12_catchers 3 = .ok (.istore_n 3, 1) := by decide +kernel
theorem dX12_catchers_4 : decode cX12_catchers 4 = .ok (.iload_n 3, 1) := by decide +kernel
theorem dX12_catchers_5 : decode cX12_catchers 5 = .ok (.aload_n 0, 1) := by decide +kernel
theorem dX12_catchers_6 : decode cX12_catchers 6 = .ok (.getfield 7, 3) := by decide +kernel
theorem dX12_catchers_9 : decode cX12_catchers 9 = .ok (.iconst 0, 1) := by decide +kernel
theorem dX12_catchers_10 : decode cX12_catchers 10 = .ok (.iaload, 1) := by decide +kernel
theorem dX12_catchers_11 : decode cX12_catchers 11 = .ok (.if_icmp .ge 42, 3) := by decide +kernel
theorem dX12_catchers_14 : decode cX12_catchers 14 = .ok (.iload_n 2, 1) := by decide +kernel
theorem dX12_catchers_15 : decode cX12_catchers 15 = .ok (.aload_n 0, 1) := by decide +kernel
theorem dX12_catchers_16 : decode cX12_catchers 16 = .ok (.iload_n 3, 1) := by decide +kernel
theorem dX12_catchers_17 : decode cX12_catchers 17 = .ok (.invokevirtual 238, 3) := by decide +kernel
theorem dX12_catchers_20 : decode cX12_catchers 20 = .ok (.ifCond .eq 24, 3) := by decide +kernel
theorem dX12_catchers_23 : decode cX12_catchers 23 = .ok (.iload_n 1, 1) := by decide +kernel
theorem dX12_catchers_24 : decode cX12_catchers 24 = .ok (.aload_n 0, 1) := by decide +kernel
theorem dX12_catchers_25 : decode cX12_catchers 25 = .ok (.iload_n 3, 1) := by decide +kernel
theorem dX12_catchers_26 : decode cX12_catchers 26 = .ok (.invokevirtual 244, 3) := by decide +kernel
theorem dX12_catchers_29 : decode cX12_catchers 29 = .ok (.irem, 1) := by decide +kernel
theorem dX12_catchers_30 : decode cX12_catchers 30 = .ok (.aload_n 0, 1) := by decide +kernel
theorem dX12_catchers_31 : decode cX12_catchers 31 = .ok (.iload_n 3, 1) := by decide +kernel
theorem dX12_catchers_32 : decode cX12_catchers 32 = .ok (.invokevirtual 256, 3) := by decide +kernel
theorem dX12_catchers_35 : decode cX12_catchers 35 = .ok (.if_icmp .ne 9, 3) := by decide +kernel
theorem dX12_catchers_38 : decode cX12_catchers 38 = .ok (.iconst 1, 1) := by decide +kernel
theorem dX12_catchers_39 : decode cX12_catchers 39 = .ok (.iload_n 3, 1) := by decide +kernel
theorem dX12_catchers_40 : decode cX12_catchers 40 = .ok (.ishl, 1) := by decide +kernel
theorem dX12_catchers_41 : decode cX12_catchers 41 = .ok (.goto 4, 3) := by decide +kernel
theorem dX12_catchers_44 : decode cX12_catchers 44 = .ok (.iconst 0, 1) := by decide +kernel
theorem dX12_catchers_45 : decode cX12_catchers 45 = .ok (.ior, 1) := by decide +kernel
theorem dX12_catchers_46 : decode cX12_catchers 46 = .ok (.istore_n 2, 1) := by decide +kernel
theorem dX12_catchers_47 : decode cX12_catchers 47 = .ok (.iinc 3 1, 3) := by decide +kernel
theorem dX12_catchers_50 : decode cX12_catchers 50 = .ok (.goto (-46), 3) := by decide +kernel
theorem dX12_catchers_53 : decode cX12_catchers 53 = .ok (.iload_n 2, 1) := by decide +kernel
theorem dX12_catchers_54 : decode cX12_catchers 54 = .ok (.ireturn, 1) := by decide +kernel
noncomputable def Mo_catchers_L4 (l1 : Int32) (σ : St) (x2 : Int32) (x3 : Int32) : Option ((Int32 × Int32) ⊕ Int32) :=
  chk (ix 0 2060) (if (σ.1 93 (tn 0)) ≤ x3 then (some (.inr x2)) else (bd (Mo_isOn σ x3) (fun r3 => if r3 = 0 then (bnd ((x2 ||| 0)) (fun v4 => bnd (x3 + 1) (fun v5 => some (.inl (v4, v5))))) else (bd (Mo_modulusOf σ x3) (fun r7 => chk (nzI r7) (bd (Mo_restOf σ x3) (fun r10 => if (jrem l1 r7) = r10 then (bnd ((x2 ||| (1 <<< (x3 &&& 31)))) (fun v13 => bnd (x3 + 1) (fun v14 => some (.inl (v13, v14))))) else (bnd ((x2 ||| 0)) (fun v11 => bnd (x3 + 1) (fun v12 => some (.inl (v11, v12))))))))))))
set_option maxRecDepth 100000 in
set_option maxHeartbeats 4000000 in
theorem tb_Mo_catchers_L4 {V : Ev} {Γ : Cn} {fin : Option Value × St} {l1 : Int32} {σ : St} {x2 : Int32} {x3 : Int32} {o : ((Int32 × Int32) ⊕ Int32)} (X : Cx V Γ M_X12_catchers) {A : ((Int32 × Int32) ⊕ Int32) → Prop}  (hb4 : ∀ (x2 : Int32) (x3 : Int32), A (.inl (x2, x3)) → Go V Γ M_X12_catchers (Zm V Γ 2 fin) 4 [(0, .ref (V.2.2.1 + 92)), (1, .int l1), (2, .int x2), (3, .int x3)] [] σ) (hx4 : ∀ (x2 : Int32), A (.inr x2) → Go V Γ M_X12_catchers (Zm V Γ 2 fin) 53 [(2, .int x2)] [] σ) (h : Mo_catchers_L4 l1 σ x2 x3 = some o) (hA : A o) : Go V Γ M_X12_catchers (Zm V Γ 2 fin) 4 [(0, .ref (V.2.2.1 + 92)), (1, .int l1), (2, .int x2), (3, .int x3)] [] σ := by
  unfold Mo_catchers_L4 at h
  refine g_iload_n (pc := 4) X 3 rfl dX12_catchers_4 ?_
  refine g_aload_n (pc := 5) X 0 rfl dX12_catchers_5 ?_
  refine g_getR (r := 93) (pc := 6) X k_fl_X12_7 s_92 rfl dX12_catchers_6 ?_
  refine g_iconst (v := 0) (pc := 9) X rfl dX12_catchers_9 ?_
  obtain ⟨c1, h⟩ := chk_e h
  refine g_iald (pc := 10) X s_93 c1 dX12_catchers_10 ?_
  refine g_icmp_ge (pc := 11) (tgt := 53) X dX12_catchers_11 rfl (fun c17 => ?_) (fun c17 => ?_)
  · replace h := if_t c17 h
    refine g_sub [2] rfl ?_
    cases h
    exact hx4 _ hA
  · replace h := if_f c17 h
    refine g_iload_n (pc := 14) X 2 rfl dX12_catchers_14 ?_
    refine g_aload_n (pc := 15) X 0 rfl dX12_catchers_15 ?_
    refine g_iload_n (pc := 16) X 3 rfl dX12_catchers_16 ?_
    obtain ⟨r3, hc2, h⟩ := bd_e h
    refine g_callV (pc := 17) X k_ml_X12_238 (run_Mo_isOn  hc2) s_92 rfl (room_ok (Nat.le_of_ble_eq_true rfl) (Nat.le_of_ble_eq_true rfl)) ⟨Nat.le_refl _, Nat.le_refl _⟩ _ rfl (Nat.le_of_ble_eq_true rfl) dX12_catchers_17 ?_
    show Go V Γ M_X12_catchers (Zm V Γ 2 fin) 20 [(0, .ref (V.2.2.1 + 92)), (1, .int l1), (2, .int x2), (3, .int x3)] [.int r3, .int x2] σ
    refine g_if_eq (pc := 20) (tgt := 44) X dX12_catchers_20 rfl (fun c16 => ?_) (fun c16 => ?_)
    · replace h := if_t c16 h
      refine g_iconst (v := 0) (pc := 44) X rfl dX12_catchers_44 ?_
      refine g_ior (pc := 45) X dX12_catchers_45 ?_
      obtain ⟨v4, e_v4, h⟩ := bnd_e h
      refine g_nmI e_v4 ?_
      refine g_istore_n (pc := 46) X [(2, .int v4), (0, .ref (V.2.2.1 + 92)), (1, .int l1), (3, .int x3)] rfl (Nat.le_of_ble_eq_true rfl) rfl dX12_catchers_46 ?_
      obtain ⟨v5, e_v5, h⟩ := bnd_e h
      refine g_iinc (pc := 47) (v := v5) X [(3, .int v5), (2, .int v4), (0, .ref (V.2.2.1 + 92)), (1, .int l1)] 3 rfl (by rw [e_v5]; rfl) (Nat.le_of_ble_eq_true rfl) rfl dX12_catchers_47 ?_
      refine g_goto (pc := 50) (tgt := 4) X dX12_catchers_50 rfl ?_
      refine g_sub [2, 3, 1, 0] rfl ?_
      cases h
      exact hb4 _ _ hA
    · replace h := if_f c16 h
      refine g_iload_n (pc := 23) X 1 rfl dX12_catchers_23 ?_
      refine g_aload_n (pc := 24) X 0 rfl dX12_catchers_24 ?_
      refine g_iload_n (pc := 25) X 3 rfl dX12_catchers_25 ?_
      obtain ⟨r7, hc6, h⟩ := bd_e h
      refine g_callV (pc := 26) X k_ml_X12_244 (run_Mo_modulusOf  hc6) s_92 rfl (room_ok (Nat.le_of_ble_eq_true rfl) (Nat.le_of_ble_eq_true rfl)) ⟨Nat.le_refl _, Nat.le_refl _⟩ _ rfl (Nat.le_of_ble_eq_true rfl) dX12_catchers_26 ?_
      show Go V Γ M_X12_catchers (Zm V Γ 2 fin) 29 [(0, .ref (V.2.2.1 + 92)), (1, .int l1), (2, .int x2), (3, .int x3)] [.int r7, .int l1, .int x2] σ
      obtain ⟨c8, h⟩ := chk_e h
      refine g_irem (pc := 29) X (nzI_e c8) dX12_catchers_29 ?_
      refine g_aload_n (pc := 30) X 0 rfl dX12_catchers_30 ?_
      refine g_iload_n (pc := 31) X 3 rfl dX12_catchers_31 ?_
      obtain ⟨r10, hc9, h⟩ := bd_e h
      refine g_callV (pc := 32) X k_ml_X12_256 (run_Mo_restOf  hc9) s_92 rfl (room_ok (Nat.le_of_ble_eq_true rfl) (Nat.le_of_ble_eq_true rfl)) ⟨Nat.le_refl _, Nat.le_refl _⟩ _ rfl (Nat.le_of_ble_eq_true rfl) dX12_catchers_32 ?_
      show Go V Γ M_X12_catchers (Zm V Γ 2 fin) 35 [(0, .ref (V.2.2.1 + 92)), (1, .int l1), (2, .int x2), (3, .int x3)] [.int r10, .int (jrem l1 r7), .int x2] σ
      refine g_icmp_ne (pc := 35) (tgt := 44) X dX12_catchers_35 rfl (fun c15 => ?_) (fun c15 => ?_)
      · replace h := if_f c15 h
        refine g_iconst (v := 0) (pc := 44) X rfl dX12_catchers_44 ?_
        refine g_ior (pc := 45) X dX12_catchers_45 ?_
        obtain ⟨v11, e_v11, h⟩ := bnd_e h
        refine g_nmI e_v11 ?_
        refine g_istore_n (pc := 46) X [(2, .int v11), (0, .ref (V.2.2.1 + 92)), (1, .int l1), (3, .int x3)] rfl (Nat.le_of_ble_eq_true rfl) rfl dX12_catchers_46 ?_
        obtain ⟨v12, e_v12, h⟩ := bnd_e h
        refine g_iinc (pc := 47) (v := v12) X [(3, .int v12), (2, .int v11), (0, .ref (V.2.2.1 + 92)), (1, .int l1)] 3 rfl (by rw [e_v12]; rfl) (Nat.le_of_ble_eq_true rfl) rfl dX12_catchers_47 ?_
        refine g_goto (pc := 50) (tgt := 4) X dX12_catchers_50 rfl ?_
        refine g_sub [2, 3, 1, 0] rfl ?_
        cases h
        exact hb4 _ _ hA
      · replace h := if_t c15 h
        refine g_iconst (v := 1) (pc := 38) X rfl dX12_catchers_38 ?_
        refine g_iload_n (pc := 39) X 3 rfl dX12_catchers_39 ?_
        refine g_ishl (pc := 40) X dX12_catchers_40 ?_
        refine g_goto (pc := 41) (tgt := 45) X dX12_catchers_41 rfl ?_
        refine g_ior (pc := 45) X dX12_catchers_45 ?_
        obtain ⟨v13, e_v13, h⟩ := bnd_e h
        refine g_nmI e_v13 ?_
        refine g_istore_n (pc := 46) X [(2, .int v13), (0, .ref (V.2.2.1 + 92)), (1, .int l1), (3, .int x3)] rfl (Nat.le_of_ble_eq_true rfl) rfl dX12_catchers_46 ?_
        obtain ⟨v14, e_v14, h⟩ := bnd_e h
        refine g_iinc (pc := 47) (v := v14) X [(3, .int v14), (2, .int v13), (0, .ref (V.2.2.1 + 92)), (1, .int l1)] 3 rfl (by rw [e_v14]; rfl) (Nat.le_of_ble_eq_true rfl) rfl dX12_catchers_47 ?_
        refine g_goto (pc := 50) (tgt := 4) X dX12_catchers_50 rfl ?_
        refine g_sub [2, 3, 1, 0] rfl ?_
        cases h
        exact hb4 _ _ hA
set_option maxRecDepth 100000 in
theorem tl_Mo_catchers_L4 {V : Ev} {Γ : Cn} {fin : Option Value × St} {l1 : Int32} {σ : St} {x2 : Int32} {x3 : Int32} (X : Cx V Γ M_X12_catchers)  {y2 : Int32} {n : Nat} (h : iter (fun s : (Int32 × Int32) => Mo_catchers_L4 l1 σ s.1 s.2) n (x2, x3) = some y2) (hK : Go V Γ M_X12_catchers (Zm V Γ 2 fin) 53 [(2, .int y2)] [] σ) : Go V Γ M_X12_catchers (Zm V Γ 2 fin) 4 [(0, .ref (V.2.2.1 + 92)), (1, .int l1), (2, .int x2), (3, .int x3)] [] σ := by
  refine iter_go (G := (fun s : (Int32 × Int32) => Go V Γ M_X12_catchers (Zm V Γ 2 fin) 4 [(0, .ref (V.2.2.1 + 92)), (1, .int l1), (2, .int s.1), (3, .int s.2)] [] σ)) (fun s o ho hS => ?_) n (x2, x3) h
  exact tb_Mo_catchers_L4 X  (fun _ _ h9 => h9) (fun _ he => by cases he; exact hK) ho hS
noncomputable def Mo_catchers (σ : St) (p1 : Int32) : Option Int32 :=
  bd (iter (fun s : (Int32 × Int32) => Mo_catchers_L4 p1 σ s.1 s.2) FUEL (0, 0)) (fun v18 => some v18)
set_option maxRecDepth 100000 in
set_option maxHeartbeats 4000000 in
theorem tm_Mo_catchers {V : Ev} {Γ : Cn} {fin : Option Value × St} {σ : St} {p1 : Int32} {o : Int32} (X : Cx V Γ M_X12_catchers) {A : Int32 → Prop}  (hr : ∀ (r : Int32), A r → (some (.int r), σ) = fin) (h : Mo_catchers σ p1 = some o) (hA : A o) : Go V Γ M_X12_catchers (Zm V Γ 2 fin) 0 [(0, .ref (V.2.2.1 + 92)), (1, .int p1)] [] σ := by
  unfold Mo_catchers at h
  refine g_iconst (v := 0) (pc := 0) X rfl dX12_catchers_0 ?_
  refine g_istore_n (pc := 1) X [(2, .int 0), (0, .ref (V.2.2.1 + 92)), (1, .int p1)] rfl (Nat.le_of_ble_eq_true rfl) rfl dX12_catchers_1 ?_
  refine g_iconst (v := 0) (pc := 2) X rfl dX12_catchers_2 ?_
  refine g_istore_n (pc := 3) X [(3, .int 0), (2, .int 0), (0, .ref (V.2.2.1 + 92)), (1, .int p1)] rfl (Nat.le_of_ble_eq_true rfl) rfl dX12_catchers_3 ?_
  refine g_sub [2, 3, 1, 0] rfl ?_
  obtain ⟨v18, hi19, h⟩ := bd_e h
  refine tl_Mo_catchers_L4 X  hi19 ?_
  refine g_iload_n (pc := 53) X 0 rfl dX12_catchers_53 ?_
  cases h
  exact g_iret (pc := 54) X rfl rfl (hr _ hA) dX12_catchers_54
set_option maxRecDepth 100000 in
theorem run_Mo_catchers {V : Ev} {σ : St} {p1 : Int32} {o : Int32}   (h : Mo_catchers σ p1 = some o) : Rs V 2 M_X12_catchers [.ref (V.2.2.1 + 92), .int p1] σ (some (.int o), σ) := by
  refine Rs.of (by decide +kernel) (Nat.le_of_ble_eq_true rfl) (fun Γ X => ?_)
  exact tm_Mo_catchers X (A := fun o1 => o1 = o)  (fun _ e => by rw [e]) h rfl
theorem dX12_caught_0 : decode cX12_caught 0 = .ok (.iload_n 1, 1) := by decide +kernel
theorem dX12_caught_1 : decode cX12_caught 1 = .ok (.i2l, 1) := by decide +kernel
theorem dX12_caught_2 : decode cX12_caught 2 = .ok (.lconst 0, 1) := by decide +kernel
theorem dX12_caught_3 : decode cX12_caught 3 = .ok (.ldc2_w 289, 3) := by decide +kernel
theorem dX12_caught_6 : decode cX12_caught 6 = .ok (.invokestatic 270, 3) := by decide +kernel
theorem dX12_caught_9 : decode cX12_caught 9 = .ok (.ifCond .eq 15, 3) := by decide +kernel
theorem dX12_caught_12 : decode cX12_caught 12 = .ok (.aload_n 0, 1) := by decide +kernel
theorem dX12_caught_13 : decode cX12_caught 13 = .ok (.aload_n 0, 1) := by decide +kernel
theorem dX12_caught_14 : decode cX12_caught 14 = .ok (.iload_n 1, 1) := by decide +kernel
theorem dX12_caught_15 : decode cX12_caught 15 = .ok (.invokevirtual 291, 3) := by decide +kernel
theorem dX12_caught_18 : decode cX12_caught 18 = .ok (.invokevirtual 92, 3) := by decide +kernel
theorem dX12_caught_21 : decode cX12_caught 21 = .ok (.goto 8, 3) := by decide +kernel
theorem dX12_caught_24 : decode cX12_caught 24 = .ok (.aload_n 0, 1) := by decide +kernel
theorem dX12_caught_25 : decode cX12_caught 25 = .ok (.iconst 1, 1) := by decide +kernel
theorem dX12_caught_26 : decode cX12_caught 26 = .ok (.invokevirtual 88, 3) := by decide +kernel
theorem dX12_caught_29 : decode cX12_caught 29 = .ok (.ireturn, 1) := by decide +kernel
noncomputable def Mo_caught (σ : St) (p1 : Int32) : Option (Int32 × St) :=
  bd (Mo_isFrom p1.toInt64 0 9999) (fun r2 => if r2 = 0 then (bd2 (Mo_refuse σ 1) (fun r4 σ5 => some (r4, σ5))) else (bd (Mo_catchers σ p1) (fun r7 => bd2 (Mo_gives σ r7) (fun r9 σ10 => some (r9, σ10)))))
set_option maxRecDepth 100000 in
set_option maxHeartbeats 4000000 in
theorem tm_Mo_caught {V : Ev} {Γ : Cn} {fin : Option Value × St} {σ : St} {p1 : Int32} {o : (Int32 × St)} (X : Cx V Γ M_X12_caught) {A : (Int32 × St) → Prop}  (hr : ∀ (r : Int32) (σ9 : St), A (r, σ9) → (some (.int r), σ9) = fin) (h : Mo_caught σ p1 = some o) (hA : A o) : Go V Γ M_X12_caught (Zm V Γ 3 fin) 0 [(0, .ref (V.2.2.1 + 92)), (1, .int p1)] [] σ := by
  unfold Mo_caught at h
  refine g_iload_n (pc := 0) X 1 rfl dX12_caught_0 ?_
  refine g_i2l (pc := 1) X dX12_caught_1 ?_
  refine g_lconst (v := 0) (pc := 2) X rfl dX12_caught_2 ?_
  refine g_ldc2 (v := 9999) (pc := 3) X k_constl_X12_289 dX12_caught_3 ?_
  obtain ⟨r2, hc1, h⟩ := bd_e h
  refine g_callS (pc := 6) X k_ml_X12_270 (run_Mo_isFrom  hc1) rfl (room_ok (Nat.le_of_ble_eq_true rfl) (Nat.le_of_ble_eq_true rfl)) ⟨Nat.le_refl _, Nat.le_refl _⟩ _ rfl (Nat.le_of_ble_eq_true rfl) dX12_caught_6 ?_
  show Go V Γ M_X12_caught (Zm V Γ 3 fin) 9 [(0, .ref (V.2.2.1 + 92)), (1, .int p1)] [.int r2] σ
  refine g_if_eq (pc := 9) (tgt := 24) X dX12_caught_9 rfl (fun c11 => ?_) (fun c11 => ?_)
  · replace h := if_t c11 h
    refine g_aload_n (pc := 24) X 0 rfl dX12_caught_24 ?_
    refine g_iconst (v := 1) (pc := 25) X rfl dX12_caught_25 ?_
    obtain ⟨r4, σ5, hc3, h⟩ := bd2_e h
    refine g_callV (pc := 26) X k_ml_X12_88 (run_Mo_refuse  hc3) s_92 rfl (room_ok (Nat.le_of_ble_eq_true rfl) (Nat.le_of_ble_eq_true rfl)) ⟨Nat.le_refl _, Nat.le_refl _⟩ _ rfl (Nat.le_of_ble_eq_true rfl) dX12_caught_26 ?_
    show Go V Γ M_X12_caught (Zm V Γ 3 fin) 29 [(0, .ref (V.2.2.1 + 92)), (1, .int p1)] [.int r4] σ5
    cases h
    exact g_iret (pc := 29) X rfl rfl (hr _ _ hA) dX12_caught_29
  · replace h := if_f c11 h
    refine g_aload_n (pc := 12) X 0 rfl dX12_caught_12 ?_
    refine g_aload_n (pc := 13) X 0 rfl dX12_caught_13 ?_
    refine g_iload_n (pc := 14) X 1 rfl dX12_caught_14 ?_
    obtain ⟨r7, hc6, h⟩ := bd_e h
    refine g_callV (pc := 15) X k_ml_X12_291 (run_Mo_catchers  hc6) s_92 rfl (room_ok (Nat.le_of_ble_eq_true rfl) (Nat.le_of_ble_eq_true rfl)) ⟨Nat.le_refl _, Nat.le_refl _⟩ _ rfl (Nat.le_of_ble_eq_true rfl) dX12_caught_15 ?_
    show Go V Γ M_X12_caught (Zm V Γ 3 fin) 18 [(0, .ref (V.2.2.1 + 92)), (1, .int p1)] [.int r7, .ref (V.2.2.1 + 92)] σ
    obtain ⟨r9, σ10, hc8, h⟩ := bd2_e h
    refine g_callV (pc := 18) X k_ml_X12_92 (run_Mo_gives  hc8) s_92 rfl (room_ok (Nat.le_of_ble_eq_true rfl) (Nat.le_of_ble_eq_true rfl)) ⟨Nat.le_refl _, Nat.le_refl _⟩ _ rfl (Nat.le_of_ble_eq_true rfl) dX12_caught_18 ?_
    show Go V Γ M_X12_caught (Zm V Γ 3 fin) 21 [(0, .ref (V.2.2.1 + 92)), (1, .int p1)] [.int r9] σ10
    refine g_goto (pc := 21) (tgt := 29) X dX12_caught_21 rfl ?_
    cases h
    exact g_iret (pc := 29) X rfl rfl (hr _ _ hA) dX12_caught_29
set_option maxRecDepth 100000 in
theorem run_Mo_caught {V : Ev} {σ : St} {p1 : Int32} {o : (Int32 × St)}   (h : Mo_caught σ p1 = some o) : Rs V 3 M_X12_caught [.ref (V.2.2.1 + 92), .int p1] σ (some (.int o.1), o.2) := by
  refine Rs.of (by decide +kernel) (Nat.le_of_ble_eq_true rfl) (fun Γ X => ?_)
  exact tm_Mo_caught X (A := fun o1 => o1 = o)  (fun _ _ e => by rw [← e]) h rfl
theorem dX12_tightest_0 : decode cX12_tightest 0 = .ok (.iload_n 1, 1) := by decide +kernel
theorem dX12_tightest_1 : decode cX12_tightest 1 = .ok (.i2l, 1) := by decide +kernel
theorem dX12_tightest_2 : decode cX12_tightest 2 = .ok (.lconst 0, 1) := by decide +kernel
theorem dX12_tightest_3 : decode cX12_tightest 3 = .ok (.ldc2_w 289, 3) := by decide +kernel
theorem dX12_tightest_6 : decode cX12_tightest 6 = .ok (.invokestatic 270, 3) := by decide +kernel
theorem dX12_tightest_9 : decode cX12_tightest 9 = .ok (.ifCond .ne 9, 3) := by decide +kernel
theorem dX12_tightest_12 : decode cX12_tightest 12 = .ok (.aload_n 0, 1) := by decide +kernel
theorem dX12_tightest_13 : decode cX12_tightest 13 = .ok (.iconst 1, 1) := by decide +kernel
theorem dX12_tightest_14 : decode cX12_tightest 14 = .ok (.invokevirtual 88, 3) := by decide +kernel
theorem dX12_tightest_17 : decode cX12_tightest 17 = .ok (.ireturn, 1) := by decide +kernel
theorem dX12_tightest_18 : decode cX12_tightest 18 = .ok (.aload_n 0, 1) := by decide +kernel
theorem dX12_tightest_19 : decode cX12_tightest 19 = .ok (.iload_n 1, 1) := by decide +kernel
theorem dX12_tightest_20 : decode cX12_tightest 20 = .ok (.invokevirtual 291, 3) := by decide +kernel
theorem dX12_tightest_23 : decode cX12_tightest 23 = .ok (.istore_n 2, 1) := by decide +kernel
theorem dX12_tightest_24 : decode cX12_tightest 24 = .ok (.iconst (-1), 1) := by decide +kernel
theorem dX12_tightest_25 : decode cX12_tightest 25 = .ok (.istore_n 3, 1) := by decide +kernel
theorem dX12_tightest_26 : decode cX12_tightest 26 = .ok (.iconst 0, 1) := by decide +kernel
theorem dX12_tightest_27 : decode cX12_tightest 27 = .ok (.istore 4, 2) := by decide +kernel
theorem dX12_tightest_29 : decode cX12_tightest 29 = .ok (.iload 4, 2) := by decide +kernel
theorem dX12_tightest_31 : decode cX12_tightest 31 = .ok (.aload_n 0, 1) := by decide +kernel
theorem dX12_tightest_32 : decode cX12_tightest 32 = .ok (.getfield 7, 3) := by decide +kernel
theorem dX12_tightest_35 : decode cX12_tightest 35 = .ok (.iconst 0, 1) := by decide +kernel
theorem dX12_tightest_36 : decode cX12_tightest 36 = .ok (.iaload, 1) := by decide +kernel
theorem dX12_tightest_37 : decode cX12_tightest 37 = .ok (.if_icmp .ge 40, 3) := by decide +kernel
theorem dX12_tightest_40 : decode cX12_tightest 40 = .ok (.iload_n 2, 1) := by decide +kernel
theorem dX12_tightest_41 : decode cX12_tightest 41 = .ok (.iload 4, 2) := by decide +kernel
theorem dX12_tightest_43 : decode cX12_tightest 43 = .ok (.invokestatic 241, 3) := by decide +kernel
theorem dX12_tightest_46 : decode cX12_tightest 46 = .ok (.ifCond .eq 25, 3) := by decide +kernel
theorem dX12_tightest_49 : decode cX12_tightest 49 = .ok (.iload_n 3, 1) := by decide +kernel
theorem dX12_tightest_50 : decode cX12_tightest 50 = .ok (.iconst (-1), 1) := by decide +kernel
theorem dX12_tightest_51 : decode cX12_tightest 51 = .ok (.if_icmp .eq 17, 3) := by decide +kernel
theorem dX12_tightest_54 : decode cX12_tightest 54 = .ok (.aload_n 0, 1) := by decide +kernel
theorem dX12_tightest_55 : decode cX12_tightest 55 = .ok (.iload 4, 2) := by decide +kernel
theorem dX12_tightest_57 : decode cX12_tightest 57 = .ok (.invokevirtual 244, 3) := by decide +kernel
theorem dX12_tightest_60 : decode cX12_tightest 60 = .ok (.aload_n 0, 1) := by decide +kernel
theorem dX12_tightest_61 : decode cX12_tightest 61 = .ok (.iload_n 3, 1) := by decide +kernel
theorem dX12_tightest_62 : decode cX12_tightest 62 = .ok (.invokevirtual 244, 3) := by decide +kernel
theorem dX12_tightest_65 : decode cX12_tightest 65 = .ok (.if_icmp .ge 6, 3) := by decide +kernel
theorem dX12_tightest_68 : decode cX12_tightest 68 = .ok (.iload 4, 2) := by decide +kernel
theorem dX12_tightest_70 : decode cX12_tightest 70 = .ok (.istore_n 3, 1) := by decide +kernel
theorem dX12_tightest_71 : decode cX12_tightest 71 = .ok (.iinc 4 1, 3) := by decide +kernel
theorem dX12_tightest_74 : decode cX12_tightest 74 = .ok (.goto (-45), 3) := by decide +kernel
theorem dX12_tightest_77 : decode cX12_tightest 77 = .ok (.aload_n 0, 1) := by decide +kernel
theorem dX12_tightest_78 : decode cX12_tightest 78 = .ok (.iload_n 3, 1) := by decide +kernel
theorem dX12_tightest_79 : decode cX12_tightest 79 = .ok (.invokevirtual 294, 3) := by decide +kernel
theorem dX12_tightest_82 : decode cX12_tightest 82 = .ok (.ireturn, 1) := by decide +kernel
noncomputable def Mo_tightest_L29 (l2 : Int32) (σ : St) (x3 : Int32) (x4 : Int32) : Option ((Int32 × Int32) ⊕ Int32) :=
  chk (ix 0 2060) (if (σ.1 93 (tn 0)) ≤ x4 then (some (.inr x3)) else (bd (Mo_isIn l2 x4) (fun r7 => if r7 = 0 then (bnd (x4 + 1) (fun v8 => some (.inl (x3, v8)))) else (if x3 = (-1) then (bnd (x4 + 1) (fun v9 => some (.inl (x4, v9)))) else (bd (Mo_modulusOf σ x4) (fun r11 => bd (Mo_modulusOf σ x3) (fun r13 => if r13 ≤ r11 then (bnd (x4 + 1) (fun v14 => some (.inl (x3, v14)))) else (bnd (x4 + 1) (fun v15 => some (.inl (x4, v15)))))))))))
set_option maxRecDepth 100000 in
set_option maxHeartbeats 4000000 in
theorem tb_Mo_tightest_L29 {V : Ev} {Γ : Cn} {fin : Option Value × St} {l2 : Int32} {σ : St} {x3 : Int32} {x4 : Int32} {o : ((Int32 × Int32) ⊕ Int32)} (X : Cx V Γ M_X12_tightest) {A : ((Int32 × Int32) ⊕ Int32) → Prop}  (hb29 : ∀ (x3 : Int32) (x4 : Int32), A (.inl (x3, x4)) → Go V Γ M_X12_tightest (Zm V Γ 3 fin) 29 [(0, .ref (V.2.2.1 + 92)), (2, .int l2), (3, .int x3), (4, .int x4)] [] σ) (hx29 : ∀ (x3 : Int32), A (.inr x3) → Go V Γ M_X12_tightest (Zm V Γ 3 fin) 77 [(0, .ref (V.2.2.1 + 92)), (3, .int x3)] [] σ) (h : Mo_tightest_L29 l2 σ x3 x4 = some o) (hA : A o) : Go V Γ M_X12_tightest (Zm V Γ 3 fin) 29 [(0, .ref (V.2.2.1 + 92)), (2, .int l2), (3, .int x3), (4, .int x4)] [] σ := by
  unfold Mo_tightest_L29 at h
  refine g_iload (pc := 29) X 3 rfl dX12_tightest_29 ?_
  refine g_aload_n (pc := 31) X 0 rfl dX12_tightest_31 ?_
  refine g_getR (r := 93) (pc := 32) X k_fl_X12_7 s_92 rfl dX12_tightest_32 ?_
  refine g_iconst (v := 0) (pc := 35) X rfl dX12_tightest_35 ?_
  obtain ⟨c5, h⟩ := chk_e h
  refine g_iald (pc := 36) X s_93 c5 dX12_tightest_36 ?_
  refine g_icmp_ge (pc := 37) (tgt := 77) X dX12_tightest_37 rfl (fun c19 => ?_) (fun c19 => ?_)
  · replace h := if_t c19 h
    refine g_sub [0, 2] rfl ?_
    cases h
    exact hx29 _ hA
  · replace h := if_f c19 h
    refine g_iload_n (pc := 40) X 1 rfl dX12_tightest_40 ?_
    refine g_iload (pc := 41) X 3 rfl dX12_tightest_41 ?_
    obtain ⟨r7, hc6, h⟩ := bd_e h
    refine g_callS (pc := 43) X k_ml_X12_241 (run_Mo_isIn  hc6) rfl (room_ok (Nat.le_of_ble_eq_true rfl) (Nat.le_of_ble_eq_true rfl)) ⟨Nat.le_refl _, Nat.le_refl _⟩ _ rfl (Nat.le_of_ble_eq_true rfl) dX12_tightest_43 ?_
    show Go V Γ M_X12_tightest (Zm V Γ 3 fin) 46 [(0, .ref (V.2.2.1 + 92)), (2, .int l2), (3, .int x3), (4, .int x4)] [.int r7] σ
    refine g_if_eq (pc := 46) (tgt := 71) X dX12_tightest_46 rfl (fun c18 => ?_) (fun c18 => ?_)
    · replace h := if_t c18 h
      obtain ⟨v8, e_v8, h⟩ := bnd_e h
      refine g_iinc (pc := 71) (v := v8) X [(4, .int v8), (0, .ref (V.2.2.1 + 92)), (2, .int l2), (3, .int x3)] 3 rfl (by rw [e_v8]; rfl) (Nat.le_of_ble_eq_true rfl) rfl dX12_tightest_71 ?_
      refine g_goto (pc := 74) (tgt := 29) X dX12_tightest_74 rfl ?_
      refine g_sub [1, 2, 3, 0] rfl ?_
      cases h
      exact hb29 _ _ hA
    · replace h := if_f c18 h
      refine g_iload_n (pc := 49) X 2 rfl dX12_tightest_49 ?_
      refine g_iconst (v := (-1)) (pc := 50) X rfl dX12_tightest_50 ?_
      refine g_icmp_eq (pc := 51) (tgt := 68) X dX12_tightest_51 rfl (fun c17 => ?_) (fun c17 => ?_)
      · replace h := if_t c17 h
        refine g_iload (pc := 68) X 3 rfl dX12_tightest_68 ?_
        refine g_istore_n (pc := 70) X [(3, .int x4), (0, .ref (V.2.2.1 + 92)), (2, .int l2), (4, .int x4)] rfl (Nat.le_of_ble_eq_true rfl) rfl dX12_tightest_70 ?_
        obtain ⟨v9, e_v9, h⟩ := bnd_e h
        refine g_iinc (pc := 71) (v := v9) X [(4, .int v9), (3, .int x4), (0, .ref (V.2.2.1 + 92)), (2, .int l2)] 3 rfl (by rw [e_v9]; rfl) (Nat.le_of_ble_eq_true rfl) rfl dX12_tightest_71 ?_
        refine g_goto (pc := 74) (tgt := 29) X dX12_tightest_74 rfl ?_
        refine g_sub [2, 3, 1, 0] rfl ?_
        cases h
        exact hb29 _ _ hA
      · replace h := if_f c17 h
        refine g_aload_n (pc := 54) X 0 rfl dX12_tightest_54 ?_
        refine g_iload (pc := 55) X 3 rfl dX12_tightest_55 ?_
        obtain ⟨r11, hc10, h⟩ := bd_e h
        refine g_callV (pc := 57) X k_ml_X12_244 (run_Mo_modulusOf  hc10) s_92 rfl (room_ok (Nat.le_of_ble_eq_true rfl) (Nat.le_of_ble_eq_true rfl)) ⟨Nat.le_refl _, Nat.le_refl _⟩ _ rfl (Nat.le_of_ble_eq_true rfl) dX12_tightest_57 ?_
        show Go V Γ M_X12_tightest (Zm V Γ 3 fin) 60 [(0, .ref (V.2.2.1 + 92)), (2, .int l2), (3, .int x3), (4, .int x4)] [.int r11] σ
        refine g_aload_n (pc := 60) X 0 rfl dX12_tightest_60 ?_
        refine g_iload_n (pc := 61) X 2 rfl dX12_tightest_61 ?_
        obtain ⟨r13, hc12, h⟩ := bd_e h
        refine g_callV (pc := 62) X k_ml_X12_244 (run_Mo_modulusOf  hc12) s_92 rfl (room_ok (Nat.le_of_ble_eq_true rfl) (Nat.le_of_ble_eq_true rfl)) ⟨Nat.le_refl _, Nat.le_refl _⟩ _ rfl (Nat.le_of_ble_eq_true rfl) dX12_tightest_62 ?_
        show Go V Γ M_X12_tightest (Zm V Γ 3 fin) 65 [(0, .ref (V.2.2.1 + 92)), (2, .int l2), (3, .int x3), (4, .int x4)] [.int r13, .int r11] σ
        refine g_icmp_ge (pc := 65) (tgt := 71) X dX12_tightest_65 rfl (fun c16 => ?_) (fun c16 => ?_)
        · replace h := if_t c16 h
          obtain ⟨v14, e_v14, h⟩ := bnd_e h
          refine g_iinc (pc := 71) (v := v14) X [(4, .int v14), (0, .ref (V.2.2.1 + 92)), (2, .int l2), (3, .int x3)] 3 rfl (by rw [e_v14]; rfl) (Nat.le_of_ble_eq_true rfl) rfl dX12_tightest_71 ?_
          refine g_goto (pc := 74) (tgt := 29) X dX12_tightest_74 rfl ?_
          refine g_sub [1, 2, 3, 0] rfl ?_
          cases h
          exact hb29 _ _ hA
        · replace h := if_f c16 h
          refine g_iload (pc := 68) X 3 rfl dX12_tightest_68 ?_
          refine g_istore_n (pc := 70) X [(3, .int x4), (0, .ref (V.2.2.1 + 92)), (2, .int l2), (4, .int x4)] rfl (Nat.le_of_ble_eq_true rfl) rfl dX12_tightest_70 ?_
          obtain ⟨v15, e_v15, h⟩ := bnd_e h
          refine g_iinc (pc := 71) (v := v15) X [(4, .int v15), (3, .int x4), (0, .ref (V.2.2.1 + 92)), (2, .int l2)] 3 rfl (by rw [e_v15]; rfl) (Nat.le_of_ble_eq_true rfl) rfl dX12_tightest_71 ?_
          refine g_goto (pc := 74) (tgt := 29) X dX12_tightest_74 rfl ?_
          refine g_sub [2, 3, 1, 0] rfl ?_
          cases h
          exact hb29 _ _ hA
set_option maxRecDepth 100000 in
theorem tl_Mo_tightest_L29 {V : Ev} {Γ : Cn} {fin : Option Value × St} {l2 : Int32} {σ : St} {x3 : Int32} {x4 : Int32} (X : Cx V Γ M_X12_tightest)  {y3 : Int32} {n : Nat} (h : iter (fun s : (Int32 × Int32) => Mo_tightest_L29 l2 σ s.1 s.2) n (x3, x4) = some y3) (hK : Go V Γ M_X12_tightest (Zm V Γ 3 fin) 77 [(0, .ref (V.2.2.1 + 92)), (3, .int y3)] [] σ) : Go V Γ M_X12_tightest (Zm V Γ 3 fin) 29 [(0, .ref (V.2.2.1 + 92)), (2, .int l2), (3, .int x3), (4, .int x4)] [] σ := by
  refine iter_go (G := (fun s : (Int32 × Int32) => Go V Γ M_X12_tightest (Zm V Γ 3 fin) 29 [(0, .ref (V.2.2.1 + 92)), (2, .int l2), (3, .int s.1), (4, .int s.2)] [] σ)) (fun s o ho hS => ?_) n (x3, x4) h
  exact tb_Mo_tightest_L29 X  (fun _ _ h9 => h9) (fun _ he => by cases he; exact hK) ho hS
noncomputable def Mo_tightest (σ : St) (p1 : Int32) : Option (Int32 × St) :=
  bd (Mo_isFrom p1.toInt64 0 9999) (fun r2 => if r2 = 0 then (bd2 (Mo_refuse σ 1) (fun r26 σ27 => some (r26, σ27))) else (bd (Mo_catchers σ p1) (fun r4 => bd (iter (fun s : (Int32 × Int32) => Mo_tightest_L29 r4 σ s.1 s.2) FUEL ((-1), 0)) (fun v20 => bd2 (Mo_orNone σ v20) (fun r23 σ24 => some (r23, σ24))))))
set_option maxRecDepth 100000 in
set_option maxHeartbeats 4000000 in
theorem tm_Mo_tightest {V : Ev} {Γ : Cn} {fin : Option Value × St} {σ : St} {p1 : Int32} {o : (Int32 × St)} (X : Cx V Γ M_X12_tightest) {A : (Int32 × St) → Prop}  (hr : ∀ (r : Int32) (σ9 : St), A (r, σ9) → (some (.int r), σ9) = fin) (h : Mo_tightest σ p1 = some o) (hA : A o) : Go V Γ M_X12_tightest (Zm V Γ 3 fin) 0 [(0, .ref (V.2.2.1 + 92)), (1, .int p1)] [] σ := by
  unfold Mo_tightest at h
  refine g_iload_n (pc := 0) X 1 rfl dX12_tightest_0 ?_
  refine g_i2l (pc := 1) X dX12_tightest_1 ?_
  refine g_lconst (v := 0) (pc := 2) X rfl dX12_tightest_2 ?_
  refine g_ldc2 (v := 9999) (pc := 3) X k_constl_X12_289 dX12_tightest_3 ?_
  obtain ⟨r2, hc1, h⟩ := bd_e h
  refine g_callS (pc := 6) X k_ml_X12_270 (run_Mo_isFrom  hc1) rfl (room_ok (Nat.le_of_ble_eq_true rfl) (Nat.le_of_ble_eq_true rfl)) ⟨Nat.le_refl _, Nat.le_refl _⟩ _ rfl (Nat.le_of_ble_eq_true rfl) dX12_tightest_6 ?_
  show Go V Γ M_X12_tightest (Zm V Γ 3 fin) 9 [(0, .ref (V.2.2.1 + 92)), (1, .int p1)] [.int r2] σ
  refine g_if_ne (pc := 9) (tgt := 18) X dX12_tightest_9 rfl (fun c28 => ?_) (fun c28 => ?_)
  · replace h := if_f c28 h
    refine g_aload_n (pc := 18) X 0 rfl dX12_tightest_18 ?_
    refine g_iload_n (pc := 19) X 1 rfl dX12_tightest_19 ?_
    obtain ⟨r4, hc3, h⟩ := bd_e h
    refine g_callV (pc := 20) X k_ml_X12_291 (run_Mo_catchers  hc3) s_92 rfl (room_ok (Nat.le_of_ble_eq_true rfl) (Nat.le_of_ble_eq_true rfl)) ⟨Nat.le_refl _, Nat.le_refl _⟩ _ rfl (Nat.le_of_ble_eq_true rfl) dX12_tightest_20 ?_
    show Go V Γ M_X12_tightest (Zm V Γ 3 fin) 23 [(0, .ref (V.2.2.1 + 92)), (1, .int p1)] [.int r4] σ
    refine g_istore_n (pc := 23) X [(2, .int r4), (0, .ref (V.2.2.1 + 92)), (1, .int p1)] rfl (Nat.le_of_ble_eq_true rfl) rfl dX12_tightest_23 ?_
    refine g_iconst (v := (-1)) (pc := 24) X rfl dX12_tightest_24 ?_
    refine g_istore_n (pc := 25) X [(3, .int (-1)), (2, .int r4), (0, .ref (V.2.2.1 + 92)), (1, .int p1)] rfl (Nat.le_of_ble_eq_true rfl) rfl dX12_tightest_25 ?_
    refine g_iconst (v := 0) (pc := 26) X rfl dX12_tightest_26 ?_
    refine g_istore (pc := 27) X [(4, .int 0), (3, .int (-1)), (2, .int r4), (0, .ref (V.2.2.1 + 92)), (1, .int p1)] (Nat.le_of_ble_eq_true rfl) rfl dX12_tightest_27 ?_
    refine g_sub [3, 2, 1, 0] rfl ?_
    obtain ⟨v20, hi21, h⟩ := bd_e h
    refine tl_Mo_tightest_L29 X  hi21 ?_
    refine g_aload_n (pc := 77) X 0 rfl dX12_tightest_77 ?_
    refine g_iload_n (pc := 78) X 1 rfl dX12_tightest_78 ?_
    obtain ⟨r23, σ24, hc22, h⟩ := bd2_e h
    refine g_callV (pc := 79) X k_ml_X12_294 (run_Mo_orNone  hc22) s_92 rfl (room_ok (Nat.le_of_ble_eq_true rfl) (Nat.le_of_ble_eq_true rfl)) ⟨Nat.le_refl _, Nat.le_refl _⟩ _ rfl (Nat.le_of_ble_eq_true rfl) dX12_tightest_79 ?_
    show Go V Γ M_X12_tightest (Zm V Γ 3 fin) 82 [(0, .ref (V.2.2.1 + 92)), (3, .int v20)] [.int r23] σ24
    cases h
    exact g_iret (pc := 82) X rfl rfl (hr _ _ hA) dX12_tightest_82
  · replace h := if_t c28 h
    refine g_aload_n (pc := 12) X 0 rfl dX12_tightest_12 ?_
    refine g_iconst (v := 1) (pc := 13) X rfl dX12_tightest_13 ?_
    obtain ⟨r26, σ27, hc25, h⟩ := bd2_e h
    refine g_callV (pc := 14) X k_ml_X12_88 (run_Mo_refuse  hc25) s_92 rfl (room_ok (Nat.le_of_ble_eq_true rfl) (Nat.le_of_ble_eq_true rfl)) ⟨Nat.le_refl _, Nat.le_refl _⟩ _ rfl (Nat.le_of_ble_eq_true rfl) dX12_tightest_14 ?_
    show Go V Γ M_X12_tightest (Zm V Γ 3 fin) 17 [(0, .ref (V.2.2.1 + 92)), (1, .int p1)] [.int r26] σ27
    cases h
    exact g_iret (pc := 17) X rfl rfl (hr _ _ hA) dX12_tightest_17
set_option maxRecDepth 100000 in
theorem run_Mo_tightest {V : Ev} {σ : St} {p1 : Int32} {o : (Int32 × St)}   (h : Mo_tightest σ p1 = some o) : Rs V 3 M_X12_tightest [.ref (V.2.2.1 + 92), .int p1] σ (some (.int o.1), o.2) := by
  refine Rs.of (by decide +kernel) (Nat.le_of_ble_eq_true rfl) (fun Γ X => ?_)
  exact tm_Mo_tightest X (A := fun o1 => o1 = o)  (fun _ _ e => by rw [← e]) h rfl
theorem dX12_turn_0 : decode cX12_turn 0 = .ok (.aload_n 0, 1) := by decide +kernel
theorem dX12_turn_1 : decode cX12_turn 1 = .ok (.iload_n 1, 1) := by decide +kernel
theorem dX12_turn_2 : decode cX12_turn 2 = .ok (.invokevirtual 286, 3) := by decide +kernel
theorem dX12_turn_5 : decode cX12_turn 5 = .ok (.ifCond .ne 9, 3) := by decide +kernel
theorem dX12_turn_8 : decode cX12_turn 8 = .ok (.aload_n 0, 1) := by decide +kernel
theorem dX12_turn_9 : decode cX12_turn 9 = .ok (.iconst 1, 1) := by decide +kernel
theorem dX12_turn_10 : decode cX12_turn 10 = .ok (.invokevirtual 88, 3) := by decide +kernel
theorem dX12_turn_13 : decode cX12_turn 13 = .ok (.ireturn, 1) := by decide +kernel
theorem dX12_turn_14 : decode cX12_turn 14 = .ok (.aload_n 0, 1) := by decide +kernel
theorem dX12_turn_15 : decode cX12_turn 15 = .ok (.getfield 7, 3) := by decide +kernel
theorem dX12_turn_18 : decode cX12_turn 18 = .ok (.iload_n 1, 1) := by decide +kernel
theorem dX12_turn_19 : decode cX12_turn 19 = .ok (.invokestatic 180, 3) := by decide +kernel
theorem dX12_turn_22 : decode cX12_turn 22 = .ok (.iconst 2, 1) := by decide +kernel
theorem dX12_turn_23 : decode cX12_turn 23 = .ok (.iadd, 1) := by decide +kernel
theorem dX12_turn_24 : decode cX12_turn 24 = .ok (.iconst 1, 1) := by decide +kernel
theorem dX12_turn_25 : decode cX12_turn 25 = .ok (.aload_n 0, 1) := by decide +kernel
theorem dX12_turn_26 : decode cX12_turn 26 = .ok (.getfield 7, 3) := by decide +kernel
theorem dX12_turn_29 : decode cX12_turn 29 = .ok (.iload_n 1, 1) := by decide +kernel
theorem dX12_turn_30 : decode cX12_turn 30 = .ok (.invokestatic 180, 3) := by decide +kernel
theorem dX12_turn_33 : decode cX12_turn 33 = .ok (.iconst 2, 1) := by decide +kernel
theorem dX12_turn_34 : decode cX12_turn 34 = .ok (.iadd, 1) := by decide +kernel
theorem dX12_turn_35 : decode cX12_turn 35 = .ok (.iaload, 1) := by decide +kernel
theorem dX12_turn_36 : decode cX12_turn 36 = .ok (.isub, 1) := by decide +kernel
theorem dX12_turn_37 : decode cX12_turn 37 = .ok (.iastore, 1) := by decide +kernel
theorem dX12_turn_38 : decode cX12_turn 38 = .ok (.aload_n 0, 1) := by decide +kernel
theorem dX12_turn_39 : decode cX12_turn 39 = .ok (.aload_n 0, 1) := by decide +kernel
theorem dX12_turn_40 : decode cX12_turn 40 = .ok (.getfield 7, 3) := by decide +kernel
theorem dX12_turn_43 : decode cX12_turn 43 = .ok (.iload_n 1, 1) := by decide +kernel
theorem dX12_turn_44 : decode cX12_turn 44 = .ok (.invokestatic 180, 3) := by decide +kernel
theorem dX12_turn_47 : decode cX12_turn 47 = .ok (.iconst 2, 1) := by decide +kernel
theorem dX12_turn_48 : decode cX12_turn 48 = .ok (.iadd, 1) := by decide +kernel
theorem dX12_turn_49 : decode cX12_turn 49 = .ok (.iaload, 1) := by decide +kernel
theorem dX12_turn_50 : decode cX12_turn 50 = .ok (.invokevirtual 92, 3) := by decide +kernel
theorem dX12_turn_53 : decode cX12_turn 53 = .ok (.ireturn, 1) := by decide +kernel
noncomputable def Mo_turn (σ : St) (p1 : Int32) : Option (Int32 × St) :=
  bd (Mo_isClass σ p1) (fun r2 => if r2 = 0 then (bd2 (Mo_refuse σ 1) (fun r17 σ18 => some (r17, σ18))) else (bd (Mo_rowOf p1) (fun r4 => bd (Mo_rowOf p1) (fun r6 => chk (ix (r6 + 2) 2060) (chk (ix (r4 + 2) 2060) (bnd (wI σ 93 (tn (r4 + 2)) (1 - (σ.1 93 (tn (r6 + 2))))) (fun σ9 => bd (Mo_rowOf p1) (fun r11 => chk (ix (r11 + 2) 2060) (bd2 (Mo_gives σ9 (σ9.1 93 (tn (r11 + 2)))) (fun r14 σ15 => some (r14, σ15)))))))))))
set_option maxRecDepth 100000 in
set_option maxHeartbeats 4000000 in
theorem tm_Mo_turn {V : Ev} {Γ : Cn} {fin : Option Value × St} {σ : St} {p1 : Int32} {o : (Int32 × St)} (X : Cx V Γ M_X12_turn) {A : (Int32 × St) → Prop}  (hr : ∀ (r : Int32) (σ9 : St), A (r, σ9) → (some (.int r), σ9) = fin) (h : Mo_turn σ p1 = some o) (hA : A o) : Go V Γ M_X12_turn (Zm V Γ 1 fin) 0 [(0, .ref (V.2.2.1 + 92)), (1, .int p1)] [] σ := by
  unfold Mo_turn at h
  refine g_aload_n (pc := 0) X 0 rfl dX12_turn_0 ?_
  refine g_iload_n (pc := 1) X 1 rfl dX12_turn_1 ?_
  obtain ⟨r2, hc1, h⟩ := bd_e h
  refine g_callV (pc := 2) X k_ml_X12_286 (run_Mo_isClass  hc1) s_92 rfl (room_ok (Nat.le_of_ble_eq_true rfl) (Nat.le_of_ble_eq_true rfl)) ⟨Nat.le_refl _, Nat.le_refl _⟩ _ rfl (Nat.le_of_ble_eq_true rfl) dX12_turn_2 ?_
  show Go V Γ M_X12_turn (Zm V Γ 1 fin) 5 [(0, .ref (V.2.2.1 + 92)), (1, .int p1)] [.int r2] σ
  refine g_if_ne (pc := 5) (tgt := 14) X dX12_turn_5 rfl (fun c19 => ?_) (fun c19 => ?_)
  · replace h := if_f c19 h
    refine g_aload_n (pc := 14) X 0 rfl dX12_turn_14 ?_
    refine g_getR (r := 93) (pc := 15) X k_fl_X12_7 s_92 rfl dX12_turn_15 ?_
    refine g_iload_n (pc := 18) X 1 rfl dX12_turn_18 ?_
    obtain ⟨r4, hc3, h⟩ := bd_e h
    refine g_callS (pc := 19) X k_ml_X12_180 (run_Mo_rowOf  hc3) rfl (room_ok (Nat.le_of_ble_eq_true rfl) (Nat.le_of_ble_eq_true rfl)) ⟨Nat.le_refl _, Nat.le_refl _⟩ _ rfl (Nat.le_of_ble_eq_true rfl) dX12_turn_19 ?_
    show Go V Γ M_X12_turn (Zm V Γ 1 fin) 22 [(0, .ref (V.2.2.1 + 92)), (1, .int p1)] [.int r4, .ref (V.2.2.1 + 93)] σ
    refine g_iconst (v := 2) (pc := 22) X rfl dX12_turn_22 ?_
    refine g_iadd (pc := 23) X dX12_turn_23 ?_
    refine g_iconst (v := 1) (pc := 24) X rfl dX12_turn_24 ?_
    refine g_aload_n (pc := 25) X 0 rfl dX12_turn_25 ?_
    refine g_getR (r := 93) (pc := 26) X k_fl_X12_7 s_92 rfl dX12_turn_26 ?_
    refine g_iload_n (pc := 29) X 1 rfl dX12_turn_29 ?_
    obtain ⟨r6, hc5, h⟩ := bd_e h
    refine g_callS (pc := 30) X k_ml_X12_180 (run_Mo_rowOf  hc5) rfl (room_ok (Nat.le_of_ble_eq_true rfl) (Nat.le_of_ble_eq_true rfl)) ⟨Nat.le_refl _, Nat.le_refl _⟩ _ rfl (Nat.le_of_ble_eq_true rfl) dX12_turn_30 ?_
    show Go V Γ M_X12_turn (Zm V Γ 1 fin) 33 [(0, .ref (V.2.2.1 + 92)), (1, .int p1)] [.int r6, .ref (V.2.2.1 + 93), .int 1, .int (r4 + 2), .ref (V.2.2.1 + 93)] σ
    refine g_iconst (v := 2) (pc := 33) X rfl dX12_turn_33 ?_
    refine g_iadd (pc := 34) X dX12_turn_34 ?_
    obtain ⟨c7, h⟩ := chk_e h
    refine g_iald (pc := 35) X s_93 c7 dX12_turn_35 ?_
    refine g_isub (pc := 36) X dX12_turn_36 ?_
    obtain ⟨c8, h⟩ := chk_e h
    refine g_iast (pc := 37) X s_93 c8 dX12_turn_37 ?_
    obtain ⟨σ9, e_σ9, h⟩ := bnd_e h
    refine g_nmS e_σ9 ?_
    refine g_aload_n (pc := 38) X 0 rfl dX12_turn_38 ?_
    refine g_aload_n (pc := 39) X 0 rfl dX12_turn_39 ?_
    refine g_getR (r := 93) (pc := 40) X k_fl_X12_7 s_92 rfl dX12_turn_40 ?_
    refine g_iload_n (pc := 43) X 1 rfl dX12_turn_43 ?_
    obtain ⟨r11, hc10, h⟩ := bd_e h
    refine g_callS (pc := 44) X k_ml_X12_180 (run_Mo_rowOf  hc10) rfl (room_ok (Nat.le_of_ble_eq_true rfl) (Nat.le_of_ble_eq_true rfl)) ⟨Nat.le_refl _, Nat.le_refl _⟩ _ rfl (Nat.le_of_ble_eq_true rfl) dX12_turn_44 ?_
    show Go V Γ M_X12_turn (Zm V Γ 1 fin) 47 [(0, .ref (V.2.2.1 + 92)), (1, .int p1)] [.int r11, .ref (V.2.2.1 + 93), .ref (V.2.2.1 + 92)] σ9
    refine g_iconst (v := 2) (pc := 47) X rfl dX12_turn_47 ?_
    refine g_iadd (pc := 48) X dX12_turn_48 ?_
    obtain ⟨c12, h⟩ := chk_e h
    refine g_iald (pc := 49) X s_93 c12 dX12_turn_49 ?_
    obtain ⟨r14, σ15, hc13, h⟩ := bd2_e h
    refine g_callV (pc := 50) X k_ml_X12_92 (run_Mo_gives  hc13) s_92 rfl (room_ok (Nat.le_of_ble_eq_true rfl) (Nat.le_of_ble_eq_true rfl)) ⟨Nat.le_refl _, Nat.le_refl _⟩ _ rfl (Nat.le_of_ble_eq_true rfl) dX12_turn_50 ?_
    show Go V Γ M_X12_turn (Zm V Γ 1 fin) 53 [(0, .ref (V.2.2.1 + 92)), (1, .int p1)] [.int r14] σ15
    cases h
    exact g_iret (pc := 53) X rfl rfl (hr _ _ hA) dX12_turn_53
  · replace h := if_t c19 h
    refine g_aload_n (pc := 8) X 0 rfl dX12_turn_8 ?_
    refine g_iconst (v := 1) (pc := 9) X rfl dX12_turn_9 ?_
    obtain ⟨r17, σ18, hc16, h⟩ := bd2_e h
    refine g_callV (pc := 10) X k_ml_X12_88 (run_Mo_refuse  hc16) s_92 rfl (room_ok (Nat.le_of_ble_eq_true rfl) (Nat.le_of_ble_eq_true rfl)) ⟨Nat.le_refl _, Nat.le_refl _⟩ _ rfl (Nat.le_of_ble_eq_true rfl) dX12_turn_10 ?_
    show Go V Γ M_X12_turn (Zm V Γ 1 fin) 13 [(0, .ref (V.2.2.1 + 92)), (1, .int p1)] [.int r17] σ18
    cases h
    exact g_iret (pc := 13) X rfl rfl (hr _ _ hA) dX12_turn_13
set_option maxRecDepth 100000 in
theorem run_Mo_turn {V : Ev} {σ : St} {p1 : Int32} {o : (Int32 × St)}   (h : Mo_turn σ p1 = some o) : Rs V 1 M_X12_turn [.ref (V.2.2.1 + 92), .int p1] σ (some (.int o.1), o.2) := by
  refine Rs.of (by decide +kernel) (Nat.le_of_ble_eq_true rfl) (fun Γ X => ?_)
  exact tm_Mo_turn X (A := fun o1 => o1 = o)  (fun _ _ e => by rw [← e]) h rfl
theorem dX12_puts_0 : decode cX12_puts 0 = .ok (.aload_n 0, 1) := by decide +kernel
theorem dX12_puts_1 : decode cX12_puts 1 = .ok (.getfield 7, 3) := by decide +kernel
theorem dX12_puts_4 : decode cX12_puts 4 = .ok (.iconst 0, 1) := by decide +kernel
theorem dX12_puts_5 : decode cX12_puts 5 = .ok (.iaload, 1) := by decide +kernel
theorem dX12_puts_6 : decode cX12_puts 6 = .ok (.istore 4, 2) := by decide +kernel
theorem dX12_puts_8 : decode cX12_puts 8 = .ok (.aload_n 0, 1) := by decide +kernel
theorem dX12_puts_9 : decode cX12_puts 9 = .ok (.getfield 7, 3) := by decide +kernel
theorem dX12_puts_12 : decode cX12_puts 12 = .ok (.iload 4, 2) := by decide +kernel
theorem dX12_puts_14 : decode cX12_puts 14 = .ok (.invokestatic 180, 3) := by decide +kernel
theorem dX12_puts_17 : decode cX12_puts 17 = .ok (.iload_n 1, 1) := by decide +kernel
theorem dX12_puts_18 : decode cX12_puts 18 = .ok (.iastore, 1) := by decide +kernel
theorem dX12_puts_19 : decode cX12_puts 19 = .ok (.aload_n 0, 1) := by decide +kernel
theorem dX12_puts_20 : decode cX12_puts 20 = .ok (.getfield 7, 3) := by decide +kernel
theorem dX12_puts_23 : decode cX12_puts 23 = .ok (.iload 4, 2) := by decide +kernel
theorem dX12_puts_25 : decode cX12_puts 25 = .ok (.invokestatic 180, 3) := by decide +kernel
theorem dX12_puts_28 : decode cX12_puts 28 = .ok (.iconst 1, 1) := by decide +kernel
theorem dX12_puts_29 : decode cX12_puts 29 = .ok (.iadd, 1) := by decide +kernel
theorem dX12_puts_30 : decode cX12_puts 30 = .ok (.iload_n 2, 1) := by decide +kernel
theorem dX12_puts_31 : decode cX12_puts 31 = .ok (.iastore, 1) := by decide +kernel
theorem dX12_puts_32 : decode cX12_puts 32 = .ok (.aload_n 0, 1) := by decide +kernel
theorem dX12_puts_33 : decode cX12_puts 33 = .ok (.getfield 7, 3) := by decide +kernel
theorem dX12_puts_36 : decode cX12_puts 36 = .ok (.iload 4, 2) := by decide +kernel
theorem dX12_puts_38 : decode cX12_puts 38 = .ok (.invokestatic 180, 3) := by decide +kernel
theorem dX12_puts_41 : decode cX12_puts 41 = .ok (.iconst 2, 1) := by decide +kernel
theorem dX12_puts_42 : decode cX12_puts 42 = .ok (.iadd, 1) := by decide +kernel
theorem dX12_puts_43 : decode cX12_puts 43 = .ok (.iload_n 3, 1) := by decide +kernel
theorem dX12_puts_44 : decode cX12_puts 44 = .ok (.iastore, 1) := by decide +kernel
theorem dX12_puts_45 : decode cX12_puts 45 = .ok (.aload_n 0, 1) := by decide +kernel
theorem dX12_puts_46 : decode cX12_puts 46 = .ok (.getfield 13, 3) := by decide +kernel
theorem dX12_puts_49 : decode cX12_puts 49 = .ok (.iload 4, 2) := by decide +kernel
theorem dX12_puts_51 : decode cX12_puts 51 = .ok (.lconst 0, 1) := by decide +kernel
theorem dX12_puts_52 : decode cX12_puts 52 = .ok (.lastore, 1) := by decide +kernel
theorem dX12_puts_53 : decode cX12_puts 53 = .ok (.aload_n 0, 1) := by decide +kernel
theorem dX12_puts_54 : decode cX12_puts 54 = .ok (.getfield 7, 3) := by decide +kernel
theorem dX12_puts_57 : decode cX12_puts 57 = .ok (.iconst 0, 1) := by decide +kernel
theorem dX12_puts_58 : decode cX12_puts 58 = .ok (.dup2, 1) := by decide +kernel
theorem dX12_puts_59 : decode cX12_puts 59 = .ok (.iaload, 1) := by decide +kernel
theorem dX12_puts_60 : decode cX12_puts 60 = .ok (.iconst 1, 1) := by decide +kernel
theorem dX12_puts_61 : decode cX12_puts 61 = .ok (.iadd, 1) := by decide +kernel
theorem dX12_puts_62 : decode cX12_puts 62 = .ok (.iastore, 1) := by decide +kernel
theorem dX12_puts_63 : decode cX12_puts 63 = .ok (.return_, 1) := by decide +kernel
noncomputable def Mo_puts (σ : St) (p1 : Int32) (p2 : Int32) (p3 : Int32) : Option St :=
  chk (ix 0 2060) (bnd ((σ.1 93 (tn 0))) (fun v2 => bd (Mo_rowOf v2) (fun r4 => chk (ix r4 2060) (bnd (wI σ 93 (tn r4) p1) (fun σ6 => bd (Mo_rowOf v2) (fun r8 => chk (ix (r8 + 1) 2060) (bnd (wI σ6 93 (tn (r8 + 1)) p2) (fun σ10 => bd (Mo_rowOf v2) (fun r12 => chk (ix (r12 + 2) 2060) (bnd (wI σ10 93 (tn (r12 + 2)) p3) (fun σ14 => chk (ix v2 60) (bnd (wL σ14 94 (tn v2) 0) (fun σ16 => chk (ix 0 2060) (chk (ix 0 2060) (bnd (wI σ16 93 (tn 0) ((σ16.1 93 (tn 0)) + 1)) (fun σ19 => some σ19))))))))))))))))
set_option maxRecDepth 100000 in
set_option maxHeartbeats 4000000 in
theorem tm_Mo_puts {V : Ev} {Γ : Cn} {fin : Option Value × St} {σ : St} {p1 : Int32} {p2 : Int32} {p3 : Int32} {o : St} (X : Cx V Γ M_X12_puts) {A : St → Prop}  (hr : ∀ (σ9 : St), A σ9 → (none, σ9) = fin) (h : Mo_puts σ p1 p2 p3 = some o) (hA : A o) : Go V Γ M_X12_puts (Zm V Γ 1 fin) 0 [(0, .ref (V.2.2.1 + 92)), (1, .int p1), (2, .int p2), (3, .int p3)] [] σ := by
  unfold Mo_puts at h
  refine g_aload_n (pc := 0) X 0 rfl dX12_puts_0 ?_
  refine g_getR (r := 93) (pc := 1) X k_fl_X12_7 s_92 rfl dX12_puts_1 ?_
  refine g_iconst (v := 0) (pc := 4) X rfl dX12_puts_4 ?_
  obtain ⟨c1, h⟩ := chk_e h
  refine g_iald (pc := 5) X s_93 c1 dX12_puts_5 ?_
  obtain ⟨v2, e_v2, h⟩ := bnd_e h
  refine g_nmI e_v2 ?_
  refine g_istore (pc := 6) X [(4, .int v2), (0, .ref (V.2.2.1 + 92)), (1, .int p1), (2, .int p2), (3, .int p3)] (Nat.le_of_ble_eq_true rfl) rfl dX12_puts_6 ?_
  refine g_aload_n (pc := 8) X 1 rfl dX12_puts_8 ?_
  refine g_getR (r := 93) (pc := 9) X k_fl_X12_7 s_92 rfl dX12_puts_9 ?_
  refine g_iload (pc := 12) X 0 rfl dX12_puts_12 ?_
  obtain ⟨r4, hc3, h⟩ := bd_e h
  refine g_callS (pc := 14) X k_ml_X12_180 (run_Mo_rowOf  hc3) rfl (room_ok (Nat.le_of_ble_eq_true rfl) (Nat.le_of_ble_eq_true rfl)) ⟨Nat.le_refl _, Nat.le_refl _⟩ _ rfl (Nat.le_of_ble_eq_true rfl) dX12_puts_14 ?_
  show Go V Γ M_X12_puts (Zm V Γ 1 fin) 17 [(4, .int v2), (0, .ref (V.2.2.1 + 92)), (1, .int p1), (2, .int p2), (3, .int p3)] [.int r4, .ref (V.2.2.1 + 93)] σ
  refine g_iload_n (pc := 17) X 2 rfl dX12_puts_17 ?_
  obtain ⟨c5, h⟩ := chk_e h
  refine g_iast (pc := 18) X s_93 c5 dX12_puts_18 ?_
  obtain ⟨σ6, e_σ6, h⟩ := bnd_e h
  refine g_nmS e_σ6 ?_
  refine g_aload_n (pc := 19) X 1 rfl dX12_puts_19 ?_
  refine g_getR (r := 93) (pc := 20) X k_fl_X12_7 s_92 rfl dX12_puts_20 ?_
  refine g_iload (pc := 23) X 0 rfl dX12_puts_23 ?_
  obtain ⟨r8, hc7, h⟩ := bd_e h
  refine g_callS (pc := 25) X k_ml_X12_180 (run_Mo_rowOf  hc7) rfl (room_ok (Nat.le_of_ble_eq_true rfl) (Nat.le_of_ble_eq_true rfl)) ⟨Nat.le_refl _, Nat.le_refl _⟩ _ rfl (Nat.le_of_ble_eq_true rfl) dX12_puts_25 ?_
  show Go V Γ M_X12_puts (Zm V Γ 1 fin) 28 [(4, .int v2), (0, .ref (V.2.2.1 + 92)), (1, .int p1), (2, .int p2), (3, .int p3)] [.int r8, .ref (V.2.2.1 + 93)] σ6
  refine g_iconst (v := 1) (pc := 28) X rfl dX12_puts_28 ?_
  refine g_iadd (pc := 29) X dX12_puts_29 ?_
  refine g_iload_n (pc := 30) X 3 rfl dX12_puts_30 ?_
  obtain ⟨c9, h⟩ := chk_e h
  refine g_iast (pc := 31) X s_93 c9 dX12_puts_31 ?_
  obtain ⟨σ10, e_σ10, h⟩ := bnd_e h
  refine g_nmS e_σ10 ?_
  refine g_aload_n (pc := 32) X 1 rfl dX12_puts_32 ?_
  refine g_getR (r := 93) (pc := 33) X k_fl_X12_7 s_92 rfl dX12_puts_33 ?_
  refine g_iload (pc := 36) X 0 rfl dX12_puts_36 ?_
  obtain ⟨r12, hc11, h⟩ := bd_e h
  refine g_callS (pc := 38) X k_ml_X12_180 (run_Mo_rowOf  hc11) rfl (room_ok (Nat.le_of_ble_eq_true rfl) (Nat.le_of_ble_eq_true rfl)) ⟨Nat.le_refl _, Nat.le_refl _⟩ _ rfl (Nat.le_of_ble_eq_true rfl) dX12_puts_38 ?_
  show Go V Γ M_X12_puts (Zm V Γ 1 fin) 41 [(4, .int v2), (0, .ref (V.2.2.1 + 92)), (1, .int p1), (2, .int p2), (3, .int p3)] [.int r12, .ref (V.2.2.1 + 93)] σ10
  refine g_iconst (v := 2) (pc := 41) X rfl dX12_puts_41 ?_
  refine g_iadd (pc := 42) X dX12_puts_42 ?_
  refine g_iload_n (pc := 43) X 4 rfl dX12_puts_43 ?_
  obtain ⟨c13, h⟩ := chk_e h
  refine g_iast (pc := 44) X s_93 c13 dX12_puts_44 ?_
  obtain ⟨σ14, e_σ14, h⟩ := bnd_e h
  refine g_nmS e_σ14 ?_
  refine g_aload_n (pc := 45) X 1 rfl dX12_puts_45 ?_
  refine g_getR (r := 94) (pc := 46) X k_fl_X12_13 s_92 rfl dX12_puts_46 ?_
  refine g_iload (pc := 49) X 0 rfl dX12_puts_49 ?_
  refine g_lconst (v := 0) (pc := 51) X rfl dX12_puts_51 ?_
  obtain ⟨c15, h⟩ := chk_e h
  refine g_last (pc := 52) X s_94 c15 dX12_puts_52 ?_
  obtain ⟨σ16, e_σ16, h⟩ := bnd_e h
  refine g_nmS e_σ16 ?_
  refine g_aload_n (pc := 53) X 1 rfl dX12_puts_53 ?_
  refine g_getR (r := 93) (pc := 54) X k_fl_X12_7 s_92 rfl dX12_puts_54 ?_
  refine g_iconst (v := 0) (pc := 57) X rfl dX12_puts_57 ?_
  refine g_dup2 (pc := 58) X rfl rfl dX12_puts_58 ?_
  obtain ⟨c17, h⟩ := chk_e h
  refine g_iald (pc := 59) X s_93 c17 dX12_puts_59 ?_
  refine g_iconst (v := 1) (pc := 60) X rfl dX12_puts_60 ?_
  refine g_iadd (pc := 61) X dX12_puts_61 ?_
  obtain ⟨c18, h⟩ := chk_e h
  refine g_iast (pc := 62) X s_93 c18 dX12_puts_62 ?_
  obtain ⟨σ19, e_σ19, h⟩ := bnd_e h
  refine g_nmS e_σ19 ?_
  cases h
  exact g_vret (pc := 63) X rfl (hr _ hA) dX12_puts_63
set_option maxRecDepth 100000 in
theorem run_Mo_puts {V : Ev} {σ : St} {p1 : Int32} {p2 : Int32} {p3 : Int32} {o : St}   (h : Mo_puts σ p1 p2 p3 = some o) : Rs V 1 M_X12_puts [.ref (V.2.2.1 + 92), .int p1, .int p2, .int p3] σ (none, o) := by
  refine Rs.of (by decide +kernel) (Nat.le_of_ble_eq_true rfl) (fun Γ X => ?_)
  exact tm_Mo_puts X (A := fun o1 => o1 = o)  (fun _ e => by rw [e]) h rfl
theorem dX12_add_0 : decode cX12_add 0 = .ok (.iload_n 1, 1) := by decide +kernel
theorem dX12_add_1 : decode cX12_add 1 = .ok (.i2l, 1) := by decide +kernel
theorem dX12_add_2 : decode cX12_add 2 = .ok (.lconst 0, 1) := by decide +kernel
theorem dX12_add_3 : decode cX12_add 3 = .ok (.ldc2_w 297, 3) := by decide +kernel
theorem dX12_add_6 : decode cX12_add 6 = .ok (.invokestatic 270, 3) := by decide +kernel
theorem dX12_add_9 : decode cX12_add 9 = .ok (.ifCond .eq 15, 3) := by decide +kernel
theorem dX12_add_12 : decode cX12_add 12 = .ok (.iload_n 2, 1) := by decide +kernel
theorem dX12_add_13 : decode cX12_add 13 = .ok (.i2l, 1) := by decide +kernel
theorem dX12_add_14 : decode cX12_add 14 = .ok (.lconst 1, 1) := by decide +kernel
theorem dX12_add_15 : decode cX12_add 15 = .ok (.ldc2_w 299, 3) := by decide +kernel
theorem dX12_add_18 : decode cX12_add 18 = .ok (.invokestatic 270, 3) := by decide +kernel
theorem dX12_add_21 : decode cX12_add 21 = .ok (.ifCond .ne 9, 3) := by decide +kernel
theorem dX12_add_24 : decode cX12_add 24 = .ok (.aload_n 0, 1) := by decide +kernel
theorem dX12_add_25 : decode cX12_add 25 = .ok (.iconst 1, 1) := by decide +kernel
theorem dX12_add_26 : decode cX12_add 26 = .ok (.invokevirtual 88, 3) := by decide +kernel
theorem dX12_add_29 : decode cX12_add 29 = .ok (.ireturn, 1) := by decide +kernel
theorem dX12_add_30 : decode cX12_add 30 = .ok (.aload_n 0, 1) := by decide +kernel
theorem dX12_add_31 : decode cX12_add 31 = .ok (.getfield 7, 3) := by decide +kernel
theorem dX12_add_34 : decode cX12_add 34 = .ok (.iconst 0, 1) := by decide +kernel
theorem dX12_add_35 : decode cX12_add 35 = .ok (.iaload, 1) := by decide +kernel
theorem dX12_add_36 : decode cX12_add 36 = .ok (.bipush 12, 2) := by decide +kernel
theorem dX12_add_38 : decode cX12_add 38 = .ok (.if_icmp .ne 9, 3) := by decide +kernel
theorem dX12_add_41 : decode cX12_add 41 = .ok (.aload_n 0, 1) := by decide +kernel
theorem dX12_add_42 : decode cX12_add 42 = .ok (.iconst 4, 1) := by decide +kernel
theorem dX12_add_43 : decode cX12_add 43 = .ok (.invokevirtual 88, 3) := by decide +kernel
theorem dX12_add_46 : decode cX12_add 46 = .ok (.ireturn, 1) := by decide +kernel
theorem dX12_add_47 : decode cX12_add 47 = .ok (.aload_n 0, 1) := by decide +kernel
theorem dX12_add_48 : decode cX12_add 48 = .ok (.iload_n 1, 1) := by decide +kernel
theorem dX12_add_49 : decode cX12_add 49 = .ok (.iload_n 2, 1) := by decide +kernel
theorem dX12_add_50 : decode cX12_add 50 = .ok (.irem, 1) := by decide +kernel
theorem dX12_add_51 : decode cX12_add 51 = .ok (.iload_n 2, 1) := by decide +kernel
theorem dX12_add_52 : decode cX12_add 52 = .ok (.iconst 1, 1) := by decide +kernel
theorem dX12_add_53 : decode cX12_add 53 = .ok (.invokevirtual 301, 3) := by decide +kernel
theorem dX12_add_56 : decode cX12_add 56 = .ok (.aload_n 0, 1) := by decide +kernel
theorem dX12_add_57 : decode cX12_add 57 = .ok (.aload_n 0, 1) := by decide +kernel
theorem dX12_add_58 : decode cX12_add 58 = .ok (.getfield 7, 3) := by decide +kernel
theorem dX12_add_61 : decode cX12_add 61 = .ok (.iconst 0, 1) := by decide +kernel
theorem dX12_add_62 : decode cX12_add 62 = .ok (.iaload, 1) := by decide +kernel
theorem dX12_add_63 : decode cX12_add 63 = .ok (.iconst 1, 1) := by decide +kernel
theorem dX12_add_64 : decode cX12_add 64 = .ok (.isub, 1) := by decide +kernel
theorem dX12_add_65 : decode cX12_add 65 = .ok (.invokevirtual 92, 3) := by decide +kernel
theorem dX12_add_68 : decode cX12_add 68 = .ok (.ireturn, 1) := by decide +kernel
noncomputable def Mo_add (σ : St) (p1 : Int32) (p2 : Int32) : Option (Int32 × St) :=
  bd (Mo_isFrom p1.toInt64 0 59) (fun r2 => if r2 = 0 then (bd2 (Mo_refuse σ 1) (fun r4 σ5 => some (r4, σ5))) else (bd (Mo_isFrom p2.toInt64 1 60) (fun r7 => if r7 = 0 then (bd2 (Mo_refuse σ 1) (fun r21 σ22 => some (r21, σ22))) else (chk (ix 0 2060) (if (σ.1 93 (tn 0)) = 12 then (bd2 (Mo_refuse σ 4) (fun r17 σ18 => some (r17, σ18))) else (chk (nzI p2) (bd (Mo_puts σ (jrem p1 p2) p2 1) (fun σ11 => chk (ix 0 2060) (bd2 (Mo_gives σ11 ((σ11.1 93 (tn 0)) - 1)) (fun r14 σ15 => some (r14, σ15)))))))))))
set_option maxRecDepth 100000 in
set_option maxHeartbeats 4000000 in
theorem tm_Mo_add {V : Ev} {Γ : Cn} {fin : Option Value × St} {σ : St} {p1 : Int32} {p2 : Int32} {o : (Int32 × St)} (X : Cx V Γ M_X12_add) {A : (Int32 × St) → Prop}  (hr : ∀ (r : Int32) (σ9 : St), A (r, σ9) → (some (.int r), σ9) = fin) (h : Mo_add σ p1 p2 = some o) (hA : A o) : Go V Γ M_X12_add (Zm V Γ 2 fin) 0 [(0, .ref (V.2.2.1 + 92)), (1, .int p1), (2, .int p2)] [] σ := by
  unfold Mo_add at h
  refine g_iload_n (pc := 0) X 1 rfl dX12_add_0 ?_
  refine g_i2l (pc := 1) X dX12_add_1 ?_
  refine g_lconst (v := 0) (pc := 2) X rfl dX12_add_2 ?_
  refine g_ldc2 (v := 59) (pc := 3) X k_constl_X12_297 dX12_add_3 ?_
  obtain ⟨r2, hc1, h⟩ := bd_e h
  refine g_callS (pc := 6) X k_ml_X12_270 (run_Mo_isFrom  hc1) rfl (room_ok (Nat.le_of_ble_eq_true rfl) (Nat.le_of_ble_eq_true rfl)) ⟨Nat.le_refl _, Nat.le_refl _⟩ _ rfl (Nat.le_of_ble_eq_true rfl) dX12_add_6 ?_
  show Go V Γ M_X12_add (Zm V Γ 2 fin) 9 [(0, .ref (V.2.2.1 + 92)), (1, .int p1), (2, .int p2)] [.int r2] σ
  refine g_if_eq (pc := 9) (tgt := 24) X dX12_add_9 rfl (fun c24 => ?_) (fun c24 => ?_)
  · replace h := if_t c24 h
    refine g_aload_n (pc := 24) X 0 rfl dX12_add_24 ?_
    refine g_iconst (v := 1) (pc := 25) X rfl dX12_add_25 ?_
    obtain ⟨r4, σ5, hc3, h⟩ := bd2_e h
    refine g_callV (pc := 26) X k_ml_X12_88 (run_Mo_refuse  hc3) s_92 rfl (room_ok (Nat.le_of_ble_eq_true rfl) (Nat.le_of_ble_eq_true rfl)) ⟨Nat.le_refl _, Nat.le_refl _⟩ _ rfl (Nat.le_of_ble_eq_true rfl) dX12_add_26 ?_
    show Go V Γ M_X12_add (Zm V Γ 2 fin) 29 [(0, .ref (V.2.2.1 + 92)), (1, .int p1), (2, .int p2)] [.int r4] σ5
    cases h
    exact g_iret (pc := 29) X rfl rfl (hr _ _ hA) dX12_add_29
  · replace h := if_f c24 h
    refine g_iload_n (pc := 12) X 2 rfl dX12_add_12 ?_
    refine g_i2l (pc := 13) X dX12_add_13 ?_
    refine g_lconst (v := 1) (pc := 14) X rfl dX12_add_14 ?_
    refine g_ldc2 (v := 60) (pc := 15) X k_constl_X12_299 dX12_add_15 ?_
    obtain ⟨r7, hc6, h⟩ := bd_e h
    refine g_callS (pc := 18) X k_ml_X12_270 (run_Mo_isFrom  hc6) rfl (room_ok (Nat.le_of_ble_eq_true rfl) (Nat.le_of_ble_eq_true rfl)) ⟨Nat.le_refl _, Nat.le_refl _⟩ _ rfl (Nat.le_of_ble_eq_true rfl) dX12_add_18 ?_
    show Go V Γ M_X12_add (Zm V Γ 2 fin) 21 [(0, .ref (V.2.2.1 + 92)), (1, .int p1), (2, .int p2)] [.int r7] σ
    refine g_if_ne (pc := 21) (tgt := 30) X dX12_add_21 rfl (fun c23 => ?_) (fun c23 => ?_)
    · replace h := if_f c23 h
      refine g_aload_n (pc := 30) X 0 rfl dX12_add_30 ?_
      refine g_getR (r := 93) (pc := 31) X k_fl_X12_7 s_92 rfl dX12_add_31 ?_
      refine g_iconst (v := 0) (pc := 34) X rfl dX12_add_34 ?_
      obtain ⟨c8, h⟩ := chk_e h
      refine g_iald (pc := 35) X s_93 c8 dX12_add_35 ?_
      refine g_bipush (v := 12) (pc := 36) X (by decide) dX12_add_36 ?_
      refine g_icmp_ne (pc := 38) (tgt := 47) X dX12_add_38 rfl (fun c19 => ?_) (fun c19 => ?_)
      · replace h := if_f c19 h
        refine g_aload_n (pc := 47) X 0 rfl dX12_add_47 ?_
        refine g_iload_n (pc := 48) X 1 rfl dX12_add_48 ?_
        refine g_iload_n (pc := 49) X 2 rfl dX12_add_49 ?_
        obtain ⟨c9, h⟩ := chk_e h
        refine g_irem (pc := 50) X (nzI_e c9) dX12_add_50 ?_
        refine g_iload_n (pc := 51) X 2 rfl dX12_add_51 ?_
        refine g_iconst (v := 1) (pc := 52) X rfl dX12_add_52 ?_
        obtain ⟨σ11, hc10, h⟩ := bd_e h
        refine g_callV (pc := 53) X k_ml_X12_301 (run_Mo_puts  hc10) s_92 rfl (room_ok (Nat.le_of_ble_eq_true rfl) (Nat.le_of_ble_eq_true rfl)) ⟨Nat.le_refl _, Nat.le_refl _⟩ _ rfl (Nat.le_of_ble_eq_true rfl) dX12_add_53 ?_
        show Go V Γ M_X12_add (Zm V Γ 2 fin) 56 [(0, .ref (V.2.2.1 + 92)), (1, .int p1), (2, .int p2)] [] σ11
        refine g_aload_n (pc := 56) X 0 rfl dX12_add_56 ?_
        refine g_aload_n (pc := 57) X 0 rfl dX12_add_57 ?_
        refine g_getR (r := 93) (pc := 58) X k_fl_X12_7 s_92 rfl dX12_add_58 ?_
        refine g_iconst (v := 0) (pc := 61) X rfl dX12_add_61 ?_
        obtain ⟨c12, h⟩ := chk_e h
        refine g_iald (pc := 62) X s_93 c12 dX12_add_62 ?_
        refine g_iconst (v := 1) (pc := 63) X rfl dX12_add_63 ?_
        refine g_isub (pc := 64) X dX12_add_64 ?_
        obtain ⟨r14, σ15, hc13, h⟩ := bd2_e h
        refine g_callV (pc := 65) X k_ml_X12_92 (run_Mo_gives  hc13) s_92 rfl (room_ok (Nat.le_of_ble_eq_true rfl) (Nat.le_of_ble_eq_true rfl)) ⟨Nat.le_refl _, Nat.le_refl _⟩ _ rfl (Nat.le_of_ble_eq_true rfl) dX12_add_65 ?_
        show Go V Γ M_X12_add (Zm V Γ 2 fin) 68 [(0, .ref (V.2.2.1 + 92)), (1, .int p1), (2, .int p2)] [.int r14] σ15
        cases h
        exact g_iret (pc := 68) X rfl rfl (hr _ _ hA) dX12_add_68
      · replace h := if_t c19 h
        refine g_aload_n (pc := 41) X 0 rfl dX12_add_41 ?_
        refine g_iconst (v := 4) (pc := 42) X rfl dX12_add_42 ?_
        obtain ⟨r17, σ18, hc16, h⟩ := bd2_e h
        refine g_callV (pc := 43) X k_ml_X12_88 (run_Mo_refuse  hc16) s_92 rfl (room_ok (Nat.le_of_ble_eq_true rfl) (Nat.le_of_ble_eq_true rfl)) ⟨Nat.le_refl _, Nat.le_refl _⟩ _ rfl (Nat.le_of_ble_eq_true rfl) dX12_add_43 ?_
        show Go V Γ M_X12_add (Zm V Γ 2 fin) 46 [(0, .ref (V.2.2.1 + 92)), (1, .int p1), (2, .int p2)] [.int r17] σ18
        cases h
        exact g_iret (pc := 46) X rfl rfl (hr _ _ hA) dX12_add_46
    · replace h := if_t c23 h
      refine g_aload_n (pc := 24) X 0 rfl dX12_add_24 ?_
      refine g_iconst (v := 1) (pc := 25) X rfl dX12_add_25 ?_
      obtain ⟨r21, σ22, hc20, h⟩ := bd2_e h
      refine g_callV (pc := 26) X k_ml_X12_88 (run_Mo_refuse  hc20) s_92 rfl (room_ok (Nat.le_of_ble_eq_true rfl) (Nat.le_of_ble_eq_true rfl)) ⟨Nat.le_refl _, Nat.le_refl _⟩ _ rfl (Nat.le_of_ble_eq_true rfl) dX12_add_26 ?_
      show Go V Γ M_X12_add (Zm V Γ 2 fin) 29 [(0, .ref (V.2.2.1 + 92)), (1, .int p1), (2, .int p2)] [.int r21] σ22
      cases h
      exact g_iret (pc := 29) X rfl rfl (hr _ _ hA) dX12_add_29
set_option maxRecDepth 100000 in
theorem run_Mo_add {V : Ev} {σ : St} {p1 : Int32} {p2 : Int32} {o : (Int32 × St)}   (h : Mo_add σ p1 p2 = some o) : Rs V 2 M_X12_add [.ref (V.2.2.1 + 92), .int p1, .int p2] σ (some (.int o.1), o.2) := by
  refine Rs.of (by decide +kernel) (Nat.le_of_ble_eq_true rfl) (fun Γ X => ?_)
  exact tm_Mo_add X (A := fun o1 => o1 = o)  (fun _ _ e => by rw [← e]) h rfl
theorem dX12_takesAway_0 : decode cX12_takesAway 0 = .ok (.aload_n 0, 1) := by decide +kernel
theorem dX12_takesAway_1 : decode cX12_takesAway 1 = .ok (.getfield 7, 3) := by decide +kernel
theorem dX12_takesAway_4 : decode cX12_takesAway 4 = .ok (.iconst 0, 1) := by decide +kernel
theorem dX12_takesAway_5 : decode cX12_takesAway 5 = .ok (.dup2, 1) := by decide +kernel
theorem dX12_takesAway_6 : decode cX12_takesAway 6 = .ok (.iaload, 1) := by decide +kernel
theorem dX12_takesAway_7 : decode cX12_takesAway 7 = .ok (.iconst 1, 1) := by decide +kernel
theorem dX12_takesAway_8 : decode cX12_takesAway 8 = .ok (.isub, 1) := by decide +kernel
theorem dX12_takesAway_9 : decode cX12_takesAway 9 = .ok (.iastore, 1) := by decide +kernel
theorem dX12_takesAway_10 : decode cX12_takesAway 10 = .ok (.iload_n 1, 1) := by decide +kernel
theorem dX12_takesAway_11 : decode cX12_takesAway 11 = .ok (.istore_n 2, 1) := by decide +kernel
theorem dX12_takesAway_12 : decode cX12_takesAway 12 = .ok (.iload_n 2, 1) := by decide +kernel
theorem dX12_takesAway_13 : decode cX12_takesAway 13 = .ok (.aload_n 0, 1) := by decide +kernel
theorem dX12_takesAway_14 : decode cX12_takesAway 14 = .ok (.getfield 7, 3) := by decide +kernel
theorem dX12_takesAway_17 : decode cX12_takesAway 17 = .ok (.iconst 0, 1) := by decide +kernel
theorem dX12_takesAway_18 : decode cX12_takesAway 18 = .ok (.iaload, 1) := by decide +kernel
theorem dX12_takesAway_19 : decode cX12_takesAway 19 = .ok (.if_icmp .ge 60, 3) := by decide +kernel
theorem dX12_takesAway_22 : decode cX12_takesAway 22 = .ok (.iconst 0, 1) := by decide +kernel
theorem dX12_takesAway_23 : decode cX12_takesAway 23 = .ok (.istore_n 3, 1) := by decide +kernel
theorem dX12_takesAway_24 : decode cX12_takesAway 24 = .ok (.iload_n 3, 1) := by decide +kernel
theorem dX12_takesAway_25 : decode cX12_takesAway 25 = .ok (.iconst 3, 1) := by decide +kernel
theorem dX12_takesAway_26 : decode cX12_takesAway 26 = .ok (.if_icmp .ge 33, 3) := by decide +kernel
theorem dX12_takesAway_29 : decode cX12_takesAway 29 = .ok (.aload_n 0, 1) := by decide +kernel
theorem dX12_takesAway_30 : decode cX12_takesAway 30 = .ok (.getfield 7, 3) := by decide +kernel
theorem dX12_takesAway_33 : decode cX12_takesAway 33 = .ok (.iload_n 2, 1) := by decide +kernel
theorem dX12_takesAway_34 : decode cX12_takesAway 34 = .ok (.invokestatic 180, 3) := by decide +kernel
theorem dX12_takesAway_37 : decode cX12_takesAway 37 = .ok (.iload_n 3, 1) := by decide +kernel
theorem dX12_takesAway_38 : decode cX12_takesAway 38 = .ok (.iadd, 1) := by decide +kernel
theorem dX12_takesAway_39 : decode cX12_takesAway 39 = .ok (.aload_n 0, 1) := by decide +kernel
theorem dX12_takesAway_40 : decode cX12_takesAway 40 = .ok (.getfield 7, 3) := by decide +kernel
theorem dX12_takesAway_43 : decode cX12_takesAway 43 = .ok (.iload_n 2, 1) := by decide +kernel
theorem dX12_takesAway_44 : decode cX12_takesAway 44 = .ok (.iconst 1, 1) := by decide +kernel
theorem dX12_takesAway_45 : decode cX12_takesAway 45 = .ok (.iadd, 1) := by decide +kernel
theorem dX12_takesAway_46 : decode cX12_takesAway 46 = .ok (.invokestatic 180, 3) := by decide +kernel
theorem dX12_takesAway_49 : decode cX12_takesAway 49 = .ok (.iload_n 3, 1) := by decide +kernel
theorem dX12_takesAway_50 : decode cX12_takesAway 50 = .ok (.iadd, 1) := by decide +kernel
theorem dX12_takesAway_51 : decode cX12_takesAway 51 = .ok (.iaload, 1) := by decide +kernel
theorem dX12_takesAway_52 : decode cX12_takesAway 52 = .ok (.iastore, 1) := by decide +kernel
theorem dX12_takesAway_53 : decode cX12_takesAway 53 = .ok (.iinc 3 1, 3) := by decide +kernel
theorem dX12_takesAway_56 : decode cX12_takesAway 56 = .ok (.goto (-32), 3) := by decide +kernel
theorem dX12_takesAway_59 : decode cX12_takesAway 59 = .ok (.aload_n 0, 1) := by decide +kernel
theorem dX12_takesAway_60 : decode cX12_takesAway 60 = .ok (.getfield 13, 3) := by decide +kernel
theorem dX12_takesAway_63 : decode cX12_takesAway 63 = .ok (.iload_n 2, 1) := by decide +kernel
theorem dX12_takesAway_64 : decode cX12_takesAway 64 = .ok (.aload_n 0, 1) := by decide +kernel
theorem dX12_takesAway_65 : decode cX12_takesAway 65 = .ok (.getfield 13, 3) := by decide +kernel
theorem dX12_takesAway_68 : decode cX12_takesAway 68 = .ok (.iload_n 2, 1) := by decide +kernel
theorem dX12_takesAway_69 : decode cX12_takesAway 69 = .ok (.iconst 1, 1) := by decide +kernel
theorem dX12_takesAway_70 : decode cX12_takesAway 70 = .ok (.iadd, 1) := by decide +kernel
theorem dX12_takesAway_71 : decode cX12_takesAway 71 = .ok (.laload, 1) := by decide +kernel
theorem dX12_takesAway_72 : decode cX12_takesAway 72 = .ok (.lastore, 1) := by decide +kernel
theorem dX12_takesAway_73 : decode cX12_takesAway 73 = .ok (.iinc 2 1, 3) := by decide +kernel
theorem dX12_takesAway_76 : decode cX12_takesAway 76 = .ok (.goto (-64), 3) := by decide +kernel
theorem dX12_takesAway_79 : decode cX12_takesAway 79 = .ok (.aload_n 0, 1) := by decide +kernel
theorem dX12_takesAway_80 : decode cX12_takesAway 80 = .ok (.getfield 13, 3) := by decide +kernel
theorem dX12_takesAway_83 : decode cX12_takesAway 83 = .ok (.aload_n 0, 1) := by decide +kernel
theorem dX12_takesAway_84 : decode cX12_takesAway 84 = .ok (.getfield 7, 3) := by decide +kernel
theorem dX12_takesAway_87 : decode cX12_takesAway 87 = .ok (.iconst 0, 1) := by decide +kernel
theorem dX12_takesAway_88 : decode cX12_takesAway 88 = .ok (.iaload, 1) := by decide +kernel
theorem dX12_takesAway_89 : decode cX12_takesAway 89 = .ok (.lconst 0, 1) := by decide +kernel
theorem dX12_takesAway_90 : decode cX12_takesAway 90 = .ok (.lastore, 1) := by decide +kernel
theorem dX12_takesAway_91 : decode cX12_takesAway 91 = .ok (.return_, 1) := by decide +kernel
noncomputable def Mo_takesAway_L24 (l2 : Int32) (σ : St) (x3 : Int32) : Option ((Int32 × St) ⊕ St) :=
  if 3 ≤ x3 then (some (.inr σ)) else (bd (Mo_rowOf l2) (fun r6 => bd (Mo_rowOf (l2 + 1)) (fun r8 => chk (ix (r8 + x3) 2060) (chk (ix (r6 + x3) 2060) (bnd (wI σ 93 (tn (r6 + x3)) (σ.1 93 (tn (r8 + x3)))) (fun σ11 => bnd (x3 + 1) (fun v12 => some (.inl (v12, σ11)))))))))
set_option maxRecDepth 100000 in
set_option maxHeartbeats 4000000 in
theorem tb_Mo_takesAway_L24 {V : Ev} {Γ : Cn} {fin : Option Value × St} {l2 : Int32} {σ : St} {x3 : Int32} {o : ((Int32 × St) ⊕ St)} (X : Cx V Γ M_X12_takesAway) {A : ((Int32 × St) ⊕ St) → Prop}  (hb24 : ∀ (x3 : Int32) (σ9 : St), A (.inl (x3, σ9)) → Go V Γ M_X12_takesAway (Zm V Γ 1 fin) 24 [(0, .ref (V.2.2.1 + 92)), (2, .int l2), (3, .int x3)] [] σ9) (hx24 : ∀ (σ9 : St), A (.inr σ9) → Go V Γ M_X12_takesAway (Zm V Γ 1 fin) 59 [(0, .ref (V.2.2.1 + 92)), (2, .int l2)] [] σ9) (h : Mo_takesAway_L24 l2 σ x3 = some o) (hA : A o) : Go V Γ M_X12_takesAway (Zm V Γ 1 fin) 24 [(0, .ref (V.2.2.1 + 92)), (2, .int l2), (3, .int x3)] [] σ := by
  unfold Mo_takesAway_L24 at h
  refine g_iload_n (pc := 24) X 2 rfl dX12_takesAway_24 ?_
  refine g_iconst (v := 3) (pc := 25) X rfl dX12_takesAway_25 ?_
  refine g_icmp_ge (pc := 26) (tgt := 59) X dX12_takesAway_26 rfl (fun c13 => ?_) (fun c13 => ?_)
  · replace h := if_t c13 h
    refine g_sub [0, 1] rfl ?_
    cases h
    exact hx24 _ hA
  · replace h := if_f c13 h
    refine g_aload_n (pc := 29) X 0 rfl dX12_takesAway_29 ?_
    refine g_getR (r := 93) (pc := 30) X k_fl_X12_7 s_92 rfl dX12_takesAway_30 ?_
    refine g_iload_n (pc := 33) X 1 rfl dX12_takesAway_33 ?_
    obtain ⟨r6, hc5, h⟩ := bd_e h
    refine g_callS (pc := 34) X k_ml_X12_180 (run_Mo_rowOf  hc5) rfl (room_ok (Nat.le_of_ble_eq_true rfl) (Nat.le_of_ble_eq_true rfl)) ⟨Nat.le_refl _, Nat.le_refl _⟩ _ rfl (Nat.le_of_ble_eq_true rfl) dX12_takesAway_34 ?_
    show Go V Γ M_X12_takesAway (Zm V Γ 1 fin) 37 [(0, .ref (V.2.2.1 + 92)), (2, .int l2), (3, .int x3)] [.int r6, .ref (V.2.2.1 + 93)] σ
    refine g_iload_n (pc := 37) X 2 rfl dX12_takesAway_37 ?_
    refine g_iadd (pc := 38) X dX12_takesAway_38 ?_
    refine g_aload_n (pc := 39) X 0 rfl dX12_takesAway_39 ?_
    refine g_getR (r := 93) (pc := 40) X k_fl_X12_7 s_92 rfl dX12_takesAway_40 ?_
    refine g_iload_n (pc := 43) X 1 rfl dX12_takesAway_43 ?_
    refine g_iconst (v := 1) (pc := 44) X rfl dX12_takesAway_44 ?_
    refine g_iadd (pc := 45) X dX12_takesAway_45 ?_
    obtain ⟨r8, hc7, h⟩ := bd_e h
    refine g_callS (pc := 46) X k_ml_X12_180 (run_Mo_rowOf  hc7) rfl (room_ok (Nat.le_of_ble_eq_true rfl) (Nat.le_of_ble_eq_true rfl)) ⟨Nat.le_refl _, Nat.le_refl _⟩ _ rfl (Nat.le_of_ble_eq_true rfl) dX12_takesAway_46 ?_
    show Go V Γ M_X12_takesAway (Zm V Γ 1 fin) 49 [(0, .ref (V.2.2.1 + 92)), (2, .int l2), (3, .int x3)] [.int r8, .ref (V.2.2.1 + 93), .int (r6 + x3), .ref (V.2.2.1 + 93)] σ
    refine g_iload_n (pc := 49) X 2 rfl dX12_takesAway_49 ?_
    refine g_iadd (pc := 50) X dX12_takesAway_50 ?_
    obtain ⟨c9, h⟩ := chk_e h
    refine g_iald (pc := 51) X s_93 c9 dX12_takesAway_51 ?_
    obtain ⟨c10, h⟩ := chk_e h
    refine g_iast (pc := 52) X s_93 c10 dX12_takesAway_52 ?_
    obtain ⟨σ11, e_σ11, h⟩ := bnd_e h
    refine g_nmS e_σ11 ?_
    obtain ⟨v12, e_v12, h⟩ := bnd_e h
    refine g_iinc (pc := 53) (v := v12) X [(3, .int v12), (0, .ref (V.2.2.1 + 92)), (2, .int l2)] 2 rfl (by rw [e_v12]; rfl) (Nat.le_of_ble_eq_true rfl) rfl dX12_takesAway_53 ?_
    refine g_goto (pc := 56) (tgt := 24) X dX12_takesAway_56 rfl ?_
    refine g_sub [1, 2, 0] rfl ?_
    cases h
    exact hb24 _ _ hA
set_option maxRecDepth 100000 in
theorem tl_Mo_takesAway_L24 {V : Ev} {Γ : Cn} {fin : Option Value × St} {l2 : Int32} {x3 : Int32} {σ9 : St} (X : Cx V Γ M_X12_takesAway)  {σ8 : St} {n : Nat} (h : iter (fun s : (Int32 × St) => Mo_takesAway_L24 l2 s.2 s.1) n (x3, σ9) = some σ8) (hK : Go V Γ M_X12_takesAway (Zm V Γ 1 fin) 59 [(0, .ref (V.2.2.1 + 92)), (2, .int l2)] [] σ8) : Go V Γ M_X12_takesAway (Zm V Γ 1 fin) 24 [(0, .ref (V.2.2.1 + 92)), (2, .int l2), (3, .int x3)] [] σ9 := by
  refine iter_go (G := (fun s : (Int32 × St) => Go V Γ M_X12_takesAway (Zm V Γ 1 fin) 24 [(0, .ref (V.2.2.1 + 92)), (2, .int l2), (3, .int s.1)] [] s.2)) (fun s o ho hS => ?_) n (x3, σ9) h
  exact tb_Mo_takesAway_L24 X  (fun _ _ h9 => h9) (fun _ he => by cases he; exact hK) ho hS
noncomputable def Mo_takesAway_L12 (σ : St) (x2 : Int32) : Option ((Int32 × St) ⊕ St) :=
  chk (ix 0 2060) (if (σ.1 93 (tn 0)) ≤ x2 then (some (.inr σ)) else (bd (iter (fun s : (Int32 × St) => Mo_takesAway_L24 x2 s.2 s.1) FUEL (0, σ)) (fun σ14 => chk (ix (x2 + 1) 60) (chk (ix x2 60) (bnd (wL σ14 94 (tn x2) (σ14.2 94 (tn (x2 + 1)))) (fun σ18 => bnd (x2 + 1) (fun v19 => some (.inl (v19, σ18)))))))))
set_option maxRecDepth 100000 in
set_option maxHeartbeats 4000000 in
theorem tb_Mo_takesAway_L12 {V : Ev} {Γ : Cn} {fin : Option Value × St} {σ : St} {x2 : Int32} {o : ((Int32 × St) ⊕ St)} (X : Cx V Γ M_X12_takesAway) {A : ((Int32 × St) ⊕ St) → Prop}  (hb12 : ∀ (x2 : Int32) (σ9 : St), A (.inl (x2, σ9)) → Go V Γ M_X12_takesAway (Zm V Γ 1 fin) 12 [(0, .ref (V.2.2.1 + 92)), (2, .int x2)] [] σ9) (hx12 : ∀ (σ9 : St), A (.inr σ9) → Go V Γ M_X12_takesAway (Zm V Γ 1 fin) 79 [(0, .ref (V.2.2.1 + 92))] [] σ9) (h : Mo_takesAway_L12 σ x2 = some o) (hA : A o) : Go V Γ M_X12_takesAway (Zm V Γ 1 fin) 12 [(0, .ref (V.2.2.1 + 92)), (2, .int x2)] [] σ := by
  unfold Mo_takesAway_L12 at h
  refine g_iload_n (pc := 12) X 1 rfl dX12_takesAway_12 ?_
  refine g_aload_n (pc := 13) X 0 rfl dX12_takesAway_13 ?_
  refine g_getR (r := 93) (pc := 14) X k_fl_X12_7 s_92 rfl dX12_takesAway_14 ?_
  refine g_iconst (v := 0) (pc := 17) X rfl dX12_takesAway_17 ?_
  obtain ⟨c4, h⟩ := chk_e h
  refine g_iald (pc := 18) X s_93 c4 dX12_takesAway_18 ?_
  refine g_icmp_ge (pc := 19) (tgt := 79) X dX12_takesAway_19 rfl (fun c20 => ?_) (fun c20 => ?_)
  · replace h := if_t c20 h
    refine g_sub [0] rfl ?_
    cases h
    exact hx12 _ hA
  · replace h := if_f c20 h
    refine g_iconst (v := 0) (pc := 22) X rfl dX12_takesAway_22 ?_
    refine g_istore_n (pc := 23) X [(3, .int 0), (0, .ref (V.2.2.1 + 92)), (2, .int x2)] rfl (Nat.le_of_ble_eq_true rfl) rfl dX12_takesAway_23 ?_
    refine g_sub [1, 2, 0] rfl ?_
    obtain ⟨σ14, hi15, h⟩ := bd_e h
    refine tl_Mo_takesAway_L24 X  hi15 ?_
    refine g_aload_n (pc := 59) X 0 rfl dX12_takesAway_59 ?_
    refine g_getR (r := 94) (pc := 60) X k_fl_X12_13 s_92 rfl dX12_takesAway_60 ?_
    refine g_iload_n (pc := 63) X 1 rfl dX12_takesAway_63 ?_
    refine g_aload_n (pc := 64) X 0 rfl dX12_takesAway_64 ?_
    refine g_getR (r := 94) (pc := 65) X k_fl_X12_13 s_92 rfl dX12_takesAway_65 ?_
    refine g_iload_n (pc := 68) X 1 rfl dX12_takesAway_68 ?_
    refine g_iconst (v := 1) (pc := 69) X rfl dX12_takesAway_69 ?_
    refine g_iadd (pc := 70) X dX12_takesAway_70 ?_
    obtain ⟨c16, h⟩ := chk_e h
    refine g_lald (pc := 71) X s_94 c16 dX12_takesAway_71 ?_
    obtain ⟨c17, h⟩ := chk_e h
    refine g_last (pc := 72) X s_94 c17 dX12_takesAway_72 ?_
    obtain ⟨σ18, e_σ18, h⟩ := bnd_e h
    refine g_nmS e_σ18 ?_
    obtain ⟨v19, e_v19, h⟩ := bnd_e h
    refine g_iinc (pc := 73) (v := v19) X [(2, .int v19), (0, .ref (V.2.2.1 + 92))] 1 rfl (by rw [e_v19]; rfl) (Nat.le_of_ble_eq_true rfl) rfl dX12_takesAway_73 ?_
    refine g_goto (pc := 76) (tgt := 12) X dX12_takesAway_76 rfl ?_
    refine g_sub [1, 0] rfl ?_
    cases h
    exact hb12 _ _ hA
set_option maxRecDepth 100000 in
theorem tl_Mo_takesAway_L12 {V : Ev} {Γ : Cn} {fin : Option Value × St} {x2 : Int32} {σ9 : St} (X : Cx V Γ M_X12_takesAway)  {σ8 : St} {n : Nat} (h : iter (fun s : (Int32 × St) => Mo_takesAway_L12 s.2 s.1) n (x2, σ9) = some σ8) (hK : Go V Γ M_X12_takesAway (Zm V Γ 1 fin) 79 [(0, .ref (V.2.2.1 + 92))] [] σ8) : Go V Γ M_X12_takesAway (Zm V Γ 1 fin) 12 [(0, .ref (V.2.2.1 + 92)), (2, .int x2)] [] σ9 := by
  refine iter_go (G := (fun s : (Int32 × St) => Go V Γ M_X12_takesAway (Zm V Γ 1 fin) 12 [(0, .ref (V.2.2.1 + 92)), (2, .int s.1)] [] s.2)) (fun s o ho hS => ?_) n (x2, σ9) h
  exact tb_Mo_takesAway_L12 X  (fun _ _ h9 => h9) (fun _ he => by cases he; exact hK) ho hS
noncomputable def Mo_takesAway (σ : St) (p1 : Int32) : Option St :=
  chk (ix 0 2060) (chk (ix 0 2060) (bnd (wI σ 93 (tn 0) ((σ.1 93 (tn 0)) - 1)) (fun σ3 => bd (iter (fun s : (Int32 × St) => Mo_takesAway_L12 s.2 s.1) FUEL (p1, σ3)) (fun σ21 => chk (ix 0 2060) (chk (ix (σ21.1 93 (tn 0)) 60) (bnd (wL σ21 94 (tn (σ21.1 93 (tn 0))) 0) (fun σ25 => some σ25)))))))
set_option maxRecDepth 100000 in
set_option maxHeartbeats 4000000 in
theorem tm_Mo_takesAway {V : Ev} {Γ : Cn} {fin : Option Value × St} {σ : St} {p1 : Int32} {o : St} (X : Cx V Γ M_X12_takesAway) {A : St → Prop}  (hr : ∀ (σ9 : St), A σ9 → (none, σ9) = fin) (h : Mo_takesAway σ p1 = some o) (hA : A o) : Go V Γ M_X12_takesAway (Zm V Γ 1 fin) 0 [(0, .ref (V.2.2.1 + 92)), (1, .int p1)] [] σ := by
  unfold Mo_takesAway at h
  refine g_aload_n (pc := 0) X 0 rfl dX12_takesAway_0 ?_
  refine g_getR (r := 93) (pc := 1) X k_fl_X12_7 s_92 rfl dX12_takesAway_1 ?_
  refine g_iconst (v := 0) (pc := 4) X rfl dX12_takesAway_4 ?_
  refine g_dup2 (pc := 5) X rfl rfl dX12_takesAway_5 ?_
  obtain ⟨c1, h⟩ := chk_e h
  refine g_iald (pc := 6) X s_93 c1 dX12_takesAway_6 ?_
  refine g_iconst (v := 1) (pc := 7) X rfl dX12_takesAway_7 ?_
  refine g_isub (pc := 8) X dX12_takesAway_8 ?_
  obtain ⟨c2, h⟩ := chk_e h
  refine g_iast (pc := 9) X s_93 c2 dX12_takesAway_9 ?_
  obtain ⟨σ3, e_σ3, h⟩ := bnd_e h
  refine g_nmS e_σ3 ?_
  refine g_iload_n (pc := 10) X 1 rfl dX12_takesAway_10 ?_
  refine g_istore_n (pc := 11) X [(2, .int p1), (0, .ref (V.2.2.1 + 92)), (1, .int p1)] rfl (Nat.le_of_ble_eq_true rfl) rfl dX12_takesAway_11 ?_
  refine g_sub [1, 0] rfl ?_
  obtain ⟨σ21, hi22, h⟩ := bd_e h
  refine tl_Mo_takesAway_L12 X  hi22 ?_
  refine g_aload_n (pc := 79) X 0 rfl dX12_takesAway_79 ?_
  refine g_getR (r := 94) (pc := 80) X k_fl_X12_13 s_92 rfl dX12_takesAway_80 ?_
  refine g_aload_n (pc := 83) X 0 rfl dX12_takesAway_83 ?_
  refine g_getR (r := 93) (pc := 84) X k_fl_X12_7 s_92 rfl dX12_takesAway_84 ?_
  refine g_iconst (v := 0) (pc := 87) X rfl dX12_takesAway_87 ?_
  obtain ⟨c23, h⟩ := chk_e h
  refine g_iald (pc := 88) X s_93 c23 dX12_takesAway_88 ?_
  refine g_lconst (v := 0) (pc := 89) X rfl dX12_takesAway_89 ?_
  obtain ⟨c24, h⟩ := chk_e h
  refine g_last (pc := 90) X s_94 c24 dX12_takesAway_90 ?_
  obtain ⟨σ25, e_σ25, h⟩ := bnd_e h
  refine g_nmS e_σ25 ?_
  cases h
  exact g_vret (pc := 91) X rfl (hr _ hA) dX12_takesAway_91
set_option maxRecDepth 100000 in
theorem run_Mo_takesAway {V : Ev} {σ : St} {p1 : Int32} {o : St}   (h : Mo_takesAway σ p1 = some o) : Rs V 1 M_X12_takesAway [.ref (V.2.2.1 + 92), .int p1] σ (none, o) := by
  refine Rs.of (by decide +kernel) (Nat.le_of_ble_eq_true rfl) (fun Γ X => ?_)
  exact tm_Mo_takesAway X (A := fun o1 => o1 = o)  (fun _ e => by rw [e]) h rfl
theorem dX12_drop_0 : decode cX12_drop 0 = .ok (.aload_n 0, 1) := by decide +kernel
theorem dX12_drop_1 : decode cX12_drop 1 = .ok (.iload_n 1, 1) := by decide +kernel
theorem dX12_drop_2 : decode cX12_drop 2 = .ok (.invokevirtual 286, 3) := by decide +kernel
theorem dX12_drop_5 : decode cX12_drop 5 = .ok (.ifCond .ne 9, 3) := by decide +kernel
theorem dX12_drop_8 : decode cX12_drop 8 = .ok (.aload_n 0, 1) := by decide +kernel
theorem dX12_drop_9 : decode cX12_drop 9 = .ok (.iconst 1, 1) := by decide +kernel
theorem dX12_drop_10 : decode cX12_drop 10 = .ok (.invokevirtual 88, 3) := by decide +kernel
theorem dX12_drop_13 : decode cX12_drop 13 = .ok (.ireturn, 1) := by decide +kernel
theorem dX12_drop_14 : decode cX12_drop 14 = .ok (.aload_n 0, 1) := by decide +kernel
theorem dX12_drop_15 : decode cX12_drop 15 = .ok (.iload_n 1, 1) := by decide +kernel
theorem dX12_drop_16 : decode cX12_drop 16 = .ok (.invokevirtual 305, 3) := by decide +kernel
theorem dX12_drop_19 : decode cX12_drop 19 = .ok (.aload_n 0, 1) := by decide +kernel
theorem dX12_drop_20 : decode cX12_drop 20 = .ok (.aload_n 0, 1) := by decide +kernel
theorem dX12_drop_21 : decode cX12_drop 21 = .ok (.getfield 7, 3) := by decide +kernel
theorem dX12_drop_24 : decode cX12_drop 24 = .ok (.iconst 0, 1) := by decide +kernel
theorem dX12_drop_25 : decode cX12_drop 25 = .ok (.iaload, 1) := by decide +kernel
theorem dX12_drop_26 : decode cX12_drop 26 = .ok (.invokevirtual 92, 3) := by decide +kernel
theorem dX12_drop_29 : decode cX12_drop 29 = .ok (.ireturn, 1) := by decide +kernel
noncomputable def Mo_drop (σ : St) (p1 : Int32) : Option (Int32 × St) :=
  bd (Mo_isClass σ p1) (fun r2 => if r2 = 0 then (bd2 (Mo_refuse σ 1) (fun r10 σ11 => some (r10, σ11))) else (bd (Mo_takesAway σ p1) (fun σ4 => chk (ix 0 2060) (bd2 (Mo_gives σ4 (σ4.1 93 (tn 0))) (fun r7 σ8 => some (r7, σ8))))))
set_option maxRecDepth 100000 in
set_option maxHeartbeats 4000000 in
theorem tm_Mo_drop {V : Ev} {Γ : Cn} {fin : Option Value × St} {σ : St} {p1 : Int32} {o : (Int32 × St)} (X : Cx V Γ M_X12_drop) {A : (Int32 × St) → Prop}  (hr : ∀ (r : Int32) (σ9 : St), A (r, σ9) → (some (.int r), σ9) = fin) (h : Mo_drop σ p1 = some o) (hA : A o) : Go V Γ M_X12_drop (Zm V Γ 2 fin) 0 [(0, .ref (V.2.2.1 + 92)), (1, .int p1)] [] σ := by
  unfold Mo_drop at h
  refine g_aload_n (pc := 0) X 0 rfl dX12_drop_0 ?_
  refine g_iload_n (pc := 1) X 1 rfl dX12_drop_1 ?_
  obtain ⟨r2, hc1, h⟩ := bd_e h
  refine g_callV (pc := 2) X k_ml_X12_286 (run_Mo_isClass  hc1) s_92 rfl (room_ok (Nat.le_of_ble_eq_true rfl) (Nat.le_of_ble_eq_true rfl)) ⟨Nat.le_refl _, Nat.le_refl _⟩ _ rfl (Nat.le_of_ble_eq_true rfl) dX12_drop_2 ?_
  show Go V Γ M_X12_drop (Zm V Γ 2 fin) 5 [(0, .ref (V.2.2.1 + 92)), (1, .int p1)] [.int r2] σ
  refine g_if_ne (pc := 5) (tgt := 14) X dX12_drop_5 rfl (fun c12 => ?_) (fun c12 => ?_)
  · replace h := if_f c12 h
    refine g_aload_n (pc := 14) X 0 rfl dX12_drop_14 ?_
    refine g_iload_n (pc := 15) X 1 rfl dX12_drop_15 ?_
    obtain ⟨σ4, hc3, h⟩ := bd_e h
    refine g_callV (pc := 16) X k_ml_X12_305 (run_Mo_takesAway  hc3) s_92 rfl (room_ok (Nat.le_of_ble_eq_true rfl) (Nat.le_of_ble_eq_true rfl)) ⟨Nat.le_refl _, Nat.le_refl _⟩ _ rfl (Nat.le_of_ble_eq_true rfl) dX12_drop_16 ?_
    show Go V Γ M_X12_drop (Zm V Γ 2 fin) 19 [(0, .ref (V.2.2.1 + 92)), (1, .int p1)] [] σ4
    refine g_aload_n (pc := 19) X 0 rfl dX12_drop_19 ?_
    refine g_aload_n (pc := 20) X 0 rfl dX12_drop_20 ?_
    refine g_getR (r := 93) (pc := 21) X k_fl_X12_7 s_92 rfl dX12_drop_21 ?_
    refine g_iconst (v := 0) (pc := 24) X rfl dX12_drop_24 ?_
    obtain ⟨c5, h⟩ := chk_e h
    refine g_iald (pc := 25) X s_93 c5 dX12_drop_25 ?_
    obtain ⟨r7, σ8, hc6, h⟩ := bd2_e h
    refine g_callV (pc := 26) X k_ml_X12_92 (run_Mo_gives  hc6) s_92 rfl (room_ok (Nat.le_of_ble_eq_true rfl) (Nat.le_of_ble_eq_true rfl)) ⟨Nat.le_refl _, Nat.le_refl _⟩ _ rfl (Nat.le_of_ble_eq_true rfl) dX12_drop_26 ?_
    show Go V Γ M_X12_drop (Zm V Γ 2 fin) 29 [(0, .ref (V.2.2.1 + 92)), (1, .int p1)] [.int r7] σ8
    cases h
    exact g_iret (pc := 29) X rfl rfl (hr _ _ hA) dX12_drop_29
  · replace h := if_t c12 h
    refine g_aload_n (pc := 8) X 0 rfl dX12_drop_8 ?_
    refine g_iconst (v := 1) (pc := 9) X rfl dX12_drop_9 ?_
    obtain ⟨r10, σ11, hc9, h⟩ := bd2_e h
    refine g_callV (pc := 10) X k_ml_X12_88 (run_Mo_refuse  hc9) s_92 rfl (room_ok (Nat.le_of_ble_eq_true rfl) (Nat.le_of_ble_eq_true rfl)) ⟨Nat.le_refl _, Nat.le_refl _⟩ _ rfl (Nat.le_of_ble_eq_true rfl) dX12_drop_10 ?_
    show Go V Γ M_X12_drop (Zm V Γ 2 fin) 13 [(0, .ref (V.2.2.1 + 92)), (1, .int p1)] [.int r10] σ11
    cases h
    exact g_iret (pc := 13) X rfl rfl (hr _ _ hA) dX12_drop_13
set_option maxRecDepth 100000 in
theorem run_Mo_drop {V : Ev} {σ : St} {p1 : Int32} {o : (Int32 × St)}   (h : Mo_drop σ p1 = some o) : Rs V 2 M_X12_drop [.ref (V.2.2.1 + 92), .int p1] σ (some (.int o.1), o.2) := by
  refine Rs.of (by decide +kernel) (Nat.le_of_ble_eq_true rfl) (fun Γ X => ?_)
  exact tm_Mo_drop X (A := fun o1 => o1 = o)  (fun _ _ e => by rw [← e]) h rfl
theorem dX12_move_0 : decode cX12_move 0 = .ok (.aload_n 0, 1) := by decide +kernel
theorem dX12_move_1 : decode cX12_move 1 = .ok (.iload_n 1, 1) := by decide +kernel
theorem dX12_move_2 : decode cX12_move 2 = .ok (.invokevirtual 286, 3) := by decide +kernel
theorem dX12_move_5 : decode cX12_move 5 = .ok (.ifCond .eq 15, 3) := by decide +kernel
theorem dX12_move_8 : decode cX12_move 8 = .ok (.iload_n 2, 1) := by decide +kernel
theorem dX12_move_9 : decode cX12_move 9 = .ok (.i2l, 1) := by decide +kernel
theorem dX12_move_10 : decode cX12_move 10 = .ok (.lconst 0, 1) := by decide +kernel
theorem dX12_move_11 : decode cX12_move 11 = .ok (.ldc2_w 297, 3) := by decide +kernel
theorem dX12_move_14 : decode cX12_move 14 = .ok (.invokestatic 270, 3) := by decide +kernel
theorem dX12_move_17 : decode cX12_move 17 = .ok (.ifCond .ne 9, 3) := by decide +kernel
theorem dX12_move_20 : decode cX12_move 20 = .ok (.aload_n 0, 1) := by decide +kernel
theorem dX12_move_21 : decode cX12_move 21 = .ok (.iconst 1, 1) := by decide +kernel
theorem dX12_move_22 : decode cX12_move 22 = .ok (.invokevirtual 88, 3) := by decide +kernel
theorem dX12_move_25 : decode cX12_move 25 = .ok (.ireturn, 1) := by decide +kernel
theorem dX12_move_26 : decode cX12_move 26 = .ok (.aload_n 0, 1) := by decide +kernel
theorem dX12_move_27 : decode cX12_move 27 = .ok (.iload_n 1, 1) := by decide +kernel
theorem dX12_move_28 : decode cX12_move 28 = .ok (.invokevirtual 256, 3) := by decide +kernel
theorem dX12_move_31 : decode cX12_move 31 = .ok (.istore_n 3, 1) := by decide +kernel
theorem dX12_move_32 : decode cX12_move 32 = .ok (.aload_n 0, 1) := by decide +kernel
theorem dX12_move_33 : decode cX12_move 33 = .ok (.getfield 7, 3) := by decide +kernel
theorem dX12_move_36 : decode cX12_move 36 = .ok (.iload_n 1, 1) := by decide +kernel
theorem dX12_move_37 : decode cX12_move 37 = .ok (.invokestatic 180, 3) := by decide +kernel
theorem dX12_move_40 : decode cX12_move 40 = .ok (.iload_n 2, 1) := by decide +kernel
theorem dX12_move_41 : decode cX12_move 41 = .ok (.aload_n 0, 1) := by decide +kernel
theorem dX12_move_42 : decode cX12_move 42 = .ok (.iload_n 1, 1) := by decide +kernel
theorem dX12_move_43 : decode cX12_move 43 = .ok (.invokevirtual 244, 3) := by decide +kernel
theorem dX12_move_46 : decode cX12_move 46 = .ok (.irem, 1) := by decide +kernel
theorem dX12_move_47 : decode cX12_move 47 = .ok (.iastore, 1) := by decide +kernel
theorem dX12_move_48 : decode cX12_move 48 = .ok (.aload_n 0, 1) := by decide +kernel
theorem dX12_move_49 : decode cX12_move 49 = .ok (.iload_n 3, 1) := by decide +kernel
theorem dX12_move_50 : decode cX12_move 50 = .ok (.invokevirtual 92, 3) := by decide +kernel
theorem dX12_move_53 : decode cX12_move 53 = .ok (.ireturn, 1) := by decide +kernel
noncomputable def Mo_move (σ : St) (p1 : Int32) (p2 : Int32) : Option (Int32 × St) :=
  bd (Mo_isClass σ p1) (fun r2 => if r2 = 0 then (bd2 (Mo_refuse σ 1) (fun r4 σ5 => some (r4, σ5))) else (bd (Mo_isFrom p2.toInt64 0 59) (fun r7 => if r7 = 0 then (bd2 (Mo_refuse σ 1) (fun r21 σ22 => some (r21, σ22))) else (bd (Mo_restOf σ p1) (fun r9 => bd (Mo_rowOf p1) (fun r11 => bd (Mo_modulusOf σ p1) (fun r13 => chk (nzI r13) (chk (ix r11 2060) (bnd (wI σ 93 (tn r11) (jrem p2 r13)) (fun σ16 => bd2 (Mo_gives σ16 r9) (fun r18 σ19 => some (r18, σ19))))))))))))
set_option maxRecDepth 100000 in
set_option maxHeartbeats 4000000 in
theorem tm_Mo_move {V : Ev} {Γ : Cn} {fin : Option Value × St} {σ : St} {p1 : Int32} {p2 : Int32} {o : (Int32 × St)} (X : Cx V Γ M_X12_move) {A : (Int32 × St) → Prop}  (hr : ∀ (r : Int32) (σ9 : St), A (r, σ9) → (some (.int r), σ9) = fin) (h : Mo_move σ p1 p2 = some o) (hA : A o) : Go V Γ M_X12_move (Zm V Γ 2 fin) 0 [(0, .ref (V.2.2.1 + 92)), (1, .int p1), (2, .int p2)] [] σ := by
  unfold Mo_move at h
  refine g_aload_n (pc := 0) X 0 rfl dX12_move_0 ?_
  refine g_iload_n (pc := 1) X 1 rfl dX12_move_1 ?_
  obtain ⟨r2, hc1, h⟩ := bd_e h
  refine g_callV (pc := 2) X k_ml_X12_286 (run_Mo_isClass  hc1) s_92 rfl (room_ok (Nat.le_of_ble_eq_true rfl) (Nat.le_of_ble_eq_true rfl)) ⟨Nat.le_refl _, Nat.le_refl _⟩ _ rfl (Nat.le_of_ble_eq_true rfl) dX12_move_2 ?_
  show Go V Γ M_X12_move (Zm V Γ 2 fin) 5 [(0, .ref (V.2.2.1 + 92)), (1, .int p1), (2, .int p2)] [.int r2] σ
  refine g_if_eq (pc := 5) (tgt := 20) X dX12_move_5 rfl (fun c24 => ?_) (fun c24 => ?_)
  · replace h := if_t c24 h
    refine g_aload_n (pc := 20) X 0 rfl dX12_move_20 ?_
    refine g_iconst (v := 1) (pc := 21) X rfl dX12_move_21 ?_
    obtain ⟨r4, σ5, hc3, h⟩ := bd2_e h
    refine g_callV (pc := 22) X k_ml_X12_88 (run_Mo_refuse  hc3) s_92 rfl (room_ok (Nat.le_of_ble_eq_true rfl) (Nat.le_of_ble_eq_true rfl)) ⟨Nat.le_refl _, Nat.le_refl _⟩ _ rfl (Nat.le_of_ble_eq_true rfl) dX12_move_22 ?_
    show Go V Γ M_X12_move (Zm V Γ 2 fin) 25 [(0, .ref (V.2.2.1 + 92)), (1, .int p1), (2, .int p2)] [.int r4] σ5
    cases h
    exact g_iret (pc := 25) X rfl rfl (hr _ _ hA) dX12_move_25
  · replace h := if_f c24 h
    refine g_iload_n (pc := 8) X 2 rfl dX12_move_8 ?_
    refine g_i2l (pc := 9) X dX12_move_9 ?_
    refine g_lconst (v := 0) (pc := 10) X rfl dX12_move_10 ?_
    refine g_ldc2 (v := 59) (pc := 11) X k_constl_X12_297 dX12_move_11 ?_
    obtain ⟨r7, hc6, h⟩ := bd_e h
    refine g_callS (pc := 14) X k_ml_X12_270 (run_Mo_isFrom  hc6) rfl (room_ok (Nat.le_of_ble_eq_true rfl) (Nat.le_of_ble_eq_true rfl)) ⟨Nat.le_refl _, Nat.le_refl _⟩ _ rfl (Nat.le_of_ble_eq_true rfl) dX12_move_14 ?_
    show Go V Γ M_X12_move (Zm V Γ 2 fin) 17 [(0, .ref (V.2.2.1 + 92)), (1, .int p1), (2, .int p2)] [.int r7] σ
    refine g_if_ne (pc := 17) (tgt := 26) X dX12_move_17 rfl (fun c23 => ?_) (fun c23 => ?_)
    · replace h := if_f c23 h
      refine g_aload_n (pc := 26) X 0 rfl dX12_move_26 ?_
      refine g_iload_n (pc := 27) X 1 rfl dX12_move_27 ?_
      obtain ⟨r9, hc8, h⟩ := bd_e h
      refine g_callV (pc := 28) X k_ml_X12_256 (run_Mo_restOf  hc8) s_92 rfl (room_ok (Nat.le_of_ble_eq_true rfl) (Nat.le_of_ble_eq_true rfl)) ⟨Nat.le_refl _, Nat.le_refl _⟩ _ rfl (Nat.le_of_ble_eq_true rfl) dX12_move_28 ?_
      show Go V Γ M_X12_move (Zm V Γ 2 fin) 31 [(0, .ref (V.2.2.1 + 92)), (1, .int p1), (2, .int p2)] [.int r9] σ
      refine g_istore_n (pc := 31) X [(3, .int r9), (0, .ref (V.2.2.1 + 92)), (1, .int p1), (2, .int p2)] rfl (Nat.le_of_ble_eq_true rfl) rfl dX12_move_31 ?_
      refine g_aload_n (pc := 32) X 1 rfl dX12_move_32 ?_
      refine g_getR (r := 93) (pc := 33) X k_fl_X12_7 s_92 rfl dX12_move_33 ?_
      refine g_iload_n (pc := 36) X 2 rfl dX12_move_36 ?_
      obtain ⟨r11, hc10, h⟩ := bd_e h
      refine g_callS (pc := 37) X k_ml_X12_180 (run_Mo_rowOf  hc10) rfl (room_ok (Nat.le_of_ble_eq_true rfl) (Nat.le_of_ble_eq_true rfl)) ⟨Nat.le_refl _, Nat.le_refl _⟩ _ rfl (Nat.le_of_ble_eq_true rfl) dX12_move_37 ?_
      show Go V Γ M_X12_move (Zm V Γ 2 fin) 40 [(3, .int r9), (0, .ref (V.2.2.1 + 92)), (1, .int p1), (2, .int p2)] [.int r11, .ref (V.2.2.1 + 93)] σ
      refine g_iload_n (pc := 40) X 3 rfl dX12_move_40 ?_
      refine g_aload_n (pc := 41) X 1 rfl dX12_move_41 ?_
      refine g_iload_n (pc := 42) X 2 rfl dX12_move_42 ?_
      obtain ⟨r13, hc12, h⟩ := bd_e h
      refine g_callV (pc := 43) X k_ml_X12_244 (run_Mo_modulusOf  hc12) s_92 rfl (room_ok (Nat.le_of_ble_eq_true rfl) (Nat.le_of_ble_eq_true rfl)) ⟨Nat.le_refl _, Nat.le_refl _⟩ _ rfl (Nat.le_of_ble_eq_true rfl) dX12_move_43 ?_
      show Go V Γ M_X12_move (Zm V Γ 2 fin) 46 [(3, .int r9), (0, .ref (V.2.2.1 + 92)), (1, .int p1), (2, .int p2)] [.int r13, .int p2, .int r11, .ref (V.2.2.1 + 93)] σ
      obtain ⟨c14, h⟩ := chk_e h
      refine g_irem (pc := 46) X (nzI_e c14) dX12_move_46 ?_
      obtain ⟨c15, h⟩ := chk_e h
      refine g_iast (pc := 47) X s_93 c15 dX12_move_47 ?_
      obtain ⟨σ16, e_σ16, h⟩ := bnd_e h
      refine g_nmS e_σ16 ?_
      refine g_aload_n (pc := 48) X 1 rfl dX12_move_48 ?_
      refine g_iload_n (pc := 49) X 0 rfl dX12_move_49 ?_
      obtain ⟨r18, σ19, hc17, h⟩ := bd2_e h
      refine g_callV (pc := 50) X k_ml_X12_92 (run_Mo_gives  hc17) s_92 rfl (room_ok (Nat.le_of_ble_eq_true rfl) (Nat.le_of_ble_eq_true rfl)) ⟨Nat.le_refl _, Nat.le_refl _⟩ _ rfl (Nat.le_of_ble_eq_true rfl) dX12_move_50 ?_
      show Go V Γ M_X12_move (Zm V Γ 2 fin) 53 [(3, .int r9), (0, .ref (V.2.2.1 + 92)), (1, .int p1), (2, .int p2)] [.int r18] σ19
      cases h
      exact g_iret (pc := 53) X rfl rfl (hr _ _ hA) dX12_move_53
    · replace h := if_t c23 h
      refine g_aload_n (pc := 20) X 0 rfl dX12_move_20 ?_
      refine g_iconst (v := 1) (pc := 21) X rfl dX12_move_21 ?_
      obtain ⟨r21, σ22, hc20, h⟩ := bd2_e h
      refine g_callV (pc := 22) X k_ml_X12_88 (run_Mo_refuse  hc20) s_92 rfl (room_ok (Nat.le_of_ble_eq_true rfl) (Nat.le_of_ble_eq_true rfl)) ⟨Nat.le_refl _, Nat.le_refl _⟩ _ rfl (Nat.le_of_ble_eq_true rfl) dX12_move_22 ?_
      show Go V Γ M_X12_move (Zm V Γ 2 fin) 25 [(0, .ref (V.2.2.1 + 92)), (1, .int p1), (2, .int p2)] [.int r21] σ22
      cases h
      exact g_iret (pc := 25) X rfl rfl (hr _ _ hA) dX12_move_25
set_option maxRecDepth 100000 in
theorem run_Mo_move {V : Ev} {σ : St} {p1 : Int32} {p2 : Int32} {o : (Int32 × St)}   (h : Mo_move σ p1 p2 = some o) : Rs V 2 M_X12_move [.ref (V.2.2.1 + 92), .int p1, .int p2] σ (some (.int o.1), o.2) := by
  refine Rs.of (by decide +kernel) (Nat.le_of_ble_eq_true rfl) (fun Γ X => ?_)
  exact tm_Mo_move X (A := fun o1 => o1 = o)  (fun _ _ e => by rw [← e]) h rfl
theorem dX12_shifts_0 : decode cX12_shifts 0 = .ok (.iconst 0, 1) := by decide +kernel
theorem dX12_shifts_1 : decode cX12_shifts 1 = .ok (.istore_n 2, 1) := by decide +kernel
theorem dX12_shifts_2 : decode cX12_shifts 2 = .ok (.iload_n 2, 1) := by decide +kernel
theorem dX12_shifts_3 : decode cX12_shifts 3 = .ok (.aload_n 0, 1) := by decide +kernel
theorem dX12_shifts_4 : decode cX12_shifts 4 = .ok (.getfield 7, 3) := by decide +kernel
theorem dX12_shifts_7 : decode cX12_shifts 7 = .ok (.iconst 0, 1) := by decide +kernel
theorem dX12_shifts_8 : decode cX12_shifts 8 = .ok (.iaload, 1) := by decide +kernel
theorem dX12_shifts_9 : decode cX12_shifts 9 = .ok (.if_icmp .ge 31, 3) := by decide +kernel
theorem dX12_shifts_12 : decode cX12_shifts 12 = .ok (.aload_n 0, 1) := by decide +kernel
theorem dX12_shifts_13 : decode cX12_shifts 13 = .ok (.getfield 7, 3) := by decide +kernel
theorem dX12_shifts_16 : decode cX12_shifts 16 = .ok (.iload_n 2, 1) := by decide +kernel
theorem dX12_shifts_17 : decode cX12_shifts 17 = .ok (.invokestatic 180, 3) := by decide +kernel
theorem dX12_shifts_20 : decode cX12_shifts 20 = .ok (.aload_n 0, 1) := by decide +kernel
theorem dX12_shifts_21 : decode cX12_shifts 21 = .ok (.iload_n 2, 1) := by decide +kernel
theorem dX12_shifts_22 : decode cX12_shifts 22 = .ok (.invokevirtual 256, 3) := by decide +kernel
theorem dX12_shifts_25 : decode cX12_shifts 25 = .ok (.iload_n 1, 1) := by decide +kernel
theorem dX12_shifts_26 : decode cX12_shifts 26 = .ok (.iadd, 1) := by decide +kernel
theorem dX12_shifts_27 : decode cX12_shifts 27 = .ok (.aload_n 0, 1) := by decide +kernel
theorem dX12_shifts_28 : decode cX12_shifts 28 = .ok (.iload_n 2, 1) := by decide +kernel
theorem dX12_shifts_29 : decode cX12_shifts 29 = .ok (.invokevirtual 244, 3) := by decide +kernel
theorem dX12_shifts_32 : decode cX12_shifts 32 = .ok (.irem, 1) := by decide +kernel
theorem dX12_shifts_33 : decode cX12_shifts 33 = .ok (.iastore, 1) := by decide +kernel
theorem dX12_shifts_34 : decode cX12_shifts 34 = .ok (.iinc 2 1, 3) := by decide +kernel
theorem dX12_shifts_37 : decode cX12_shifts 37 = .ok (.goto (-35), 3) := by decide +kernel
theorem dX12_shifts_40 : decode cX12_shifts 40 = .ok (.return_, 1) := by decide +kernel
noncomputable def Mo_shifts_L2 (l1 : Int32) (σ : St) (x2 : Int32) : Option ((Int32 × St) ⊕ St) :=
  chk (ix 0 2060) (if (σ.1 93 (tn 0)) ≤ x2 then (some (.inr σ)) else (bd (Mo_rowOf x2) (fun r3 => bd (Mo_restOf σ x2) (fun r5 => bd (Mo_modulusOf σ x2) (fun r7 => chk (nzI r7) (chk (ix r3 2060) (bnd (wI σ 93 (tn r3) (jrem (r5 + l1) r7)) (fun σ10 => bnd (x2 + 1) (fun v11 => some (.inl (v11, σ10)))))))))))
set_option maxRecDepth 100000 in
set_option maxHeartbeats 4000000 in
theorem tb_Mo_shifts_L2 {V : Ev} {Γ : Cn} {fin : Option Value × St} {l1 : Int32} {σ : St} {x2 : Int32} {o : ((Int32 × St) ⊕ St)} (X : Cx V Γ M_X12_shifts) {A : ((Int32 × St) ⊕ St) → Prop}  (hb2 : ∀ (x2 : Int32) (σ9 : St), A (.inl (x2, σ9)) → Go V Γ M_X12_shifts (Zm V Γ 2 fin) 2 [(0, .ref (V.2.2.1 + 92)), (1, .int l1), (2, .int x2)] [] σ9) (hx2 : ∀ (σ9 : St), A (.inr σ9) → Go V Γ M_X12_shifts (Zm V Γ 2 fin) 40 [] [] σ9) (h : Mo_shifts_L2 l1 σ x2 = some o) (hA : A o) : Go V Γ M_X12_shifts (Zm V Γ 2 fin) 2 [(0, .ref (V.2.2.1 + 92)), (1, .int l1), (2, .int x2)] [] σ := by
  unfold Mo_shifts_L2 at h
  refine g_iload_n (pc := 2) X 2 rfl dX12_shifts_2 ?_
  refine g_aload_n (pc := 3) X 0 rfl dX12_shifts_3 ?_
  refine g_getR (r := 93) (pc := 4) X k_fl_X12_7 s_92 rfl dX12_shifts_4 ?_
  refine g_iconst (v := 0) (pc := 7) X rfl dX12_shifts_7 ?_
  obtain ⟨c1, h⟩ := chk_e h
  refine g_iald (pc := 8) X s_93 c1 dX12_shifts_8 ?_
  refine g_icmp_ge (pc := 9) (tgt := 40) X dX12_shifts_9 rfl (fun c12 => ?_) (fun c12 => ?_)
  · replace h := if_t c12 h
    refine g_sub [] rfl ?_
    cases h
    exact hx2 _ hA
  · replace h := if_f c12 h
    refine g_aload_n (pc := 12) X 0 rfl dX12_shifts_12 ?_
    refine g_getR (r := 93) (pc := 13) X k_fl_X12_7 s_92 rfl dX12_shifts_13 ?_
    refine g_iload_n (pc := 16) X 2 rfl dX12_shifts_16 ?_
    obtain ⟨r3, hc2, h⟩ := bd_e h
    refine g_callS (pc := 17) X k_ml_X12_180 (run_Mo_rowOf  hc2) rfl (room_ok (Nat.le_of_ble_eq_true rfl) (Nat.le_of_ble_eq_true rfl)) ⟨Nat.le_refl _, Nat.le_refl _⟩ _ rfl (Nat.le_of_ble_eq_true rfl) dX12_shifts_17 ?_
    show Go V Γ M_X12_shifts (Zm V Γ 2 fin) 20 [(0, .ref (V.2.2.1 + 92)), (1, .int l1), (2, .int x2)] [.int r3, .ref (V.2.2.1 + 93)] σ
    refine g_aload_n (pc := 20) X 0 rfl dX12_shifts_20 ?_
    refine g_iload_n (pc := 21) X 2 rfl dX12_shifts_21 ?_
    obtain ⟨r5, hc4, h⟩ := bd_e h
    refine g_callV (pc := 22) X k_ml_X12_256 (run_Mo_restOf  hc4) s_92 rfl (room_ok (Nat.le_of_ble_eq_true rfl) (Nat.le_of_ble_eq_true rfl)) ⟨Nat.le_refl _, Nat.le_refl _⟩ _ rfl (Nat.le_of_ble_eq_true rfl) dX12_shifts_22 ?_
    show Go V Γ M_X12_shifts (Zm V Γ 2 fin) 25 [(0, .ref (V.2.2.1 + 92)), (1, .int l1), (2, .int x2)] [.int r5, .int r3, .ref (V.2.2.1 + 93)] σ
    refine g_iload_n (pc := 25) X 1 rfl dX12_shifts_25 ?_
    refine g_iadd (pc := 26) X dX12_shifts_26 ?_
    refine g_aload_n (pc := 27) X 0 rfl dX12_shifts_27 ?_
    refine g_iload_n (pc := 28) X 2 rfl dX12_shifts_28 ?_
    obtain ⟨r7, hc6, h⟩ := bd_e h
    refine g_callV (pc := 29) X k_ml_X12_244 (run_Mo_modulusOf  hc6) s_92 rfl (room_ok (Nat.le_of_ble_eq_true rfl) (Nat.le_of_ble_eq_true rfl)) ⟨Nat.le_refl _, Nat.le_refl _⟩ _ rfl (Nat.le_of_ble_eq_true rfl) dX12_shifts_29 ?_
    show Go V Γ M_X12_shifts (Zm V Γ 2 fin) 32 [(0, .ref (V.2.2.1 + 92)), (1, .int l1), (2, .int x2)] [.int r7, .int (r5 + l1), .int r3, .ref (V.2.2.1 + 93)] σ
    obtain ⟨c8, h⟩ := chk_e h
    refine g_irem (pc := 32) X (nzI_e c8) dX12_shifts_32 ?_
    obtain ⟨c9, h⟩ := chk_e h
    refine g_iast (pc := 33) X s_93 c9 dX12_shifts_33 ?_
    obtain ⟨σ10, e_σ10, h⟩ := bnd_e h
    refine g_nmS e_σ10 ?_
    obtain ⟨v11, e_v11, h⟩ := bnd_e h
    refine g_iinc (pc := 34) (v := v11) X [(2, .int v11), (0, .ref (V.2.2.1 + 92)), (1, .int l1)] 2 rfl (by rw [e_v11]; rfl) (Nat.le_of_ble_eq_true rfl) rfl dX12_shifts_34 ?_
    refine g_goto (pc := 37) (tgt := 2) X dX12_shifts_37 rfl ?_
    refine g_sub [1, 2, 0] rfl ?_
    cases h
    exact hb2 _ _ hA
set_option maxRecDepth 100000 in
theorem tl_Mo_shifts_L2 {V : Ev} {Γ : Cn} {fin : Option Value × St} {l1 : Int32} {x2 : Int32} {σ9 : St} (X : Cx V Γ M_X12_shifts)  {σ8 : St} {n : Nat} (h : iter (fun s : (Int32 × St) => Mo_shifts_L2 l1 s.2 s.1) n (x2, σ9) = some σ8) (hK : Go V Γ M_X12_shifts (Zm V Γ 2 fin) 40 [] [] σ8) : Go V Γ M_X12_shifts (Zm V Γ 2 fin) 2 [(0, .ref (V.2.2.1 + 92)), (1, .int l1), (2, .int x2)] [] σ9 := by
  refine iter_go (G := (fun s : (Int32 × St) => Go V Γ M_X12_shifts (Zm V Γ 2 fin) 2 [(0, .ref (V.2.2.1 + 92)), (1, .int l1), (2, .int s.1)] [] s.2)) (fun s o ho hS => ?_) n (x2, σ9) h
  exact tb_Mo_shifts_L2 X  (fun _ _ h9 => h9) (fun _ he => by cases he; exact hK) ho hS
noncomputable def Mo_shifts (σ : St) (p1 : Int32) : Option St :=
  bd (iter (fun s : (Int32 × St) => Mo_shifts_L2 p1 s.2 s.1) FUEL (0, σ)) (fun σ13 => some σ13)
set_option maxRecDepth 100000 in
set_option maxHeartbeats 4000000 in
theorem tm_Mo_shifts {V : Ev} {Γ : Cn} {fin : Option Value × St} {σ : St} {p1 : Int32} {o : St} (X : Cx V Γ M_X12_shifts) {A : St → Prop}  (hr : ∀ (σ9 : St), A σ9 → (none, σ9) = fin) (h : Mo_shifts σ p1 = some o) (hA : A o) : Go V Γ M_X12_shifts (Zm V Γ 2 fin) 0 [(0, .ref (V.2.2.1 + 92)), (1, .int p1)] [] σ := by
  unfold Mo_shifts at h
  refine g_iconst (v := 0) (pc := 0) X rfl dX12_shifts_0 ?_
  refine g_istore_n (pc := 1) X [(2, .int 0), (0, .ref (V.2.2.1 + 92)), (1, .int p1)] rfl (Nat.le_of_ble_eq_true rfl) rfl dX12_shifts_1 ?_
  refine g_sub [1, 2, 0] rfl ?_
  obtain ⟨σ13, hi14, h⟩ := bd_e h
  refine tl_Mo_shifts_L2 X  hi14 ?_
  cases h
  exact g_vret (pc := 40) X rfl (hr _ hA) dX12_shifts_40
set_option maxRecDepth 100000 in
theorem run_Mo_shifts {V : Ev} {σ : St} {p1 : Int32} {o : St}   (h : Mo_shifts σ p1 = some o) : Rs V 2 M_X12_shifts [.ref (V.2.2.1 + 92), .int p1] σ (none, o) := by
  refine Rs.of (by decide +kernel) (Nat.le_of_ble_eq_true rfl) (fun Γ X => ?_)
  exact tm_Mo_shifts X (A := fun o1 => o1 = o)  (fun _ e => by rw [e]) h rfl
theorem dX12_shift_0 : decode cX12_shift 0 = .ok (.iload_n 1, 1) := by decide +kernel
theorem dX12_shift_1 : decode cX12_shift 1 = .ok (.i2l, 1) := by decide +kernel
theorem dX12_shift_2 : decode cX12_shift 2 = .ok (.lconst 0, 1) := by decide +kernel
theorem dX12_shift_3 : decode cX12_shift 3 = .ok (.ldc2_w 297, 3) := by decide +kernel
theorem dX12_shift_6 : decode cX12_shift 6 = .ok (.invokestatic 270, 3) := by decide +kernel
theorem dX12_shift_9 : decode cX12_shift 9 = .ok (.ifCond .ne 9, 3) := by decide +kernel
theorem dX12_shift_12 : decode cX12_shift 12 = .ok (.aload_n 0, 1) := by decide +kernel
theorem dX12_shift_13 : decode cX12_shift 13 = .ok (.iconst 1, 1) := by decide +kernel
theorem dX12_shift_14 : decode cX12_shift 14 = .ok (.invokevirtual 95, 3) := by decide +kernel
theorem dX12_shift_17 : decode cX12_shift 17 = .ok (.ireturn, 1) := by decide +kernel
theorem dX12_shift_18 : decode cX12_shift 18 = .ok (.aload_n 0, 1) := by decide +kernel
theorem dX12_shift_19 : decode cX12_shift 19 = .ok (.iload_n 1, 1) := by decide +kernel
theorem dX12_shift_20 : decode cX12_shift 20 = .ok (.invokevirtual 308, 3) := by decide +kernel
theorem dX12_shift_23 : decode cX12_shift 23 = .ok (.aload_n 0, 1) := by decide +kernel
theorem dX12_shift_24 : decode cX12_shift 24 = .ok (.iconst 0, 1) := by decide +kernel
theorem dX12_shift_25 : decode cX12_shift 25 = .ok (.invokevirtual 95, 3) := by decide +kernel
theorem dX12_shift_28 : decode cX12_shift 28 = .ok (.ireturn, 1) := by decide +kernel
noncomputable def Mo_shift (σ : St) (p1 : Int32) : Option (Int32 × St) :=
  bd (Mo_isFrom p1.toInt64 0 59) (fun r2 => if r2 = 0 then (bd2 (Mo_is σ 1) (fun r10 σ11 => chk (ckz r10) (some (r10, σ11)))) else (bd (Mo_shifts σ p1) (fun σ4 => bd2 (Mo_is σ4 0) (fun r6 σ7 => chk (ckz r6) (some (r6, σ7))))))
set_option maxRecDepth 100000 in
set_option maxHeartbeats 4000000 in
theorem tm_Mo_shift {V : Ev} {Γ : Cn} {fin : Option Value × St} {σ : St} {p1 : Int32} {o : (Int32 × St)} (X : Cx V Γ M_X12_shift) {A : (Int32 × St) → Prop}  (hr : ∀ (r : Int32) (σ9 : St), A (r, σ9) → (some (.int r), σ9) = fin) (h : Mo_shift σ p1 = some o) (hA : A o) : Go V Γ M_X12_shift (Zm V Γ 3 fin) 0 [(0, .ref (V.2.2.1 + 92)), (1, .int p1)] [] σ := by
  unfold Mo_shift at h
  refine g_iload_n (pc := 0) X 1 rfl dX12_shift_0 ?_
  refine g_i2l (pc := 1) X dX12_shift_1 ?_
  refine g_lconst (v := 0) (pc := 2) X rfl dX12_shift_2 ?_
  refine g_ldc2 (v := 59) (pc := 3) X k_constl_X12_297 dX12_shift_3 ?_
  obtain ⟨r2, hc1, h⟩ := bd_e h
  refine g_callS (pc := 6) X k_ml_X12_270 (run_Mo_isFrom  hc1) rfl (room_ok (Nat.le_of_ble_eq_true rfl) (Nat.le_of_ble_eq_true rfl)) ⟨Nat.le_refl _, Nat.le_refl _⟩ _ rfl (Nat.le_of_ble_eq_true rfl) dX12_shift_6 ?_
  show Go V Γ M_X12_shift (Zm V Γ 3 fin) 9 [(0, .ref (V.2.2.1 + 92)), (1, .int p1)] [.int r2] σ
  refine g_if_ne (pc := 9) (tgt := 18) X dX12_shift_9 rfl (fun c13 => ?_) (fun c13 => ?_)
  · replace h := if_f c13 h
    refine g_aload_n (pc := 18) X 0 rfl dX12_shift_18 ?_
    refine g_iload_n (pc := 19) X 1 rfl dX12_shift_19 ?_
    obtain ⟨σ4, hc3, h⟩ := bd_e h
    refine g_callV (pc := 20) X k_ml_X12_308 (run_Mo_shifts  hc3) s_92 rfl (room_ok (Nat.le_of_ble_eq_true rfl) (Nat.le_of_ble_eq_true rfl)) ⟨Nat.le_refl _, Nat.le_refl _⟩ _ rfl (Nat.le_of_ble_eq_true rfl) dX12_shift_20 ?_
    show Go V Γ M_X12_shift (Zm V Γ 3 fin) 23 [(0, .ref (V.2.2.1 + 92)), (1, .int p1)] [] σ4
    refine g_aload_n (pc := 23) X 0 rfl dX12_shift_23 ?_
    refine g_iconst (v := 0) (pc := 24) X rfl dX12_shift_24 ?_
    obtain ⟨r6, σ7, hc5, h⟩ := bd2_e h
    refine g_callV (pc := 25) X k_ml_X12_95 (run_Mo_is  hc5) s_92 rfl (room_ok (Nat.le_of_ble_eq_true rfl) (Nat.le_of_ble_eq_true rfl)) ⟨Nat.le_refl _, Nat.le_refl _⟩ _ rfl (Nat.le_of_ble_eq_true rfl) dX12_shift_25 ?_
    show Go V Γ M_X12_shift (Zm V Γ 3 fin) 28 [(0, .ref (V.2.2.1 + 92)), (1, .int p1)] [.int r6] σ7
    obtain ⟨c8, h⟩ := chk_e h
    cases h
    exact g_iret (pc := 28) X rfl (ckz_e c8).1 (hr _ _ hA) dX12_shift_28
  · replace h := if_t c13 h
    refine g_aload_n (pc := 12) X 0 rfl dX12_shift_12 ?_
    refine g_iconst (v := 1) (pc := 13) X rfl dX12_shift_13 ?_
    obtain ⟨r10, σ11, hc9, h⟩ := bd2_e h
    refine g_callV (pc := 14) X k_ml_X12_95 (run_Mo_is  hc9) s_92 rfl (room_ok (Nat.le_of_ble_eq_true rfl) (Nat.le_of_ble_eq_true rfl)) ⟨Nat.le_refl _, Nat.le_refl _⟩ _ rfl (Nat.le_of_ble_eq_true rfl) dX12_shift_14 ?_
    show Go V Γ M_X12_shift (Zm V Γ 3 fin) 17 [(0, .ref (V.2.2.1 + 92)), (1, .int p1)] [.int r10] σ11
    obtain ⟨c12, h⟩ := chk_e h
    cases h
    exact g_iret (pc := 17) X rfl (ckz_e c12).1 (hr _ _ hA) dX12_shift_17
set_option maxRecDepth 100000 in
theorem run_Mo_shift {V : Ev} {σ : St} {p1 : Int32} {o : (Int32 × St)}   (h : Mo_shift σ p1 = some o) : Rs V 3 M_X12_shift [.ref (V.2.2.1 + 92), .int p1] σ (some (.int o.1), o.2) := by
  refine Rs.of (by decide +kernel) (Nat.le_of_ble_eq_true rfl) (fun Γ X => ?_)
  exact tm_Mo_shift X (A := fun o1 => o1 = o)  (fun _ _ e => by rw [← e]) h rfl
theorem dX12_spread_0 : decode cX12_spread 0 = .ok (.iload_n 1, 1) := by decide +kernel
theorem dX12_spread_1 : decode cX12_spread 1 = .ok (.i2l, 1) := by decide +kernel
theorem dX12_spread_2 : decode cX12_spread 2 = .ok (.ldc2_w 311, 3) := by decide +kernel
theorem dX12_spread_5 : decode cX12_spread 5 = .ok (.ldc2_w 299, 3) := by decide +kernel
theorem dX12_spread_8 : decode cX12_spread 8 = .ok (.invokestatic 270, 3) := by decide +kernel
theorem dX12_spread_11 : decode cX12_spread 11 = .ok (.ifCond .ne 9, 3) := by decide +kernel
theorem dX12_spread_14 : decode cX12_spread 14 = .ok (.aload_n 0, 1) := by decide +kernel
theorem dX12_spread_15 : decode cX12_spread 15 = .ok (.iconst 1, 1) := by decide +kernel
theorem dX12_spread_16 : decode cX12_spread 16 = .ok (.invokevirtual 88, 3) := by decide +kernel
theorem dX12_spread_19 : decode cX12_spread 19 = .ok (.ireturn, 1) := by decide +kernel
theorem dX12_spread_20 : decode cX12_spread 20 = .ok (.iconst (-1), 1) := by decide +kernel
theorem dX12_spread_21 : decode cX12_spread 21 = .ok (.istore_n 2, 1) := by decide +kernel
theorem dX12_spread_22 : decode cX12_spread 22 = .ok (.iconst 0, 1) := by decide +kernel
theorem dX12_spread_23 : decode cX12_spread 23 = .ok (.istore_n 3, 1) := by decide +kernel
theorem dX12_spread_24 : decode cX12_spread 24 = .ok (.iload_n 3, 1) := by decide +kernel
theorem dX12_spread_25 : decode cX12_spread 25 = .ok (.aload_n 0, 1) := by decide +kernel
theorem dX12_spread_26 : decode cX12_spread 26 = .ok (.getfield 7, 3) := by decide +kernel
theorem dX12_spread_29 : decode cX12_spread 29 = .ok (.iconst 0, 1) := by decide +kernel
theorem dX12_spread_30 : decode cX12_spread 30 = .ok (.iaload, 1) := by decide +kernel
theorem dX12_spread_31 : decode cX12_spread 31 = .ok (.if_icmp .ge 21, 3) := by decide +kernel
theorem dX12_spread_34 : decode cX12_spread 34 = .ok (.iload_n 2, 1) := by decide +kernel
theorem dX12_spread_35 : decode cX12_spread 35 = .ok (.iload_n 1, 1) := by decide +kernel
theorem dX12_spread_36 : decode cX12_spread 36 = .ok (.aload_n 0, 1) := by decide +kernel
theorem dX12_spread_37 : decode cX12_spread 37 = .ok (.iload_n 3, 1) := by decide +kernel
theorem dX12_spread_38 : decode cX12_spread 38 = .ok (.invokevirtual 244, 3) := by decide +kernel
theorem dX12_spread_41 : decode cX12_spread 41 = .ok (.imul, 1) := by decide +kernel
theorem dX12_spread_42 : decode cX12_spread 42 = .ok (.invokestatic 313, 3) := by decide +kernel
theorem dX12_spread_45 : decode cX12_spread 45 = .ok (.istore_n 2, 1) := by decide +kernel
theorem dX12_spread_46 : decode cX12_spread 46 = .ok (.iinc 3 1, 3) := by decide +kernel
theorem dX12_spread_49 : decode cX12_spread 49 = .ok (.goto (-25), 3) := by decide +kernel
theorem dX12_spread_52 : decode cX12_spread 52 = .ok (.iload_n 2, 1) := by decide +kernel
theorem dX12_spread_53 : decode cX12_spread 53 = .ok (.bipush 60, 2) := by decide +kernel
theorem dX12_spread_55 : decode cX12_spread 55 = .ok (.if_icmp .le 10, 3) := by decide +kernel
theorem dX12_spread_58 : decode cX12_spread 58 = .ok (.aload_n 0, 1) := by decide +kernel
theorem dX12_spread_59 : decode cX12_spread 59 = .ok (.bipush 7, 2) := by decide +kernel
theorem dX12_spread_61 : decode cX12_spread 61 = .ok (.invokevirtual 88, 3) := by decide +kernel
theorem dX12_spread_64 : decode cX12_spread 64 = .ok (.ireturn, 1) := by decide +kernel
theorem dX12_spread_65 : decode cX12_spread 65 = .ok (.iconst 0, 1) := by decide +kernel
theorem dX12_spread_66 : decode cX12_spread 66 = .ok (.istore_n 3, 1) := by decide +kernel
theorem dX12_spread_67 : decode cX12_spread 67 = .ok (.iload_n 3, 1) := by decide +kernel
theorem dX12_spread_68 : decode cX12_spread 68 = .ok (.aload_n 0, 1) := by decide +kernel
theorem dX12_spread_69 : decode cX12_spread 69 = .ok (.getfield 7, 3) := by decide +kernel
theorem dX12_spread_72 : decode cX12_spread 72 = .ok (.iconst 0, 1) := by decide +kernel
theorem dX12_spread_73 : decode cX12_spread 73 = .ok (.iaload, 1) := by decide +kernel
theorem dX12_spread_74 : decode cX12_spread 74 = .ok (.if_icmp .ge 37, 3) := by decide +kernel
theorem dX12_spread_77 : decode cX12_spread 77 = .ok (.aload_n 0, 1) := by decide +kernel
theorem dX12_spread_78 : decode cX12_spread 78 = .ok (.getfield 7, 3) := by decide +kernel
theorem dX12_spread_81 : decode cX12_spread 81 = .ok (.iload_n 3, 1) := by decide +kernel
theorem dX12_spread_82 : decode cX12_spread 82 = .ok (.invokestatic 180, 3) := by decide +kernel
theorem dX12_spread_85 : decode cX12_spread 85 = .ok (.dup2, 1) := by decide +kernel
theorem dX12_spread_86 : decode cX12_spread 86 = .ok (.iaload, 1) := by decide +kernel
theorem dX12_spread_87 : decode cX12_spread 87 = .ok (.iload_n 1, 1) := by decide +kernel
theorem dX12_spread_88 : decode cX12_spread 88 = .ok (.imul, 1) := by decide +kernel
theorem dX12_spread_89 : decode cX12_spread 89 = .ok (.iastore, 1) := by decide +kernel
theorem dX12_spread_90 : decode cX12_spread 90 = .ok (.aload_n 0, 1) := by decide +kernel
theorem dX12_spread_91 : decode cX12_spread 91 = .ok (.getfield 7, 3) := by decide +kernel
theorem dX12_spread_94 : decode cX12_spread 94 = .ok (.iload_n 3, 1) := by decide +kernel
theorem dX12_spread_95 : decode cX12_spread 95 = .ok (.invokestatic 180, 3) := by decide +kernel
theorem dX12_spread_98 : decode cX12_spread 98 = .ok (.iconst 1, 1) := by decide +kernel
theorem dX12_spread_99 : decode cX12_spread 99 = .ok (.iadd, 1) := by decide +kernel
theorem dX12_spread_100 : decode cX12_spread 100 = .ok (.dup2, 1) := by decide +kernel
theorem dX12_spread_101 : decode cX12_spread 101 = .ok (.iaload, 1) := by decide +kernel
theorem dX12_spread_102 : decode cX12_spread 102 = .ok (.iload_n 1, 1) := by decide +kernel
theorem dX12_spread_103 : decode cX12_spread 103 = .ok (.imul, 1) := by decide +kernel
theorem dX12_spread_104 : decode cX12_spread 104 = .ok (.iastore, 1) := by decide +kernel
theorem dX12_spread_105 : decode cX12_spread 105 = .ok (.iinc 3 1, 3) := by decide +kernel
theorem dX12_spread_108 : decode cX12_spread 108 = .ok (.goto (-41), 3) := by decide +kernel
theorem dX12_spread_111 : decode cX12_spread 111 = .ok (.aload_n 0, 1) := by decide +kernel
theorem dX12_spread_112 : decode cX12_spread 112 = .ok (.iload_n 2, 1) := by decide +kernel
theorem dX12_spread_113 : decode cX12_spread 113 = .ok (.invokevirtual 294, 3) := by decide +kernel
theorem dX12_spread_116 : decode cX12_spread 116 = .ok (.ireturn, 1) := by decide +kernel
noncomputable def Mo_spread_L24 (l1 : Int32) (σ : St) (x2 : Int32) (x3 : Int32) : Option ((Int32 × Int32) ⊕ Int32) :=
  chk (ix 0 2060) (if (σ.1 93 (tn 0)) ≤ x3 then (some (.inr x2)) else (bd (Mo_modulusOf σ x3) (fun r5 => bnd ((jmax x2 (l1 * r5))) (fun v6 => bnd (x3 + 1) (fun v7 => some (.inl (v6, v7)))))))
set_option maxRecDepth 100000 in
set_option maxHeartbeats 4000000 in
theorem tb_Mo_spread_L24 {V : Ev} {Γ : Cn} {fin : Option Value × St} {l1 : Int32} {σ : St} {x2 : Int32} {x3 : Int32} {o : ((Int32 × Int32) ⊕ Int32)} (X : Cx V Γ M_X12_spread) {A : ((Int32 × Int32) ⊕ Int32) → Prop}  (hb24 : ∀ (x2 : Int32) (x3 : Int32), A (.inl (x2, x3)) → Go V Γ M_X12_spread (Zm V Γ 2 fin) 24 [(0, .ref (V.2.2.1 + 92)), (1, .int l1), (2, .int x2), (3, .int x3)] [] σ) (hx24 : ∀ (x2 : Int32), A (.inr x2) → Go V Γ M_X12_spread (Zm V Γ 2 fin) 52 [(0, .ref (V.2.2.1 + 92)), (1, .int l1), (2, .int x2)] [] σ) (h : Mo_spread_L24 l1 σ x2 x3 = some o) (hA : A o) : Go V Γ M_X12_spread (Zm V Γ 2 fin) 24 [(0, .ref (V.2.2.1 + 92)), (1, .int l1), (2, .int x2), (3, .int x3)] [] σ := by
  unfold Mo_spread_L24 at h
  refine g_iload_n (pc := 24) X 3 rfl dX12_spread_24 ?_
  refine g_aload_n (pc := 25) X 0 rfl dX12_spread_25 ?_
  refine g_getR (r := 93) (pc := 26) X k_fl_X12_7 s_92 rfl dX12_spread_26 ?_
  refine g_iconst (v := 0) (pc := 29) X rfl dX12_spread_29 ?_
  obtain ⟨c3, h⟩ := chk_e h
  refine g_iald (pc := 30) X s_93 c3 dX12_spread_30 ?_
  refine g_icmp_ge (pc := 31) (tgt := 52) X dX12_spread_31 rfl (fun c8 => ?_) (fun c8 => ?_)
  · replace h := if_t c8 h
    refine g_sub [0, 1, 2] rfl ?_
    cases h
    exact hx24 _ hA
  · replace h := if_f c8 h
    refine g_iload_n (pc := 34) X 2 rfl dX12_spread_34 ?_
    refine g_iload_n (pc := 35) X 1 rfl dX12_spread_35 ?_
    refine g_aload_n (pc := 36) X 0 rfl dX12_spread_36 ?_
    refine g_iload_n (pc := 37) X 3 rfl dX12_spread_37 ?_
    obtain ⟨r5, hc4, h⟩ := bd_e h
    refine g_callV (pc := 38) X k_ml_X12_244 (run_Mo_modulusOf  hc4) s_92 rfl (room_ok (Nat.le_of_ble_eq_true rfl) (Nat.le_of_ble_eq_true rfl)) ⟨Nat.le_refl _, Nat.le_refl _⟩ _ rfl (Nat.le_of_ble_eq_true rfl) dX12_spread_38 ?_
    show Go V Γ M_X12_spread (Zm V Γ 2 fin) 41 [(0, .ref (V.2.2.1 + 92)), (1, .int l1), (2, .int x2), (3, .int x3)] [.int r5, .int l1, .int x2] σ
    refine g_imul (pc := 41) X dX12_spread_41 ?_
    refine g_max (pc := 42) X k_ml_X12_313 (Nat.le_of_ble_eq_true rfl) (Nat.le_of_ble_eq_true rfl) (Nat.le_refl _) (Nat.le_refl _) dX12_spread_42 ?_
    obtain ⟨v6, e_v6, h⟩ := bnd_e h
    refine g_nmI e_v6 ?_
    refine g_istore_n (pc := 45) X [(2, .int v6), (0, .ref (V.2.2.1 + 92)), (1, .int l1), (3, .int x3)] rfl (Nat.le_of_ble_eq_true rfl) rfl dX12_spread_45 ?_
    obtain ⟨v7, e_v7, h⟩ := bnd_e h
    refine g_iinc (pc := 46) (v := v7) X [(3, .int v7), (2, .int v6), (0, .ref (V.2.2.1 + 92)), (1, .int l1)] 3 rfl (by rw [e_v7]; rfl) (Nat.le_of_ble_eq_true rfl) rfl dX12_spread_46 ?_
    refine g_goto (pc := 49) (tgt := 24) X dX12_spread_49 rfl ?_
    refine g_sub [2, 3, 1, 0] rfl ?_
    cases h
    exact hb24 _ _ hA
set_option maxRecDepth 100000 in
theorem tl_Mo_spread_L24 {V : Ev} {Γ : Cn} {fin : Option Value × St} {l1 : Int32} {σ : St} {x2 : Int32} {x3 : Int32} (X : Cx V Γ M_X12_spread)  {y2 : Int32} {n : Nat} (h : iter (fun s : (Int32 × Int32) => Mo_spread_L24 l1 σ s.1 s.2) n (x2, x3) = some y2) (hK : Go V Γ M_X12_spread (Zm V Γ 2 fin) 52 [(0, .ref (V.2.2.1 + 92)), (1, .int l1), (2, .int y2)] [] σ) : Go V Γ M_X12_spread (Zm V Γ 2 fin) 24 [(0, .ref (V.2.2.1 + 92)), (1, .int l1), (2, .int x2), (3, .int x3)] [] σ := by
  refine iter_go (G := (fun s : (Int32 × Int32) => Go V Γ M_X12_spread (Zm V Γ 2 fin) 24 [(0, .ref (V.2.2.1 + 92)), (1, .int l1), (2, .int s.1), (3, .int s.2)] [] σ)) (fun s o ho hS => ?_) n (x2, x3) h
  exact tb_Mo_spread_L24 X  (fun _ _ h9 => h9) (fun _ he => by cases he; exact hK) ho hS
noncomputable def Mo_spread_L67 (l1 : Int32) (l2 : Int32) (σ : St) (x3 : Int32) : Option ((Int32 × St) ⊕ St) :=
  chk (ix 0 2060) (if (σ.1 93 (tn 0)) ≤ x3 then (some (.inr σ)) else (bd (Mo_rowOf x3) (fun r13 => chk (ix r13 2060) (chk (ix r13 2060) (bnd (wI σ 93 (tn r13) ((σ.1 93 (tn r13)) * l1)) (fun σ16 => bd (Mo_rowOf x3) (fun r18 => chk (ix (r18 + 1) 2060) (chk (ix (r18 + 1) 2060) (bnd (wI σ16 93 (tn (r18 + 1)) ((σ16.1 93 (tn (r18 + 1))) * l1)) (fun σ21 => bnd (x3 + 1) (fun v22 => some (.inl (v22, σ21)))))))))))))
set_option maxRecDepth 100000 in
set_option maxHeartbeats 4000000 in
theorem tb_Mo_spread_L67 {V : Ev} {Γ : Cn} {fin : Option Value × St} {l1 : Int32} {l2 : Int32} {σ : St} {x3 : Int32} {o : ((Int32 × St) ⊕ St)} (X : Cx V Γ M_X12_spread) {A : ((Int32 × St) ⊕ St) → Prop}  (hb67 : ∀ (x3 : Int32) (σ9 : St), A (.inl (x3, σ9)) → Go V Γ M_X12_spread (Zm V Γ 2 fin) 67 [(0, .ref (V.2.2.1 + 92)), (1, .int l1), (2, .int l2), (3, .int x3)] [] σ9) (hx67 : ∀ (σ9 : St), A (.inr σ9) → Go V Γ M_X12_spread (Zm V Γ 2 fin) 111 [(0, .ref (V.2.2.1 + 92)), (2, .int l2)] [] σ9) (h : Mo_spread_L67 l1 l2 σ x3 = some o) (hA : A o) : Go V Γ M_X12_spread (Zm V Γ 2 fin) 67 [(0, .ref (V.2.2.1 + 92)), (1, .int l1), (2, .int l2), (3, .int x3)] [] σ := by
  unfold Mo_spread_L67 at h
  refine g_iload_n (pc := 67) X 3 rfl dX12_spread_67 ?_
  refine g_aload_n (pc := 68) X 0 rfl dX12_spread_68 ?_
  refine g_getR (r := 93) (pc := 69) X k_fl_X12_7 s_92 rfl dX12_spread_69 ?_
  refine g_iconst (v := 0) (pc := 72) X rfl dX12_spread_72 ?_
  obtain ⟨c11, h⟩ := chk_e h
  refine g_iald (pc := 73) X s_93 c11 dX12_spread_73 ?_
  refine g_icmp_ge (pc := 74) (tgt := 111) X dX12_spread_74 rfl (fun c23 => ?_) (fun c23 => ?_)
  · replace h := if_t c23 h
    refine g_sub [0, 2] rfl ?_
    cases h
    exact hx67 _ hA
  · replace h := if_f c23 h
    refine g_aload_n (pc := 77) X 0 rfl dX12_spread_77 ?_
    refine g_getR (r := 93) (pc := 78) X k_fl_X12_7 s_92 rfl dX12_spread_78 ?_
    refine g_iload_n (pc := 81) X 3 rfl dX12_spread_81 ?_
    obtain ⟨r13, hc12, h⟩ := bd_e h
    refine g_callS (pc := 82) X k_ml_X12_180 (run_Mo_rowOf  hc12) rfl (room_ok (Nat.le_of_ble_eq_true rfl) (Nat.le_of_ble_eq_true rfl)) ⟨Nat.le_refl _, Nat.le_refl _⟩ _ rfl (Nat.le_of_ble_eq_true rfl) dX12_spread_82 ?_
    show Go V Γ M_X12_spread (Zm V Γ 2 fin) 85 [(0, .ref (V.2.2.1 + 92)), (1, .int l1), (2, .int l2), (3, .int x3)] [.int r13, .ref (V.2.2.1 + 93)] σ
    refine g_dup2 (pc := 85) X rfl rfl dX12_spread_85 ?_
    obtain ⟨c14, h⟩ := chk_e h
    refine g_iald (pc := 86) X s_93 c14 dX12_spread_86 ?_
    refine g_iload_n (pc := 87) X 1 rfl dX12_spread_87 ?_
    refine g_imul (pc := 88) X dX12_spread_88 ?_
    obtain ⟨c15, h⟩ := chk_e h
    refine g_iast (pc := 89) X s_93 c15 dX12_spread_89 ?_
    obtain ⟨σ16, e_σ16, h⟩ := bnd_e h
    refine g_nmS e_σ16 ?_
    refine g_aload_n (pc := 90) X 0 rfl dX12_spread_90 ?_
    refine g_getR (r := 93) (pc := 91) X k_fl_X12_7 s_92 rfl dX12_spread_91 ?_
    refine g_iload_n (pc := 94) X 3 rfl dX12_spread_94 ?_
    obtain ⟨r18, hc17, h⟩ := bd_e h
    refine g_callS (pc := 95) X k_ml_X12_180 (run_Mo_rowOf  hc17) rfl (room_ok (Nat.le_of_ble_eq_true rfl) (Nat.le_of_ble_eq_true rfl)) ⟨Nat.le_refl _, Nat.le_refl _⟩ _ rfl (Nat.le_of_ble_eq_true rfl) dX12_spread_95 ?_
    show Go V Γ M_X12_spread (Zm V Γ 2 fin) 98 [(0, .ref (V.2.2.1 + 92)), (1, .int l1), (2, .int l2), (3, .int x3)] [.int r18, .ref (V.2.2.1 + 93)] σ16
    refine g_iconst (v := 1) (pc := 98) X rfl dX12_spread_98 ?_
    refine g_iadd (pc := 99) X dX12_spread_99 ?_
    refine g_dup2 (pc := 100) X rfl rfl dX12_spread_100 ?_
    obtain ⟨c19, h⟩ := chk_e h
    refine g_iald (pc := 101) X s_93 c19 dX12_spread_101 ?_
    refine g_iload_n (pc := 102) X 1 rfl dX12_spread_102 ?_
    refine g_imul (pc := 103) X dX12_spread_103 ?_
    obtain ⟨c20, h⟩ := chk_e h
    refine g_iast (pc := 104) X s_93 c20 dX12_spread_104 ?_
    obtain ⟨σ21, e_σ21, h⟩ := bnd_e h
    refine g_nmS e_σ21 ?_
    obtain ⟨v22, e_v22, h⟩ := bnd_e h
    refine g_iinc (pc := 105) (v := v22) X [(3, .int v22), (0, .ref (V.2.2.1 + 92)), (1, .int l1), (2, .int l2)] 3 rfl (by rw [e_v22]; rfl) (Nat.le_of_ble_eq_true rfl) rfl dX12_spread_105 ?_
    refine g_goto (pc := 108) (tgt := 67) X dX12_spread_108 rfl ?_
    refine g_sub [1, 2, 3, 0] rfl ?_
    cases h
    exact hb67 _ _ hA
set_option maxRecDepth 100000 in
theorem tl_Mo_spread_L67 {V : Ev} {Γ : Cn} {fin : Option Value × St} {l1 : Int32} {l2 : Int32} {x3 : Int32} {σ9 : St} (X : Cx V Γ M_X12_spread)  {σ8 : St} {n : Nat} (h : iter (fun s : (Int32 × St) => Mo_spread_L67 l1 l2 s.2 s.1) n (x3, σ9) = some σ8) (hK : Go V Γ M_X12_spread (Zm V Γ 2 fin) 111 [(0, .ref (V.2.2.1 + 92)), (2, .int l2)] [] σ8) : Go V Γ M_X12_spread (Zm V Γ 2 fin) 67 [(0, .ref (V.2.2.1 + 92)), (1, .int l1), (2, .int l2), (3, .int x3)] [] σ9 := by
  refine iter_go (G := (fun s : (Int32 × St) => Go V Γ M_X12_spread (Zm V Γ 2 fin) 67 [(0, .ref (V.2.2.1 + 92)), (1, .int l1), (2, .int l2), (3, .int s.1)] [] s.2)) (fun s o ho hS => ?_) n (x3, σ9) h
  exact tb_Mo_spread_L67 X  (fun _ _ h9 => h9) (fun _ he => by cases he; exact hK) ho hS
noncomputable def Mo_spread (σ : St) (p1 : Int32) : Option (Int32 × St) :=
  bd (Mo_isFrom p1.toInt64 2 60) (fun r2 => if r2 = 0 then (bd2 (Mo_refuse σ 1) (fun r34 σ35 => some (r34, σ35))) else (bd (iter (fun s : (Int32 × Int32) => Mo_spread_L24 p1 σ s.1 s.2) FUEL ((-1), 0)) (fun v9 => if v9 ≤ 60 then (bd (iter (fun s : (Int32 × St) => Mo_spread_L67 p1 v9 s.2 s.1) FUEL (0, σ)) (fun σ24 => bd2 (Mo_orNone σ24 v9) (fun r27 σ28 => some (r27, σ28)))) else (bd2 (Mo_refuse σ 7) (fun r30 σ31 => some (r30, σ31))))))
set_option maxRecDepth 100000 in
set_option maxHeartbeats 4000000 in
theorem tm_Mo_spread {V : Ev} {Γ : Cn} {fin : Option Value × St} {σ : St} {p1 : Int32} {o : (Int32 × St)} (X : Cx V Γ M_X12_spread) {A : (Int32 × St) → Prop}  (hr : ∀ (r : Int32) (σ9 : St), A (r, σ9) → (some (.int r), σ9) = fin) (h : Mo_spread σ p1 = some o) (hA : A o) : Go V Γ M_X12_spread (Zm V Γ 2 fin) 0 [(0, .ref (V.2.2.1 + 92)), (1, .int p1)] [] σ := by
  unfold Mo_spread at h
  refine g_iload_n (pc := 0) X 1 rfl dX12_spread_0 ?_
  refine g_i2l (pc := 1) X dX12_spread_1 ?_
  refine g_ldc2 (v := 2) (pc := 2) X k_constl_X12_311 dX12_spread_2 ?_
  refine g_ldc2 (v := 60) (pc := 5) X k_constl_X12_299 dX12_spread_5 ?_
  obtain ⟨r2, hc1, h⟩ := bd_e h
  refine g_callS (pc := 8) X k_ml_X12_270 (run_Mo_isFrom  hc1) rfl (room_ok (Nat.le_of_ble_eq_true rfl) (Nat.le_of_ble_eq_true rfl)) ⟨Nat.le_refl _, Nat.le_refl _⟩ _ rfl (Nat.le_of_ble_eq_true rfl) dX12_spread_8 ?_
  show Go V Γ M_X12_spread (Zm V Γ 2 fin) 11 [(0, .ref (V.2.2.1 + 92)), (1, .int p1)] [.int r2] σ
  refine g_if_ne (pc := 11) (tgt := 20) X dX12_spread_11 rfl (fun c36 => ?_) (fun c36 => ?_)
  · replace h := if_f c36 h
    refine g_iconst (v := (-1)) (pc := 20) X rfl dX12_spread_20 ?_
    refine g_istore_n (pc := 21) X [(2, .int (-1)), (0, .ref (V.2.2.1 + 92)), (1, .int p1)] rfl (Nat.le_of_ble_eq_true rfl) rfl dX12_spread_21 ?_
    refine g_iconst (v := 0) (pc := 22) X rfl dX12_spread_22 ?_
    refine g_istore_n (pc := 23) X [(3, .int 0), (2, .int (-1)), (0, .ref (V.2.2.1 + 92)), (1, .int p1)] rfl (Nat.le_of_ble_eq_true rfl) rfl dX12_spread_23 ?_
    refine g_sub [2, 3, 1, 0] rfl ?_
    obtain ⟨v9, hi10, h⟩ := bd_e h
    refine tl_Mo_spread_L24 X  hi10 ?_
    refine g_iload_n (pc := 52) X 2 rfl dX12_spread_52 ?_
    refine g_bipush (v := 60) (pc := 53) X (by decide) dX12_spread_53 ?_
    refine g_icmp_le (pc := 55) (tgt := 65) X dX12_spread_55 rfl (fun c32 => ?_) (fun c32 => ?_)
    · replace h := if_t c32 h
      refine g_iconst (v := 0) (pc := 65) X rfl dX12_spread_65 ?_
      refine g_istore_n (pc := 66) X [(3, .int 0), (0, .ref (V.2.2.1 + 92)), (1, .int p1), (2, .int v9)] rfl (Nat.le_of_ble_eq_true rfl) rfl dX12_spread_66 ?_
      refine g_sub [1, 2, 3, 0] rfl ?_
      obtain ⟨σ24, hi25, h⟩ := bd_e h
      refine tl_Mo_spread_L67 X  hi25 ?_
      refine g_aload_n (pc := 111) X 0 rfl dX12_spread_111 ?_
      refine g_iload_n (pc := 112) X 1 rfl dX12_spread_112 ?_
      obtain ⟨r27, σ28, hc26, h⟩ := bd2_e h
      refine g_callV (pc := 113) X k_ml_X12_294 (run_Mo_orNone  hc26) s_92 rfl (room_ok (Nat.le_of_ble_eq_true rfl) (Nat.le_of_ble_eq_true rfl)) ⟨Nat.le_refl _, Nat.le_refl _⟩ _ rfl (Nat.le_of_ble_eq_true rfl) dX12_spread_113 ?_
      show Go V Γ M_X12_spread (Zm V Γ 2 fin) 116 [(0, .ref (V.2.2.1 + 92)), (2, .int v9)] [.int r27] σ28
      cases h
      exact g_iret (pc := 116) X rfl rfl (hr _ _ hA) dX12_spread_116
    · replace h := if_f c32 h
      refine g_aload_n (pc := 58) X 0 rfl dX12_spread_58 ?_
      refine g_bipush (v := 7) (pc := 59) X (by decide) dX12_spread_59 ?_
      obtain ⟨r30, σ31, hc29, h⟩ := bd2_e h
      refine g_callV (pc := 61) X k_ml_X12_88 (run_Mo_refuse  hc29) s_92 rfl (room_ok (Nat.le_of_ble_eq_true rfl) (Nat.le_of_ble_eq_true rfl)) ⟨Nat.le_refl _, Nat.le_refl _⟩ _ rfl (Nat.le_of_ble_eq_true rfl) dX12_spread_61 ?_
      show Go V Γ M_X12_spread (Zm V Γ 2 fin) 64 [(0, .ref (V.2.2.1 + 92)), (1, .int p1), (2, .int v9)] [.int r30] σ31
      cases h
      exact g_iret (pc := 64) X rfl rfl (hr _ _ hA) dX12_spread_64
  · replace h := if_t c36 h
    refine g_aload_n (pc := 14) X 0 rfl dX12_spread_14 ?_
    refine g_iconst (v := 1) (pc := 15) X rfl dX12_spread_15 ?_
    obtain ⟨r34, σ35, hc33, h⟩ := bd2_e h
    refine g_callV (pc := 16) X k_ml_X12_88 (run_Mo_refuse  hc33) s_92 rfl (room_ok (Nat.le_of_ble_eq_true rfl) (Nat.le_of_ble_eq_true rfl)) ⟨Nat.le_refl _, Nat.le_refl _⟩ _ rfl (Nat.le_of_ble_eq_true rfl) dX12_spread_16 ?_
    show Go V Γ M_X12_spread (Zm V Γ 2 fin) 19 [(0, .ref (V.2.2.1 + 92)), (1, .int p1)] [.int r34] σ35
    cases h
    exact g_iret (pc := 19) X rfl rfl (hr _ _ hA) dX12_spread_19
set_option maxRecDepth 100000 in
theorem run_Mo_spread {V : Ev} {σ : St} {p1 : Int32} {o : (Int32 × St)}   (h : Mo_spread σ p1 = some o) : Rs V 2 M_X12_spread [.ref (V.2.2.1 + 92), .int p1] σ (some (.int o.1), o.2) := by
  refine Rs.of (by decide +kernel) (Nat.le_of_ble_eq_true rfl) (fun Γ X => ?_)
  exact tm_Mo_spread X (A := fun o1 => o1 = o)  (fun _ _ e => by rw [← e]) h rfl
theorem dX12_whyNotSplit_0 : decode cX12_whyNotSplit 0 = .ok (.aload_n 0, 1) := by decide +kernel
theorem dX12_whyNotSplit_1 : decode cX12_whyNotSplit 1 = .ok (.getfield 7, 3) := by decide +kernel
theorem dX12_whyNotSplit_4 : decode cX12_whyNotSplit 4 = .ok (.iconst 0, 1) := by decide +kernel
theorem dX12_whyNotSplit_5 : decode cX12_whyNotSplit 5 = .ok (.iaload, 1) := by decide +kernel
theorem dX12_whyNotSplit_6 : decode cX12_whyNotSplit 6 = .ok (.iload_n 2, 1) := by decide +kernel
theorem dX12_whyNotSplit_7 : decode cX12_whyNotSplit 7 = .ok (.iadd, 1) := by decide +kernel
theorem dX12_whyNotSplit_8 : decode cX12_whyNotSplit 8 = .ok (.iconst 1, 1) := by decide +kernel
theorem dX12_whyNotSplit_9 : decode cX12_whyNotSplit 9 = .ok (.isub, 1) := by decide +kernel
theorem dX12_whyNotSplit_10 : decode cX12_whyNotSplit 10 = .ok (.bipush 12, 2) := by decide +kernel
theorem dX12_whyNotSplit_12 : decode cX12_whyNotSplit 12 = .ok (.if_icmp .le 7, 3) := by decide +kernel
theorem dX12_whyNotSplit_15 : decode cX12_whyNotSplit 15 = .ok (.iconst 4, 1) := by decide +kernel
theorem dX12_whyNotSplit_16 : decode cX12_whyNotSplit 16 = .ok (.goto 21, 3) := by decide +kernel
theorem dX12_whyNotSplit_19 : decode cX12_whyNotSplit 19 = .ok (.iload_n 2, 1) := by decide +kernel
theorem dX12_whyNotSplit_20 : decode cX12_whyNotSplit 20 = .ok (.aload_n 0, 1) := by decide +kernel
theorem dX12_whyNotSplit_21 : decode cX12_whyNotSplit 21 = .ok (.iload_n 1, 1) := by decide +kernel
theorem dX12_whyNotSplit_22 : decode cX12_whyNotSplit 22 = .ok (.invokevirtual 244, 3) := by decide +kernel
theorem dX12_whyNotSplit_25 : decode cX12_whyNotSplit 25 = .ok (.imul, 1) := by decide +kernel
theorem dX12_whyNotSplit_26 : decode cX12_whyNotSplit 26 = .ok (.bipush 60, 2) := by decide +kernel
theorem dX12_whyNotSplit_28 : decode cX12_whyNotSplit 28 = .ok (.if_icmp .le 8, 3) := by decide +kernel
theorem dX12_whyNotSplit_31 : decode cX12_whyNotSplit 31 = .ok (.bipush 7, 2) := by decide +kernel
theorem dX12_whyNotSplit_33 : decode cX12_whyNotSplit 33 = .ok (.goto 4, 3) := by decide +kernel
theorem dX12_whyNotSplit_36 : decode cX12_whyNotSplit 36 = .ok (.iconst 0, 1) := by decide +kernel
theorem dX12_whyNotSplit_37 : decode cX12_whyNotSplit 37 = .ok (.ireturn, 1) := by decide +kernel
noncomputable def Mo_whyNotSplit (σ : St) (p1 : Int32) (p2 : Int32) : Option Int32 :=
  chk (ix 0 2060) (if (((σ.1 93 (tn 0)) + p2) - 1) ≤ 12 then (bd (Mo_modulusOf σ p1) (fun r3 => if (p2 * r3) ≤ 60 then (some 0) else (some 7))) else (some 4))
set_option maxRecDepth 100000 in
set_option maxHeartbeats 4000000 in
theorem tm_Mo_whyNotSplit {V : Ev} {Γ : Cn} {fin : Option Value × St} {σ : St} {p1 : Int32} {p2 : Int32} {o : Int32} (X : Cx V Γ M_X12_whyNotSplit) {A : Int32 → Prop}  (hr : ∀ (r : Int32), A r → (some (.int r), σ) = fin) (h : Mo_whyNotSplit σ p1 p2 = some o) (hA : A o) : Go V Γ M_X12_whyNotSplit (Zm V Γ 2 fin) 0 [(0, .ref (V.2.2.1 + 92)), (1, .int p1), (2, .int p2)] [] σ := by
  unfold Mo_whyNotSplit at h
  refine g_aload_n (pc := 0) X 0 rfl dX12_whyNotSplit_0 ?_
  refine g_getR (r := 93) (pc := 1) X k_fl_X12_7 s_92 rfl dX12_whyNotSplit_1 ?_
  refine g_iconst (v := 0) (pc := 4) X rfl dX12_whyNotSplit_4 ?_
  obtain ⟨c1, h⟩ := chk_e h
  refine g_iald (pc := 5) X s_93 c1 dX12_whyNotSplit_5 ?_
  refine g_iload_n (pc := 6) X 2 rfl dX12_whyNotSplit_6 ?_
  refine g_iadd (pc := 7) X dX12_whyNotSplit_7 ?_
  refine g_iconst (v := 1) (pc := 8) X rfl dX12_whyNotSplit_8 ?_
  refine g_isub (pc := 9) X dX12_whyNotSplit_9 ?_
  refine g_bipush (v := 12) (pc := 10) X (by decide) dX12_whyNotSplit_10 ?_
  refine g_icmp_le (pc := 12) (tgt := 19) X dX12_whyNotSplit_12 rfl (fun c5 => ?_) (fun c5 => ?_)
  · replace h := if_t c5 h
    refine g_iload_n (pc := 19) X 2 rfl dX12_whyNotSplit_19 ?_
    refine g_aload_n (pc := 20) X 0 rfl dX12_whyNotSplit_20 ?_
    refine g_iload_n (pc := 21) X 1 rfl dX12_whyNotSplit_21 ?_
    obtain ⟨r3, hc2, h⟩ := bd_e h
    refine g_callV (pc := 22) X k_ml_X12_244 (run_Mo_modulusOf  hc2) s_92 rfl (room_ok (Nat.le_of_ble_eq_true rfl) (Nat.le_of_ble_eq_true rfl)) ⟨Nat.le_refl _, Nat.le_refl _⟩ _ rfl (Nat.le_of_ble_eq_true rfl) dX12_whyNotSplit_22 ?_
    show Go V Γ M_X12_whyNotSplit (Zm V Γ 2 fin) 25 [(0, .ref (V.2.2.1 + 92)), (1, .int p1), (2, .int p2)] [.int r3, .int p2] σ
    refine g_imul (pc := 25) X dX12_whyNotSplit_25 ?_
    refine g_bipush (v := 60) (pc := 26) X (by decide) dX12_whyNotSplit_26 ?_
    refine g_icmp_le (pc := 28) (tgt := 36) X dX12_whyNotSplit_28 rfl (fun c4 => ?_) (fun c4 => ?_)
    · replace h := if_t c4 h
      refine g_iconst (v := 0) (pc := 36) X rfl dX12_whyNotSplit_36 ?_
      cases h
      exact g_iret (pc := 37) X rfl rfl (hr _ hA) dX12_whyNotSplit_37
    · replace h := if_f c4 h
      refine g_bipush (v := 7) (pc := 31) X (by decide) dX12_whyNotSplit_31 ?_
      refine g_goto (pc := 33) (tgt := 37) X dX12_whyNotSplit_33 rfl ?_
      cases h
      exact g_iret (pc := 37) X rfl rfl (hr _ hA) dX12_whyNotSplit_37
  · replace h := if_f c5 h
    refine g_iconst (v := 4) (pc := 15) X rfl dX12_whyNotSplit_15 ?_
    refine g_goto (pc := 16) (tgt := 37) X dX12_whyNotSplit_16 rfl ?_
    cases h
    exact g_iret (pc := 37) X rfl rfl (hr _ hA) dX12_whyNotSplit_37
set_option maxRecDepth 100000 in
theorem run_Mo_whyNotSplit {V : Ev} {σ : St} {p1 : Int32} {p2 : Int32} {o : Int32}   (h : Mo_whyNotSplit σ p1 p2 = some o) : Rs V 2 M_X12_whyNotSplit [.ref (V.2.2.1 + 92), .int p1, .int p2] σ (some (.int o), σ) := by
  refine Rs.of (by decide +kernel) (Nat.le_of_ble_eq_true rfl) (fun Γ X => ?_)
  exact tm_Mo_whyNotSplit X (A := fun o1 => o1 = o)  (fun _ e => by rw [e]) h rfl
theorem dX12_splits_0 : decode cX12_splits 0 = .ok (.aload_n 0, 1) := by decide +kernel
theorem dX12_splits_1 : decode cX12_splits 1 = .ok (.iload_n 1, 1) := by decide +kernel
theorem dX12_splits_2 : decode cX12_splits 2 = .ok (.invokevirtual 244, 3) := by decide +kernel
theorem dX12_splits_5 : decode cX12_splits 5 = .ok (.istore_n 3, 1) := by decide +kernel
theorem dX12_splits_6 : decode cX12_splits 6 = .ok (.aload_n 0, 1) := by decide +kernel
theorem dX12_splits_7 : decode cX12_splits 7 = .ok (.getfield 7, 3) := by decide +kernel
theorem dX12_splits_10 : decode cX12_splits 10 = .ok (.iload_n 1, 1) := by decide +kernel
theorem dX12_splits_11 : decode cX12_splits 11 = .ok (.invokestatic 180, 3) := by decide +kernel
theorem dX12_splits_14 : decode cX12_splits 14 = .ok (.iconst 1, 1) := by decide +kernel
theorem dX12_splits_15 : decode cX12_splits 15 = .ok (.iadd, 1) := by decide +kernel
theorem dX12_splits_16 : decode cX12_splits 16 = .ok (.iload_n 2, 1) := by decide +kernel
theorem dX12_splits_17 : decode cX12_splits 17 = .ok (.iload_n 3, 1) := by decide +kernel
theorem dX12_splits_18 : decode cX12_splits 18 = .ok (.imul, 1) := by decide +kernel
theorem dX12_splits_19 : decode cX12_splits 19 = .ok (.iastore, 1) := by decide +kernel
theorem dX12_splits_20 : decode cX12_splits 20 = .ok (.iconst 1, 1) := by decide +kernel
theorem dX12_splits_21 : decode cX12_splits 21 = .ok (.istore 4, 2) := by decide +kernel
theorem dX12_splits_23 : decode cX12_splits 23 = .ok (.iload 4, 2) := by decide +kernel
theorem dX12_splits_25 : decode cX12_splits 25 = .ok (.iload_n 2, 1) := by decide +kernel
theorem dX12_splits_26 : decode cX12_splits 26 = .ok (.if_icmp .ge 37, 3) := by decide +kernel
theorem dX12_splits_29 : decode cX12_splits 29 = .ok (.aload_n 0, 1) := by decide +kernel
theorem dX12_splits_30 : decode cX12_splits 30 = .ok (.aload_n 0, 1) := by decide +kernel
theorem dX12_splits_31 : decode cX12_splits 31 = .ok (.iload_n 1, 1) := by decide +kernel
theorem dX12_splits_32 : decode cX12_splits 32 = .ok (.invokevirtual 256, 3) := by decide +kernel
theorem dX12_splits_35 : decode cX12_splits 35 = .ok (.iload 4, 2) := by decide +kernel
theorem dX12_splits_37 : decode cX12_splits 37 = .ok (.iload_n 3, 1) := by decide +kernel
theorem dX12_splits_38 : decode cX12_splits 38 = .ok (.imul, 1) := by decide +kernel
theorem dX12_splits_39 : decode cX12_splits 39 = .ok (.iadd, 1) := by decide +kernel
theorem dX12_splits_40 : decode cX12_splits 40 = .ok (.iload_n 2, 1) := by decide +kernel
theorem dX12_splits_41 : decode cX12_splits 41 = .ok (.iload_n 3, 1) := by decide +kernel
theorem dX12_splits_42 : decode cX12_splits 42 = .ok (.imul, 1) := by decide +kernel
theorem dX12_splits_43 : decode cX12_splits 43 = .ok (.aload_n 0, 1) := by decide +kernel
theorem dX12_splits_44 : decode cX12_splits 44 = .ok (.getfield 7, 3) := by decide +kernel
theorem dX12_splits_47 : decode cX12_splits 47 = .ok (.iload_n 1, 1) := by decide +kernel
theorem dX12_splits_48 : decode cX12_splits 48 = .ok (.invokestatic 180, 3) := by decide +kernel
theorem dX12_splits_51 : decode cX12_splits 51 = .ok (.iconst 2, 1) := by decide +kernel
theorem dX12_splits_52 : decode cX12_splits 52 = .ok (.iadd, 1) := by decide +kernel
theorem dX12_splits_53 : decode cX12_splits 53 = .ok (.iaload, 1) := by decide +kernel
theorem dX12_splits_54 : decode cX12_splits 54 = .ok (.invokevirtual 301, 3) := by decide +kernel
theorem dX12_splits_57 : decode cX12_splits 57 = .ok (.iinc 4 1, 3) := by decide +kernel
theorem dX12_splits_60 : decode cX12_splits 60 = .ok (.goto (-37), 3) := by decide +kernel
theorem dX12_splits_63 : decode cX12_splits 63 = .ok (.return_, 1) := by decide +kernel
noncomputable def Mo_splits_L23 (l1 : Int32) (l2 : Int32) (l3 : Int32) (σ : St) (x4 : Int32) : Option ((Int32 × St) ⊕ St) :=
  if l2 ≤ x4 then (some (.inr σ)) else (bd (Mo_restOf σ l1) (fun r8 => bd (Mo_rowOf l1) (fun r10 => chk (ix (r10 + 2) 2060) (bd (Mo_puts σ (r8 + (x4 * l3)) (l2 * l3) (σ.1 93 (tn (r10 + 2)))) (fun σ13 => bnd (x4 + 1) (fun v14 => some (.inl (v14, σ13))))))))
set_option maxRecDepth 100000 in
set_option maxHeartbeats 4000000 in
theorem tb_Mo_splits_L23 {V : Ev} {Γ : Cn} {fin : Option Value × St} {l1 : Int32} {l2 : Int32} {l3 : Int32} {σ : St} {x4 : Int32} {o : ((Int32 × St) ⊕ St)} (X : Cx V Γ M_X12_splits) {A : ((Int32 × St) ⊕ St) → Prop}  (hb23 : ∀ (x4 : Int32) (σ9 : St), A (.inl (x4, σ9)) → Go V Γ M_X12_splits (Zm V Γ 2 fin) 23 [(0, .ref (V.2.2.1 + 92)), (1, .int l1), (2, .int l2), (3, .int l3), (4, .int x4)] [] σ9) (hx23 : ∀ (σ9 : St), A (.inr σ9) → Go V Γ M_X12_splits (Zm V Γ 2 fin) 63 [] [] σ9) (h : Mo_splits_L23 l1 l2 l3 σ x4 = some o) (hA : A o) : Go V Γ M_X12_splits (Zm V Γ 2 fin) 23 [(0, .ref (V.2.2.1 + 92)), (1, .int l1), (2, .int l2), (3, .int l3), (4, .int x4)] [] σ := by
  unfold Mo_splits_L23 at h
  refine g_iload (pc := 23) X 4 rfl dX12_splits_23 ?_
  refine g_iload_n (pc := 25) X 2 rfl dX12_splits_25 ?_
  refine g_icmp_ge (pc := 26) (tgt := 63) X dX12_splits_26 rfl (fun c15 => ?_) (fun c15 => ?_)
  · replace h := if_t c15 h
    refine g_sub [] rfl ?_
    cases h
    exact hx23 _ hA
  · replace h := if_f c15 h
    refine g_aload_n (pc := 29) X 0 rfl dX12_splits_29 ?_
    refine g_aload_n (pc := 30) X 0 rfl dX12_splits_30 ?_
    refine g_iload_n (pc := 31) X 1 rfl dX12_splits_31 ?_
    obtain ⟨r8, hc7, h⟩ := bd_e h
    refine g_callV (pc := 32) X k_ml_X12_256 (run_Mo_restOf  hc7) s_92 rfl (room_ok (Nat.le_of_ble_eq_true rfl) (Nat.le_of_ble_eq_true rfl)) ⟨Nat.le_refl _, Nat.le_refl _⟩ _ rfl (Nat.le_of_ble_eq_true rfl) dX12_splits_32 ?_
    show Go V Γ M_X12_splits (Zm V Γ 2 fin) 35 [(0, .ref (V.2.2.1 + 92)), (1, .int l1), (2, .int l2), (3, .int l3), (4, .int x4)] [.int r8, .ref (V.2.2.1 + 92)] σ
    refine g_iload (pc := 35) X 4 rfl dX12_splits_35 ?_
    refine g_iload_n (pc := 37) X 3 rfl dX12_splits_37 ?_
    refine g_imul (pc := 38) X dX12_splits_38 ?_
    refine g_iadd (pc := 39) X dX12_splits_39 ?_
    refine g_iload_n (pc := 40) X 2 rfl dX12_splits_40 ?_
    refine g_iload_n (pc := 41) X 3 rfl dX12_splits_41 ?_
    refine g_imul (pc := 42) X dX12_splits_42 ?_
    refine g_aload_n (pc := 43) X 0 rfl dX12_splits_43 ?_
    refine g_getR (r := 93) (pc := 44) X k_fl_X12_7 s_92 rfl dX12_splits_44 ?_
    refine g_iload_n (pc := 47) X 1 rfl dX12_splits_47 ?_
    obtain ⟨r10, hc9, h⟩ := bd_e h
    refine g_callS (pc := 48) X k_ml_X12_180 (run_Mo_rowOf  hc9) rfl (room_ok (Nat.le_of_ble_eq_true rfl) (Nat.le_of_ble_eq_true rfl)) ⟨Nat.le_refl _, Nat.le_refl _⟩ _ rfl (Nat.le_of_ble_eq_true rfl) dX12_splits_48 ?_
    show Go V Γ M_X12_splits (Zm V Γ 2 fin) 51 [(0, .ref (V.2.2.1 + 92)), (1, .int l1), (2, .int l2), (3, .int l3), (4, .int x4)] [.int r10, .ref (V.2.2.1 + 93), .int (l2 * l3), .int (r8 + (x4 * l3)), .ref (V.2.2.1 + 92)] σ
    refine g_iconst (v := 2) (pc := 51) X rfl dX12_splits_51 ?_
    refine g_iadd (pc := 52) X dX12_splits_52 ?_
    obtain ⟨c11, h⟩ := chk_e h
    refine g_iald (pc := 53) X s_93 c11 dX12_splits_53 ?_
    obtain ⟨σ13, hc12, h⟩ := bd_e h
    refine g_callV (pc := 54) X k_ml_X12_301 (run_Mo_puts  hc12) s_92 rfl (room_ok (Nat.le_of_ble_eq_true rfl) (Nat.le_of_ble_eq_true rfl)) ⟨Nat.le_refl _, Nat.le_refl _⟩ _ rfl (Nat.le_of_ble_eq_true rfl) dX12_splits_54 ?_
    show Go V Γ M_X12_splits (Zm V Γ 2 fin) 57 [(0, .ref (V.2.2.1 + 92)), (1, .int l1), (2, .int l2), (3, .int l3), (4, .int x4)] [] σ13
    obtain ⟨v14, e_v14, h⟩ := bnd_e h
    refine g_iinc (pc := 57) (v := v14) X [(4, .int v14), (0, .ref (V.2.2.1 + 92)), (1, .int l1), (2, .int l2), (3, .int l3)] 4 rfl (by rw [e_v14]; rfl) (Nat.le_of_ble_eq_true rfl) rfl dX12_splits_57 ?_
    refine g_goto (pc := 60) (tgt := 23) X dX12_splits_60 rfl ?_
    refine g_sub [1, 2, 3, 4, 0] rfl ?_
    cases h
    exact hb23 _ _ hA
set_option maxRecDepth 100000 in
theorem tl_Mo_splits_L23 {V : Ev} {Γ : Cn} {fin : Option Value × St} {l1 : Int32} {l2 : Int32} {l3 : Int32} {x4 : Int32} {σ9 : St} (X : Cx V Γ M_X12_splits)  {σ8 : St} {n : Nat} (h : iter (fun s : (Int32 × St) => Mo_splits_L23 l1 l2 l3 s.2 s.1) n (x4, σ9) = some σ8) (hK : Go V Γ M_X12_splits (Zm V Γ 2 fin) 63 [] [] σ8) : Go V Γ M_X12_splits (Zm V Γ 2 fin) 23 [(0, .ref (V.2.2.1 + 92)), (1, .int l1), (2, .int l2), (3, .int l3), (4, .int x4)] [] σ9 := by
  refine iter_go (G := (fun s : (Int32 × St) => Go V Γ M_X12_splits (Zm V Γ 2 fin) 23 [(0, .ref (V.2.2.1 + 92)), (1, .int l1), (2, .int l2), (3, .int l3), (4, .int s.1)] [] s.2)) (fun s o ho hS => ?_) n (x4, σ9) h
  exact tb_Mo_splits_L23 X  (fun _ _ h9 => h9) (fun _ he => by cases he; exact hK) ho hS
noncomputable def Mo_splits (σ : St) (p1 : Int32) (p2 : Int32) : Option St :=
  bd (Mo_modulusOf σ p1) (fun r2 => bd (Mo_rowOf p1) (fun r4 => chk (ix (r4 + 1) 2060) (bnd (wI σ 93 (tn (r4 + 1)) (p2 * r2)) (fun σ6 => bd (iter (fun s : (Int32 × St) => Mo_splits_L23 p1 p2 r2 s.2 s.1) FUEL (1, σ6)) (fun σ16 => some σ16)))))
set_option maxRecDepth 100000 in
set_option maxHeartbeats 4000000 in
theorem tm_Mo_splits {V : Ev} {Γ : Cn} {fin : Option Value × St} {σ : St} {p1 : Int32} {p2 : Int32} {o : St} (X : Cx V Γ M_X12_splits) {A : St → Prop}  (hr : ∀ (σ9 : St), A σ9 → (none, σ9) = fin) (h : Mo_splits σ p1 p2 = some o) (hA : A o) : Go V Γ M_X12_splits (Zm V Γ 2 fin) 0 [(0, .ref (V.2.2.1 + 92)), (1, .int p1), (2, .int p2)] [] σ := by
  unfold Mo_splits at h
  refine g_aload_n (pc := 0) X 0 rfl dX12_splits_0 ?_
  refine g_iload_n (pc := 1) X 1 rfl dX12_splits_1 ?_
  obtain ⟨r2, hc1, h⟩ := bd_e h
  refine g_callV (pc := 2) X k_ml_X12_244 (run_Mo_modulusOf  hc1) s_92 rfl (room_ok (Nat.le_of_ble_eq_true rfl) (Nat.le_of_ble_eq_true rfl)) ⟨Nat.le_refl _, Nat.le_refl _⟩ _ rfl (Nat.le_of_ble_eq_true rfl) dX12_splits_2 ?_
  show Go V Γ M_X12_splits (Zm V Γ 2 fin) 5 [(0, .ref (V.2.2.1 + 92)), (1, .int p1), (2, .int p2)] [.int r2] σ
  refine g_istore_n (pc := 5) X [(3, .int r2), (0, .ref (V.2.2.1 + 92)), (1, .int p1), (2, .int p2)] rfl (Nat.le_of_ble_eq_true rfl) rfl dX12_splits_5 ?_
  refine g_aload_n (pc := 6) X 1 rfl dX12_splits_6 ?_
  refine g_getR (r := 93) (pc := 7) X k_fl_X12_7 s_92 rfl dX12_splits_7 ?_
  refine g_iload_n (pc := 10) X 2 rfl dX12_splits_10 ?_
  obtain ⟨r4, hc3, h⟩ := bd_e h
  refine g_callS (pc := 11) X k_ml_X12_180 (run_Mo_rowOf  hc3) rfl (room_ok (Nat.le_of_ble_eq_true rfl) (Nat.le_of_ble_eq_true rfl)) ⟨Nat.le_refl _, Nat.le_refl _⟩ _ rfl (Nat.le_of_ble_eq_true rfl) dX12_splits_11 ?_
  show Go V Γ M_X12_splits (Zm V Γ 2 fin) 14 [(3, .int r2), (0, .ref (V.2.2.1 + 92)), (1, .int p1), (2, .int p2)] [.int r4, .ref (V.2.2.1 + 93)] σ
  refine g_iconst (v := 1) (pc := 14) X rfl dX12_splits_14 ?_
  refine g_iadd (pc := 15) X dX12_splits_15 ?_
  refine g_iload_n (pc := 16) X 3 rfl dX12_splits_16 ?_
  refine g_iload_n (pc := 17) X 0 rfl dX12_splits_17 ?_
  refine g_imul (pc := 18) X dX12_splits_18 ?_
  obtain ⟨c5, h⟩ := chk_e h
  refine g_iast (pc := 19) X s_93 c5 dX12_splits_19 ?_
  obtain ⟨σ6, e_σ6, h⟩ := bnd_e h
  refine g_nmS e_σ6 ?_
  refine g_iconst (v := 1) (pc := 20) X rfl dX12_splits_20 ?_
  refine g_istore (pc := 21) X [(4, .int 1), (3, .int r2), (0, .ref (V.2.2.1 + 92)), (1, .int p1), (2, .int p2)] (Nat.le_of_ble_eq_true rfl) rfl dX12_splits_21 ?_
  refine g_sub [2, 3, 4, 1, 0] rfl ?_
  obtain ⟨σ16, hi17, h⟩ := bd_e h
  refine tl_Mo_splits_L23 X  hi17 ?_
  cases h
  exact g_vret (pc := 63) X rfl (hr _ hA) dX12_splits_63
set_option maxRecDepth 100000 in
theorem run_Mo_splits {V : Ev} {σ : St} {p1 : Int32} {p2 : Int32} {o : St}   (h : Mo_splits σ p1 p2 = some o) : Rs V 2 M_X12_splits [.ref (V.2.2.1 + 92), .int p1, .int p2] σ (none, o) := by
  refine Rs.of (by decide +kernel) (Nat.le_of_ble_eq_true rfl) (fun Γ X => ?_)
  exact tm_Mo_splits X (A := fun o1 => o1 = o)  (fun _ e => by rw [e]) h rfl
theorem dX12_split_0 : decode cX12_split 0 = .ok (.aload_n 0, 1) := by decide +kernel
theorem dX12_split_1 : decode cX12_split 1 = .ok (.iload_n 1, 1) := by decide +kernel
theorem dX12_split_2 : decode cX12_split 2 = .ok (.invokevirtual 286, 3) := by decide +kernel
theorem dX12_split_5 : decode cX12_split 5 = .ok (.ifCond .eq 17, 3) := by decide +kernel
theorem dX12_split_8 : decode cX12_split 8 = .ok (.iload_n 2, 1) := by decide +kernel
theorem dX12_split_9 : decode cX12_split 9 = .ok (.i2l, 1) := by decide +kernel
theorem dX12_split_10 : decode cX12_split 10 = .ok (.ldc2_w 311, 3) := by decide +kernel
theorem dX12_split_13 : decode cX12_split 13 = .ok (.ldc2_w 268, 3) := by decide +kernel
theorem dX12_split_16 : decode cX12_split 16 = .ok (.invokestatic 270, 3) := by decide +kernel
theorem dX12_split_19 : decode cX12_split 19 = .ok (.ifCond .ne 9, 3) := by decide +kernel
theorem dX12_split_22 : decode cX12_split 22 = .ok (.aload_n 0, 1) := by decide +kernel
theorem dX12_split_23 : decode cX12_split 23 = .ok (.iconst 1, 1) := by decide +kernel
theorem dX12_split_24 : decode cX12_split 24 = .ok (.invokevirtual 88, 3) := by decide +kernel
theorem dX12_split_27 : decode cX12_split 27 = .ok (.ireturn, 1) := by decide +kernel
theorem dX12_split_28 : decode cX12_split 28 = .ok (.aload_n 0, 1) := by decide +kernel
theorem dX12_split_29 : decode cX12_split 29 = .ok (.iload_n 1, 1) := by decide +kernel
theorem dX12_split_30 : decode cX12_split 30 = .ok (.iload_n 2, 1) := by decide +kernel
theorem dX12_split_31 : decode cX12_split 31 = .ok (.invokevirtual 316, 3) := by decide +kernel
theorem dX12_split_34 : decode cX12_split 34 = .ok (.istore_n 3, 1) := by decide +kernel
theorem dX12_split_35 : decode cX12_split 35 = .ok (.iload_n 3, 1) := by decide +kernel
theorem dX12_split_36 : decode cX12_split 36 = .ok (.ifCond .le 9, 3) := by decide +kernel
theorem dX12_split_39 : decode cX12_split 39 = .ok (.aload_n 0, 1) := by decide +kernel
theorem dX12_split_40 : decode cX12_split 40 = .ok (.iload_n 3, 1) := by decide +kernel
theorem dX12_split_41 : decode cX12_split 41 = .ok (.invokevirtual 88, 3) := by decide +kernel
theorem dX12_split_44 : decode cX12_split 44 = .ok (.ireturn, 1) := by decide +kernel
theorem dX12_split_45 : decode cX12_split 45 = .ok (.aload_n 0, 1) := by decide +kernel
theorem dX12_split_46 : decode cX12_split 46 = .ok (.iload_n 1, 1) := by decide +kernel
theorem dX12_split_47 : decode cX12_split 47 = .ok (.iload_n 2, 1) := by decide +kernel
theorem dX12_split_48 : decode cX12_split 48 = .ok (.invokevirtual 319, 3) := by decide +kernel
theorem dX12_split_51 : decode cX12_split 51 = .ok (.aload_n 0, 1) := by decide +kernel
theorem dX12_split_52 : decode cX12_split 52 = .ok (.aload_n 0, 1) := by decide +kernel
theorem dX12_split_53 : decode cX12_split 53 = .ok (.getfield 7, 3) := by decide +kernel
theorem dX12_split_56 : decode cX12_split 56 = .ok (.iconst 0, 1) := by decide +kernel
theorem dX12_split_57 : decode cX12_split 57 = .ok (.iaload, 1) := by decide +kernel
theorem dX12_split_58 : decode cX12_split 58 = .ok (.invokevirtual 92, 3) := by decide +kernel
theorem dX12_split_61 : decode cX12_split 61 = .ok (.ireturn, 1) := by decide +kernel
noncomputable def Mo_split (σ : St) (p1 : Int32) (p2 : Int32) : Option (Int32 × St) :=
  bd (Mo_isClass σ p1) (fun r2 => if r2 = 0 then (bd2 (Mo_refuse σ 1) (fun r4 σ5 => some (r4, σ5))) else (bd (Mo_isFrom p2.toInt64 2 7) (fun r7 => if r7 = 0 then (bd2 (Mo_refuse σ 1) (fun r21 σ22 => some (r21, σ22))) else (bd (Mo_whyNotSplit σ p1 p2) (fun r9 => if r9 ≤ 0 then (bd (Mo_splits σ p1 p2) (fun σ11 => chk (ix 0 2060) (bd2 (Mo_gives σ11 (σ11.1 93 (tn 0))) (fun r14 σ15 => some (r14, σ15))))) else (bd2 (Mo_refuse σ r9) (fun r17 σ18 => some (r17, σ18))))))))
set_option maxRecDepth 100000 in
set_option maxHeartbeats 4000000 in
theorem tm_Mo_split {V : Ev} {Γ : Cn} {fin : Option Value × St} {σ : St} {p1 : Int32} {p2 : Int32} {o : (Int32 × St)} (X : Cx V Γ M_X12_split) {A : (Int32 × St) → Prop}  (hr : ∀ (r : Int32) (σ9 : St), A (r, σ9) → (some (.int r), σ9) = fin) (h : Mo_split σ p1 p2 = some o) (hA : A o) : Go V Γ M_X12_split (Zm V Γ 3 fin) 0 [(0, .ref (V.2.2.1 + 92)), (1, .int p1), (2, .int p2)] [] σ := by
  unfold Mo_split at h
  refine g_aload_n (pc := 0) X 0 rfl dX12_split_0 ?_
  refine g_iload_n (pc := 1) X 1 rfl dX12_split_1 ?_
  obtain ⟨r2, hc1, h⟩ := bd_e h
  refine g_callV (pc := 2) X k_ml_X12_286 (run_Mo_isClass  hc1) s_92 rfl (room_ok (Nat.le_of_ble_eq_true rfl) (Nat.le_of_ble_eq_true rfl)) ⟨Nat.le_refl _, Nat.le_refl _⟩ _ rfl (Nat.le_of_ble_eq_true rfl) dX12_split_2 ?_
  show Go V Γ M_X12_split (Zm V Γ 3 fin) 5 [(0, .ref (V.2.2.1 + 92)), (1, .int p1), (2, .int p2)] [.int r2] σ
  refine g_if_eq (pc := 5) (tgt := 22) X dX12_split_5 rfl (fun c24 => ?_) (fun c24 => ?_)
  · replace h := if_t c24 h
    refine g_aload_n (pc := 22) X 0 rfl dX12_split_22 ?_
    refine g_iconst (v := 1) (pc := 23) X rfl dX12_split_23 ?_
    obtain ⟨r4, σ5, hc3, h⟩ := bd2_e h
    refine g_callV (pc := 24) X k_ml_X12_88 (run_Mo_refuse  hc3) s_92 rfl (room_ok (Nat.le_of_ble_eq_true rfl) (Nat.le_of_ble_eq_true rfl)) ⟨Nat.le_refl _, Nat.le_refl _⟩ _ rfl (Nat.le_of_ble_eq_true rfl) dX12_split_24 ?_
    show Go V Γ M_X12_split (Zm V Γ 3 fin) 27 [(0, .ref (V.2.2.1 + 92)), (1, .int p1), (2, .int p2)] [.int r4] σ5
    cases h
    exact g_iret (pc := 27) X rfl rfl (hr _ _ hA) dX12_split_27
  · replace h := if_f c24 h
    refine g_iload_n (pc := 8) X 2 rfl dX12_split_8 ?_
    refine g_i2l (pc := 9) X dX12_split_9 ?_
    refine g_ldc2 (v := 2) (pc := 10) X k_constl_X12_311 dX12_split_10 ?_
    refine g_ldc2 (v := 7) (pc := 13) X k_constl_X12_268 dX12_split_13 ?_
    obtain ⟨r7, hc6, h⟩ := bd_e h
    refine g_callS (pc := 16) X k_ml_X12_270 (run_Mo_isFrom  hc6) rfl (room_ok (Nat.le_of_ble_eq_true rfl) (Nat.le_of_ble_eq_true rfl)) ⟨Nat.le_refl _, Nat.le_refl _⟩ _ rfl (Nat.le_of_ble_eq_true rfl) dX12_split_16 ?_
    show Go V Γ M_X12_split (Zm V Γ 3 fin) 19 [(0, .ref (V.2.2.1 + 92)), (1, .int p1), (2, .int p2)] [.int r7] σ
    refine g_if_ne (pc := 19) (tgt := 28) X dX12_split_19 rfl (fun c23 => ?_) (fun c23 => ?_)
    · replace h := if_f c23 h
      refine g_aload_n (pc := 28) X 0 rfl dX12_split_28 ?_
      refine g_iload_n (pc := 29) X 1 rfl dX12_split_29 ?_
      refine g_iload_n (pc := 30) X 2 rfl dX12_split_30 ?_
      obtain ⟨r9, hc8, h⟩ := bd_e h
      refine g_callV (pc := 31) X k_ml_X12_316 (run_Mo_whyNotSplit  hc8) s_92 rfl (room_ok (Nat.le_of_ble_eq_true rfl) (Nat.le_of_ble_eq_true rfl)) ⟨Nat.le_refl _, Nat.le_refl _⟩ _ rfl (Nat.le_of_ble_eq_true rfl) dX12_split_31 ?_
      show Go V Γ M_X12_split (Zm V Γ 3 fin) 34 [(0, .ref (V.2.2.1 + 92)), (1, .int p1), (2, .int p2)] [.int r9] σ
      refine g_istore_n (pc := 34) X [(3, .int r9), (0, .ref (V.2.2.1 + 92)), (1, .int p1), (2, .int p2)] rfl (Nat.le_of_ble_eq_true rfl) rfl dX12_split_34 ?_
      refine g_iload_n (pc := 35) X 0 rfl dX12_split_35 ?_
      refine g_if_le (pc := 36) (tgt := 45) X dX12_split_36 rfl (fun c19 => ?_) (fun c19 => ?_)
      · replace h := if_t c19 h
        refine g_aload_n (pc := 45) X 1 rfl dX12_split_45 ?_
        refine g_iload_n (pc := 46) X 2 rfl dX12_split_46 ?_
        refine g_iload_n (pc := 47) X 3 rfl dX12_split_47 ?_
        obtain ⟨σ11, hc10, h⟩ := bd_e h
        refine g_callV (pc := 48) X k_ml_X12_319 (run_Mo_splits  hc10) s_92 rfl (room_ok (Nat.le_of_ble_eq_true rfl) (Nat.le_of_ble_eq_true rfl)) ⟨Nat.le_refl _, Nat.le_refl _⟩ _ rfl (Nat.le_of_ble_eq_true rfl) dX12_split_48 ?_
        show Go V Γ M_X12_split (Zm V Γ 3 fin) 51 [(3, .int r9), (0, .ref (V.2.2.1 + 92)), (1, .int p1), (2, .int p2)] [] σ11
        refine g_aload_n (pc := 51) X 1 rfl dX12_split_51 ?_
        refine g_aload_n (pc := 52) X 1 rfl dX12_split_52 ?_
        refine g_getR (r := 93) (pc := 53) X k_fl_X12_7 s_92 rfl dX12_split_53 ?_
        refine g_iconst (v := 0) (pc := 56) X rfl dX12_split_56 ?_
        obtain ⟨c12, h⟩ := chk_e h
        refine g_iald (pc := 57) X s_93 c12 dX12_split_57 ?_
        obtain ⟨r14, σ15, hc13, h⟩ := bd2_e h
        refine g_callV (pc := 58) X k_ml_X12_92 (run_Mo_gives  hc13) s_92 rfl (room_ok (Nat.le_of_ble_eq_true rfl) (Nat.le_of_ble_eq_true rfl)) ⟨Nat.le_refl _, Nat.le_refl _⟩ _ rfl (Nat.le_of_ble_eq_true rfl) dX12_split_58 ?_
        show Go V Γ M_X12_split (Zm V Γ 3 fin) 61 [(3, .int r9), (0, .ref (V.2.2.1 + 92)), (1, .int p1), (2, .int p2)] [.int r14] σ15
        cases h
        exact g_iret (pc := 61) X rfl rfl (hr _ _ hA) dX12_split_61
      · replace h := if_f c19 h
        refine g_aload_n (pc := 39) X 1 rfl dX12_split_39 ?_
        refine g_iload_n (pc := 40) X 0 rfl dX12_split_40 ?_
        obtain ⟨r17, σ18, hc16, h⟩ := bd2_e h
        refine g_callV (pc := 41) X k_ml_X12_88 (run_Mo_refuse  hc16) s_92 rfl (room_ok (Nat.le_of_ble_eq_true rfl) (Nat.le_of_ble_eq_true rfl)) ⟨Nat.le_refl _, Nat.le_refl _⟩ _ rfl (Nat.le_of_ble_eq_true rfl) dX12_split_41 ?_
        show Go V Γ M_X12_split (Zm V Γ 3 fin) 44 [(3, .int r9), (0, .ref (V.2.2.1 + 92)), (1, .int p1), (2, .int p2)] [.int r17] σ18
        cases h
        exact g_iret (pc := 44) X rfl rfl (hr _ _ hA) dX12_split_44
    · replace h := if_t c23 h
      refine g_aload_n (pc := 22) X 0 rfl dX12_split_22 ?_
      refine g_iconst (v := 1) (pc := 23) X rfl dX12_split_23 ?_
      obtain ⟨r21, σ22, hc20, h⟩ := bd2_e h
      refine g_callV (pc := 24) X k_ml_X12_88 (run_Mo_refuse  hc20) s_92 rfl (room_ok (Nat.le_of_ble_eq_true rfl) (Nat.le_of_ble_eq_true rfl)) ⟨Nat.le_refl _, Nat.le_refl _⟩ _ rfl (Nat.le_of_ble_eq_true rfl) dX12_split_24 ?_
      show Go V Γ M_X12_split (Zm V Γ 3 fin) 27 [(0, .ref (V.2.2.1 + 92)), (1, .int p1), (2, .int p2)] [.int r21] σ22
      cases h
      exact g_iret (pc := 27) X rfl rfl (hr _ _ hA) dX12_split_27
set_option maxRecDepth 100000 in
theorem run_Mo_split {V : Ev} {σ : St} {p1 : Int32} {p2 : Int32} {o : (Int32 × St)}   (h : Mo_split σ p1 p2 = some o) : Rs V 3 M_X12_split [.ref (V.2.2.1 + 92), .int p1, .int p2] σ (some (.int o.1), o.2) := by
  refine Rs.of (by decide +kernel) (Nat.le_of_ble_eq_true rfl) (fun Γ X => ?_)
  exact tm_Mo_split X (A := fun o1 => o1 = o)  (fun _ _ e => by rw [← e]) h rfl
theorem dX12_findClass_0 : decode cX12_findClass 0 = .ok (.iconst 0, 1) := by decide +kernel
theorem dX12_findClass_1 : decode cX12_findClass 1 = .ok (.istore 4, 2) := by decide +kernel
theorem dX12_findClass_3 : decode cX12_findClass 3 = .ok (.iload 4, 2) := by decide +kernel
theorem dX12_findClass_5 : decode cX12_findClass 5 = .ok (.aload_n 0, 1) := by decide +kernel
theorem dX12_findClass_6 : decode cX12_findClass 6 = .ok (.getfield 7, 3) := by decide +kernel
theorem dX12_findClass_9 : decode cX12_findClass 9 = .ok (.iconst 0, 1) := by decide +kernel
theorem dX12_findClass_10 : decode cX12_findClass 10 = .ok (.iaload, 1) := by decide +kernel
theorem dX12_findClass_11 : decode cX12_findClass 11 = .ok (.if_icmp .ge 42, 3) := by decide +kernel
theorem dX12_findClass_14 : decode cX12_findClass 14 = .ok (.aload_n 0, 1) := by decide +kernel
theorem dX12_findClass_15 : decode cX12_findClass 15 = .ok (.iload 4, 2) := by decide +kernel
theorem dX12_findClass_17 : decode cX12_findClass 17 = .ok (.invokevirtual 256, 3) := by decide +kernel
theorem dX12_findClass_20 : decode cX12_findClass 20 = .ok (.iload_n 1, 1) := by decide +kernel
theorem dX12_findClass_21 : decode cX12_findClass 21 = .ok (.if_icmp .ne 26, 3) := by decide +kernel
theorem dX12_findClass_24 : decode cX12_findClass 24 = .ok (.aload_n 0, 1) := by decide +kernel
theorem dX12_findClass_25 : decode cX12_findClass 25 = .ok (.iload 4, 2) := by decide +kernel
theorem dX12_findClass_27 : decode cX12_findClass 27 = .ok (.invokevirtual 244, 3) := by decide +kernel
theorem dX12_findClass_30 : decode cX12_findClass 30 = .ok (.iload_n 2, 1) := by decide +kernel
theorem dX12_findClass_31 : decode cX12_findClass 31 = .ok (.if_icmp .ne 16, 3) := by decide +kernel
theorem dX12_findClass_34 : decode cX12_findClass 34 = .ok (.aload_n 0, 1) := by decide +kernel
theorem dX12_findClass_35 : decode cX12_findClass 35 = .ok (.iload 4, 2) := by decide +kernel
theorem dX12_findClass_37 : decode cX12_findClass 37 = .ok (.invokevirtual 238, 3) := by decide +kernel
theorem dX12_findClass_40 : decode cX12_findClass 40 = .ok (.iload_n 3, 1) := by decide +kernel
theorem dX12_findClass_41 : decode cX12_findClass 41 = .ok (.if_icmp .ne 6, 3) := by decide +kernel
theorem dX12_findClass_44 : decode cX12_findClass 44 = .ok (.iload 4, 2) := by decide +kernel
theorem dX12_findClass_46 : decode cX12_findClass 46 = .ok (.ireturn, 1) := by decide +kernel
theorem dX12_findClass_47 : decode cX12_findClass 47 = .ok (.iinc 4 1, 3) := by decide +kernel
theorem dX12_findClass_50 : decode cX12_findClass 50 = .ok (.goto (-47), 3) := by decide +kernel
theorem dX12_findClass_53 : decode cX12_findClass 53 = .ok (.iconst (-1), 1) := by decide +kernel
theorem dX12_findClass_54 : decode cX12_findClass 54 = .ok (.ireturn, 1) := by decide +kernel
noncomputable def Mo_findClass_L3 (l1 : Int32) (l2 : Int32) (l3 : Int32) (σ : St) (x4 : Int32) : Option (Int32 ⊕ Int32) :=
  chk (ix 0 2060) (if (σ.1 93 (tn 0)) ≤ x4 then (some (.inr (-1))) else (bd (Mo_restOf σ x4) (fun r3 => if r3 = l1 then (bd (Mo_modulusOf σ x4) (fun r6 => if r6 = l2 then (bd (Mo_isOn σ x4) (fun r9 => if r9 = l3 then (some (.inr x4)) else (bnd (x4 + 1) (fun v10 => some (.inl v10))))) else (bnd (x4 + 1) (fun v7 => some (.inl v7))))) else (bnd (x4 + 1) (fun v4 => some (.inl v4))))))
set_option maxRecDepth 100000 in
set_option maxHeartbeats 4000000 in
theorem tb_Mo_findClass_L3 {V : Ev} {Γ : Cn} {fin : Option Value × St} {l1 : Int32} {l2 : Int32} {l3 : Int32} {σ : St} {x4 : Int32} {o : (Int32 ⊕ Int32)} (X : Cx V Γ M_X12_findClass) {A : (Int32 ⊕ Int32) → Prop}  (hr : ∀ (r : Int32), A (.inr r) → (some (.int r), σ) = fin) (hb3 : ∀ (x4 : Int32), A (.inl x4) → Go V Γ M_X12_findClass (Zm V Γ 2 fin) 3 [(0, .ref (V.2.2.1 + 92)), (1, .int l1), (2, .int l2), (3, .int l3), (4, .int x4)] [] σ) (h : Mo_findClass_L3 l1 l2 l3 σ x4 = some o) (hA : A o) : Go V Γ M_X12_findClass (Zm V Γ 2 fin) 3 [(0, .ref (V.2.2.1 + 92)), (1, .int l1), (2, .int l2), (3, .int l3), (4, .int x4)] [] σ := by
  unfold Mo_findClass_L3 at h
  refine g_iload (pc := 3) X 4 rfl dX12_findClass_3 ?_
  refine g_aload_n (pc := 5) X 0 rfl dX12_findClass_5 ?_
  refine g_getR (r := 93) (pc := 6) X k_fl_X12_7 s_92 rfl dX12_findClass_6 ?_
  refine g_iconst (v := 0) (pc := 9) X rfl dX12_findClass_9 ?_
  obtain ⟨c1, h⟩ := chk_e h
  refine g_iald (pc := 10) X s_93 c1 dX12_findClass_10 ?_
  refine g_icmp_ge (pc := 11) (tgt := 53) X dX12_findClass_11 rfl (fun c14 => ?_) (fun c14 => ?_)
  · replace h := if_t c14 h
    refine g_iconst (v := (-1)) (pc := 53) X rfl dX12_findClass_53 ?_
    cases h
    exact g_iret (pc := 54) X rfl rfl (hr _ hA) dX12_findClass_54
  · replace h := if_f c14 h
    refine g_aload_n (pc := 14) X 0 rfl dX12_findClass_14 ?_
    refine g_iload (pc := 15) X 4 rfl dX12_findClass_15 ?_
    obtain ⟨r3, hc2, h⟩ := bd_e h
    refine g_callV (pc := 17) X k_ml_X12_256 (run_Mo_restOf  hc2) s_92 rfl (room_ok (Nat.le_of_ble_eq_true rfl) (Nat.le_of_ble_eq_true rfl)) ⟨Nat.le_refl _, Nat.le_refl _⟩ _ rfl (Nat.le_of_ble_eq_true rfl) dX12_findClass_17 ?_
    show Go V Γ M_X12_findClass (Zm V Γ 2 fin) 20 [(0, .ref (V.2.2.1 + 92)), (1, .int l1), (2, .int l2), (3, .int l3), (4, .int x4)] [.int r3] σ
    refine g_iload_n (pc := 20) X 1 rfl dX12_findClass_20 ?_
    refine g_icmp_ne (pc := 21) (tgt := 47) X dX12_findClass_21 rfl (fun c13 => ?_) (fun c13 => ?_)
    · replace h := if_f c13 h
      obtain ⟨v4, e_v4, h⟩ := bnd_e h
      refine g_iinc (pc := 47) (v := v4) X [(4, .int v4), (0, .ref (V.2.2.1 + 92)), (1, .int l1), (2, .int l2), (3, .int l3)] 4 rfl (by rw [e_v4]; rfl) (Nat.le_of_ble_eq_true rfl) rfl dX12_findClass_47 ?_
      refine g_goto (pc := 50) (tgt := 3) X dX12_findClass_50 rfl ?_
      refine g_sub [1, 2, 3, 4, 0] rfl ?_
      cases h
      exact hb3 _ hA
    · replace h := if_t c13 h
      refine g_aload_n (pc := 24) X 0 rfl dX12_findClass_24 ?_
      refine g_iload (pc := 25) X 4 rfl dX12_findClass_25 ?_
      obtain ⟨r6, hc5, h⟩ := bd_e h
      refine g_callV (pc := 27) X k_ml_X12_244 (run_Mo_modulusOf  hc5) s_92 rfl (room_ok (Nat.le_of_ble_eq_true rfl) (Nat.le_of_ble_eq_true rfl)) ⟨Nat.le_refl _, Nat.le_refl _⟩ _ rfl (Nat.le_of_ble_eq_true rfl) dX12_findClass_27 ?_
      show Go V Γ M_X12_findClass (Zm V Γ 2 fin) 30 [(0, .ref (V.2.2.1 + 92)), (1, .int l1), (2, .int l2), (3, .int l3), (4, .int x4)] [.int r6] σ
      refine g_iload_n (pc := 30) X 2 rfl dX12_findClass_30 ?_
      refine g_icmp_ne (pc := 31) (tgt := 47) X dX12_findClass_31 rfl (fun c12 => ?_) (fun c12 => ?_)
      · replace h := if_f c12 h
        obtain ⟨v7, e_v7, h⟩ := bnd_e h
        refine g_iinc (pc := 47) (v := v7) X [(4, .int v7), (0, .ref (V.2.2.1 + 92)), (1, .int l1), (2, .int l2), (3, .int l3)] 4 rfl (by rw [e_v7]; rfl) (Nat.le_of_ble_eq_true rfl) rfl dX12_findClass_47 ?_
        refine g_goto (pc := 50) (tgt := 3) X dX12_findClass_50 rfl ?_
        refine g_sub [1, 2, 3, 4, 0] rfl ?_
        cases h
        exact hb3 _ hA
      · replace h := if_t c12 h
        refine g_aload_n (pc := 34) X 0 rfl dX12_findClass_34 ?_
        refine g_iload (pc := 35) X 4 rfl dX12_findClass_35 ?_
        obtain ⟨r9, hc8, h⟩ := bd_e h
        refine g_callV (pc := 37) X k_ml_X12_238 (run_Mo_isOn  hc8) s_92 rfl (room_ok (Nat.le_of_ble_eq_true rfl) (Nat.le_of_ble_eq_true rfl)) ⟨Nat.le_refl _, Nat.le_refl _⟩ _ rfl (Nat.le_of_ble_eq_true rfl) dX12_findClass_37 ?_
        show Go V Γ M_X12_findClass (Zm V Γ 2 fin) 40 [(0, .ref (V.2.2.1 + 92)), (1, .int l1), (2, .int l2), (3, .int l3), (4, .int x4)] [.int r9] σ
        refine g_iload_n (pc := 40) X 3 rfl dX12_findClass_40 ?_
        refine g_icmp_ne (pc := 41) (tgt := 47) X dX12_findClass_41 rfl (fun c11 => ?_) (fun c11 => ?_)
        · replace h := if_f c11 h
          obtain ⟨v10, e_v10, h⟩ := bnd_e h
          refine g_iinc (pc := 47) (v := v10) X [(4, .int v10), (0, .ref (V.2.2.1 + 92)), (1, .int l1), (2, .int l2), (3, .int l3)] 4 rfl (by rw [e_v10]; rfl) (Nat.le_of_ble_eq_true rfl) rfl dX12_findClass_47 ?_
          refine g_goto (pc := 50) (tgt := 3) X dX12_findClass_50 rfl ?_
          refine g_sub [1, 2, 3, 4, 0] rfl ?_
          cases h
          exact hb3 _ hA
        · replace h := if_t c11 h
          refine g_iload (pc := 44) X 4 rfl dX12_findClass_44 ?_
          cases h
          exact g_iret (pc := 46) X rfl rfl (hr _ hA) dX12_findClass_46
set_option maxRecDepth 100000 in
theorem tl_Mo_findClass_L3 {V : Ev} {Γ : Cn} {fin : Option Value × St} {l1 : Int32} {l2 : Int32} {l3 : Int32} {σ : St} {x4 : Int32} (X : Cx V Γ M_X12_findClass)  {e : Int32} {A : Int32 → Prop} (hr : ∀ (r : Int32), A r → (some (.int r), σ) = fin) {n : Nat} (h : iter (fun s : Int32 => Mo_findClass_L3 l1 l2 l3 σ s) n x4 = some e) (hA : A e) : Go V Γ M_X12_findClass (Zm V Γ 2 fin) 3 [(0, .ref (V.2.2.1 + 92)), (1, .int l1), (2, .int l2), (3, .int l3), (4, .int x4)] [] σ := by
  refine iter_go (G := (fun s : Int32 => Go V Γ M_X12_findClass (Zm V Γ 2 fin) 3 [(0, .ref (V.2.2.1 + 92)), (1, .int l1), (2, .int l2), (3, .int l3), (4, .int s)] [] σ)) (fun s o ho hS => ?_) n x4 h
  exact tb_Mo_findClass_L3 X  (fun z0 he => hr z0 (by rw [he]; exact hA)) (fun _ h9 => h9) ho hS
noncomputable def Mo_findClass (σ : St) (p1 : Int32) (p2 : Int32) (p3 : Int32) : Option Int32 :=
  iter (fun s : Int32 => Mo_findClass_L3 p1 p2 p3 σ s) FUEL 0
set_option maxRecDepth 100000 in
set_option maxHeartbeats 4000000 in
theorem tm_Mo_findClass {V : Ev} {Γ : Cn} {fin : Option Value × St} {σ : St} {p1 : Int32} {p2 : Int32} {p3 : Int32} {o : Int32} (X : Cx V Γ M_X12_findClass) {A : Int32 → Prop}  (hr : ∀ (r : Int32), A r → (some (.int r), σ) = fin) (h : Mo_findClass σ p1 p2 p3 = some o) (hA : A o) : Go V Γ M_X12_findClass (Zm V Γ 2 fin) 0 [(0, .ref (V.2.2.1 + 92)), (1, .int p1), (2, .int p2), (3, .int p3)] [] σ := by
  unfold Mo_findClass at h
  refine g_iconst (v := 0) (pc := 0) X rfl dX12_findClass_0 ?_
  refine g_istore (pc := 1) X [(4, .int 0), (0, .ref (V.2.2.1 + 92)), (1, .int p1), (2, .int p2), (3, .int p3)] (Nat.le_of_ble_eq_true rfl) rfl dX12_findClass_1 ?_
  refine g_sub [1, 2, 3, 4, 0] rfl ?_
  exact tl_Mo_findClass_L3 X  hr h hA
set_option maxRecDepth 100000 in
theorem run_Mo_findClass {V : Ev} {σ : St} {p1 : Int32} {p2 : Int32} {p3 : Int32} {o : Int32}   (h : Mo_findClass σ p1 p2 p3 = some o) : Rs V 2 M_X12_findClass [.ref (V.2.2.1 + 92), .int p1, .int p2, .int p3] σ (some (.int o), σ) := by
  refine Rs.of (by decide +kernel) (Nat.le_of_ble_eq_true rfl) (fun Γ X => ?_)
  exact tm_Mo_findClass X (A := fun o1 => o1 = o)  (fun _ e => by rw [e]) h rfl
theorem dX12_join_0 : decode cX12_join 0 = .ok (.aload_n 0, 1) := by decide +kernel
theorem dX12_join_1 : decode cX12_join 1 = .ok (.iload_n 1, 1) := by decide +kernel
theorem dX12_join_2 : decode cX12_join 2 = .ok (.invokevirtual 286, 3) := by decide +kernel
theorem dX12_join_5 : decode cX12_join 5 = .ok (.ifCond .eq 17, 3) := by decide +kernel
theorem dX12_join_8 : decode cX12_join 8 = .ok (.iload_n 2, 1) := by decide +kernel
theorem dX12_join_9 : decode cX12_join 9 = .ok (.i2l, 1) := by decide +kernel
theorem dX12_join_10 : decode cX12_join 10 = .ok (.ldc2_w 311, 3) := by decide +kernel
theorem dX12_join_13 : decode cX12_join 13 = .ok (.ldc2_w 268, 3) := by decide +kernel
theorem dX12_join_16 : decode cX12_join 16 = .ok (.invokestatic 270, 3) := by decide +kernel
theorem dX12_join_19 : decode cX12_join 19 = .ok (.ifCond .ne 9, 3) := by decide +kernel
theorem dX12_join_22 : decode cX12_join 22 = .ok (.aload_n 0, 1) := by decide +kernel
theorem dX12_join_23 : decode cX12_join 23 = .ok (.iconst 1, 1) := by decide +kernel
theorem dX12_join_24 : decode cX12_join 24 = .ok (.invokevirtual 88, 3) := by decide +kernel
theorem dX12_join_27 : decode cX12_join 27 = .ok (.ireturn, 1) := by decide +kernel
theorem dX12_join_28 : decode cX12_join 28 = .ok (.aload_n 0, 1) := by decide +kernel
theorem dX12_join_29 : decode cX12_join 29 = .ok (.iload_n 1, 1) := by decide +kernel
theorem dX12_join_30 : decode cX12_join 30 = .ok (.invokevirtual 244, 3) := by decide +kernel
theorem dX12_join_33 : decode cX12_join 33 = .ok (.iload_n 2, 1) := by decide +kernel
theorem dX12_join_34 : decode cX12_join 34 = .ok (.irem, 1) := by decide +kernel
theorem dX12_join_35 : decode cX12_join 35 = .ok (.ifCond .eq 10, 3) := by decide +kernel
theorem dX12_join_38 : decode cX12_join 38 = .ok (.aload_n 0, 1) := by decide +kernel
theorem dX12_join_39 : decode cX12_join 39 = .ok (.bipush 7, 2) := by decide +kernel
theorem dX12_join_41 : decode cX12_join 41 = .ok (.invokevirtual 88, 3) := by decide +kernel
theorem dX12_join_44 : decode cX12_join 44 = .ok (.ireturn, 1) := by decide +kernel
theorem dX12_join_45 : decode cX12_join 45 = .ok (.aload_n 0, 1) := by decide +kernel
theorem dX12_join_46 : decode cX12_join 46 = .ok (.iload_n 1, 1) := by decide +kernel
theorem dX12_join_47 : decode cX12_join 47 = .ok (.invokevirtual 244, 3) := by decide +kernel
theorem dX12_join_50 : decode cX12_join 50 = .ok (.iload_n 2, 1) := by decide +kernel
theorem dX12_join_51 : decode cX12_join 51 = .ok (.idiv, 1) := by decide +kernel
theorem dX12_join_52 : decode cX12_join 52 = .ok (.istore_n 3, 1) := by decide +kernel
theorem dX12_join_53 : decode cX12_join 53 = .ok (.aload_n 0, 1) := by decide +kernel
theorem dX12_join_54 : decode cX12_join 54 = .ok (.iload_n 1, 1) := by decide +kernel
theorem dX12_join_55 : decode cX12_join 55 = .ok (.invokevirtual 256, 3) := by decide +kernel
theorem dX12_join_58 : decode cX12_join 58 = .ok (.iload_n 3, 1) := by decide +kernel
theorem dX12_join_59 : decode cX12_join 59 = .ok (.irem, 1) := by decide +kernel
theorem dX12_join_60 : decode cX12_join 60 = .ok (.istore 4, 2) := by decide +kernel
theorem dX12_join_62 : decode cX12_join 62 = .ok (.iconst 0, 1) := by decide +kernel
theorem dX12_join_63 : decode cX12_join 63 = .ok (.istore 5, 2) := by decide +kernel
theorem dX12_join_65 : decode cX12_join 65 = .ok (.iconst 0, 1) := by decide +kernel
theorem dX12_join_66 : decode cX12_join 66 = .ok (.istore 6, 2) := by decide +kernel
theorem dX12_join_68 : decode cX12_join 68 = .ok (.iload 6, 2) := by decide +kernel
theorem dX12_join_70 : decode cX12_join 70 = .ok (.iload_n 2, 1) := by decide +kernel
theorem dX12_join_71 : decode cX12_join 71 = .ok (.if_icmp .ge 72, 3) := by decide +kernel
theorem dX12_join_74 : decode cX12_join 74 = .ok (.iload 4, 2) := by decide +kernel
theorem dX12_join_76 : decode cX12_join 76 = .ok (.iload 6, 2) := by decide +kernel
theorem dX12_join_78 : decode cX12_join 78 = .ok (.iload_n 3, 1) := by decide +kernel
theorem dX12_join_79 : decode cX12_join 79 = .ok (.imul, 1) := by decide +kernel
theorem dX12_join_80 : decode cX12_join 80 = .ok (.iadd, 1) := by decide +kernel
theorem dX12_join_81 : decode cX12_join 81 = .ok (.aload_n 0, 1) := by decide +kernel
theorem dX12_join_82 : decode cX12_join 82 = .ok (.iload_n 1, 1) := by decide +kernel
theorem dX12_join_83 : decode cX12_join 83 = .ok (.invokevirtual 256, 3) := by decide +kernel
theorem dX12_join_86 : decode cX12_join 86 = .ok (.if_icmp .ne 6, 3) := by decide +kernel
theorem dX12_join_89 : decode cX12_join 89 = .ok (.goto 48, 3) := by decide +kernel
theorem dX12_join_92 : decode cX12_join 92 = .ok (.aload_n 0, 1) := by decide +kernel
theorem dX12_join_93 : decode cX12_join 93 = .ok (.iload 4, 2) := by decide +kernel
theorem dX12_join_95 : decode cX12_join 95 = .ok (.iload 6, 2) := by decide +kernel
theorem dX12_join_97 : decode cX12_join 97 = .ok (.iload_n 3, 1) := by decide +kernel
theorem dX12_join_98 : decode cX12_join 98 = .ok (.imul, 1) := by decide +kernel
theorem dX12_join_99 : decode cX12_join 99 = .ok (.iadd, 1) := by decide +kernel
theorem dX12_join_100 : decode cX12_join 100 = .ok (.aload_n 0, 1) := by decide +kernel
theorem dX12_join_101 : decode cX12_join 101 = .ok (.iload_n 1, 1) := by decide +kernel
theorem dX12_join_102 : decode cX12_join 102 = .ok (.invokevirtual 244, 3) := by decide +kernel
theorem dX12_join_105 : decode cX12_join 105 = .ok (.aload_n 0, 1) := by decide +kernel
theorem dX12_join_106 : decode cX12_join 106 = .ok (.iload_n 1, 1) := by decide +kernel
theorem dX12_join_107 : decode cX12_join 107 = .ok (.invokevirtual 238, 3) := by decide +kernel
theorem dX12_join_110 : decode cX12_join 110 = .ok (.invokevirtual 323, 3) := by decide +kernel
theorem dX12_join_113 : decode cX12_join 113 = .ok (.istore 7, 2) := by decide +kernel
theorem dX12_join_115 : decode cX12_join 115 = .ok (.iload 7, 2) := by decide +kernel
theorem dX12_join_117 : decode cX12_join 117 = .ok (.iconst (-1), 1) := by decide +kernel
theorem dX12_join_118 : decode cX12_join 118 = .ok (.if_icmp .ne 10, 3) := by decide +kernel
theorem dX12_join_121 : decode cX12_join 121 = .ok (.aload_n 0, 1) := by decide +kernel
theorem dX12_join_122 : decode cX12_join 122 = .ok (.bipush 6, 2) := by decide +kernel
theorem dX12_join_124 : decode cX12_join 124 = .ok (.invokevirtual 88, 3) := by decide +kernel
theorem dX12_join_127 : decode cX12_join 127 = .ok (.ireturn, 1) := by decide +kernel
theorem dX12_join_128 : decode cX12_join 128 = .ok (.iload 5, 2) := by decide +kernel
theorem dX12_join_130 : decode cX12_join 130 = .ok (.iconst 1, 1) := by decide +kernel
theorem dX12_join_131 : decode cX12_join 131 = .ok (.iload 7, 2) := by decide +kernel
theorem dX12_join_133 : decode cX12_join 133 = .ok (.ishl, 1) := by decide +kernel
theorem dX12_join_134 : decode cX12_join 134 = .ok (.ior, 1) := by decide +kernel
theorem dX12_join_135 : decode cX12_join 135 = .ok (.istore 5, 2) := by decide +kernel
theorem dX12_join_137 : decode cX12_join 137 = .ok (.iinc 6 1, 3) := by decide +kernel
theorem dX12_join_140 : decode cX12_join 140 = .ok (.goto (-72), 3) := by decide +kernel
theorem dX12_join_143 : decode cX12_join 143 = .ok (.aload_n 0, 1) := by decide +kernel
theorem dX12_join_144 : decode cX12_join 144 = .ok (.getfield 7, 3) := by decide +kernel
theorem dX12_join_147 : decode cX12_join 147 = .ok (.iload_n 1, 1) := by decide +kernel
theorem dX12_join_148 : decode cX12_join 148 = .ok (.invokestatic 180, 3) := by decide +kernel
theorem dX12_join_151 : decode cX12_join 151 = .ok (.iload 4, 2) := by decide +kernel
theorem dX12_join_153 : decode cX12_join 153 = .ok (.iastore, 1) := by decide +kernel
theorem dX12_join_154 : decode cX12_join 154 = .ok (.aload_n 0, 1) := by decide +kernel
theorem dX12_join_155 : decode cX12_join 155 = .ok (.getfield 7, 3) := by decide +kernel
theorem dX12_join_158 : decode cX12_join 158 = .ok (.iload_n 1, 1) := by decide +kernel
theorem dX12_join_159 : decode cX12_join 159 = .ok (.invokestatic 180, 3) := by decide +kernel
theorem dX12_join_162 : decode cX12_join 162 = .ok (.iconst 1, 1) := by decide +kernel
theorem dX12_join_163 : decode cX12_join 163 = .ok (.iadd, 1) := by decide +kernel
theorem dX12_join_164 : decode cX12_join 164 = .ok (.iload_n 3, 1) := by decide +kernel
theorem dX12_join_165 : decode cX12_join 165 = .ok (.iastore, 1) := by decide +kernel
theorem dX12_join_166 : decode cX12_join 166 = .ok (.bipush 11, 2) := by decide +kernel
theorem dX12_join_168 : decode cX12_join 168 = .ok (.istore 6, 2) := by decide +kernel
theorem dX12_join_170 : decode cX12_join 170 = .ok (.iload 6, 2) := by decide +kernel
theorem dX12_join_172 : decode cX12_join 172 = .ok (.ifCond .lt 25, 3) := by decide +kernel
theorem dX12_join_175 : decode cX12_join 175 = .ok (.iload 5, 2) := by decide +kernel
theorem dX12_join_177 : decode cX12_join 177 = .ok (.iload 6, 2) := by decide +kernel
theorem dX12_join_179 : decode cX12_join 179 = .ok (.invokestatic 241, 3) := by decide +kernel
theorem dX12_join_182 : decode cX12_join 182 = .ok (.ifCond .eq 9, 3) := by decide +kernel
theorem dX12_join_185 : decode cX12_join 185 = .ok (.aload_n 0, 1) := by decide +kernel
theorem dX12_join_186 : decode cX12_join 186 = .ok (.iload 6, 2) := by decide +kernel
theorem dX12_join_188 : decode cX12_join 188 = .ok (.invokevirtual 305, 3) := by decide +kernel
theorem dX12_join_191 : decode cX12_join 191 = .ok (.iinc 6 (-1), 3) := by decide +kernel
theorem dX12_join_194 : decode cX12_join 194 = .ok (.goto (-24), 3) := by decide +kernel
theorem dX12_join_197 : decode cX12_join 197 = .ok (.aload_n 0, 1) := by decide +kernel
theorem dX12_join_198 : decode cX12_join 198 = .ok (.aload_n 0, 1) := by decide +kernel
theorem dX12_join_199 : decode cX12_join 199 = .ok (.getfield 7, 3) := by decide +kernel
theorem dX12_join_202 : decode cX12_join 202 = .ok (.iconst 0, 1) := by decide +kernel
theorem dX12_join_203 : decode cX12_join 203 = .ok (.iaload, 1) := by decide +kernel
theorem dX12_join_204 : decode cX12_join 204 = .ok (.invokevirtual 92, 3) := by decide +kernel
theorem dX12_join_207 : decode cX12_join 207 = .ok (.ireturn, 1) := by decide +kernel
noncomputable def Mo_join_L68 (l1 : Int32) (l2 : Int32) (l3 : Int32) (l4 : Int32) (σ : St) (x5 : Int32) (x6 : Int32) : Option ((Int32 × Int32) ⊕ ((Int32 × St) ⊕ Int32)) :=
  if l2 ≤ x6 then (some (.inr (.inr x5))) else (bd (Mo_restOf σ l1) (fun r20 => if (l4 + (x6 * l3)) = r20 then (bnd (x6 + 1) (fun v33 => some (.inl (x5, v33)))) else (bd (Mo_modulusOf σ l1) (fun r22 => bd (Mo_isOn σ l1) (fun r24 => bd (Mo_findClass σ (l4 + (x6 * l3)) r22 r24) (fun r26 => if r26 = (-1) then (bd2 (Mo_refuse σ 6) (fun r30 σ31 => some (.inr (.inl (r30, σ31))))) else (bnd ((x5 ||| (1 <<< (r26 &&& 31)))) (fun v27 => bnd (x6 + 1) (fun v28 => some (.inl (v27, v28)))))))))))
set_option maxRecDepth 100000 in
set_option maxHeartbeats 4000000 in
theorem tb_Mo_join_L68 {V : Ev} {Γ : Cn} {fin : Option Value × St} {l1 : Int32} {l2 : Int32} {l3 : Int32} {l4 : Int32} {σ : St} {x5 : Int32} {x6 : Int32} {o : ((Int32 × Int32) ⊕ ((Int32 × St) ⊕ Int32))} (X : Cx V Γ M_X12_join) {A : ((Int32 × Int32) ⊕ ((Int32 × St) ⊕ Int32)) → Prop}  (hr : ∀ (r : Int32) (σ9 : St), A (.inr (.inl (r, σ9))) → (some (.int r), σ9) = fin) (hb68 : ∀ (x5 : Int32) (x6 : Int32), A (.inl (x5, x6)) → Go V Γ M_X12_join (Zm V Γ 3 fin) 68 [(0, .ref (V.2.2.1 + 92)), (1, .int l1), (2, .int l2), (3, .int l3), (4, .int l4), (5, .int x5), (6, .int x6)] [] σ) (hx68 : ∀ (x5 : Int32), A (.inr (.inr x5)) → Go V Γ M_X12_join (Zm V Γ 3 fin) 143 [(0, .ref (V.2.2.1 + 92)), (1, .int l1), (3, .int l3), (4, .int l4), (5, .int x5)] [] σ) (h : Mo_join_L68 l1 l2 l3 l4 σ x5 x6 = some o) (hA : A o) : Go V Γ M_X12_join (Zm V Γ 3 fin) 68 [(0, .ref (V.2.2.1 + 92)), (1, .int l1), (2, .int l2), (3, .int l3), (4, .int l4), (5, .int x5), (6, .int x6)] [] σ := by
  unfold Mo_join_L68 at h
  refine g_iload (pc := 68) X 6 rfl dX12_join_68 ?_
  refine g_iload_n (pc := 70) X 2 rfl dX12_join_70 ?_
  refine g_icmp_ge (pc := 71) (tgt := 143) X dX12_join_71 rfl (fun c35 => ?_) (fun c35 => ?_)
  · replace h := if_t c35 h
    refine g_sub [0, 1, 3, 4, 5] rfl ?_
    cases h
    exact hx68 _ hA
  · replace h := if_f c35 h
    refine g_iload (pc := 74) X 4 rfl dX12_join_74 ?_
    refine g_iload (pc := 76) X 6 rfl dX12_join_76 ?_
    refine g_iload_n (pc := 78) X 3 rfl dX12_join_78 ?_
    refine g_imul (pc := 79) X dX12_join_79 ?_
    refine g_iadd (pc := 80) X dX12_join_80 ?_
    refine g_aload_n (pc := 81) X 0 rfl dX12_join_81 ?_
    refine g_iload_n (pc := 82) X 1 rfl dX12_join_82 ?_
    obtain ⟨r20, hc19, h⟩ := bd_e h
    refine g_callV (pc := 83) X k_ml_X12_256 (run_Mo_restOf  hc19) s_92 rfl (room_ok (Nat.le_of_ble_eq_true rfl) (Nat.le_of_ble_eq_true rfl)) ⟨Nat.le_refl _, Nat.le_refl _⟩ _ rfl (Nat.le_of_ble_eq_true rfl) dX12_join_83 ?_
    show Go V Γ M_X12_join (Zm V Γ 3 fin) 86 [(0, .ref (V.2.2.1 + 92)), (1, .int l1), (2, .int l2), (3, .int l3), (4, .int l4), (5, .int x5), (6, .int x6)] [.int r20, .int (l4 + (x6 * l3))] σ
    refine g_icmp_ne (pc := 86) (tgt := 92) X dX12_join_86 rfl (fun c34 => ?_) (fun c34 => ?_)
    · replace h := if_f c34 h
      refine g_aload_n (pc := 92) X 0 rfl dX12_join_92 ?_
      refine g_iload (pc := 93) X 4 rfl dX12_join_93 ?_
      refine g_iload (pc := 95) X 6 rfl dX12_join_95 ?_
      refine g_iload_n (pc := 97) X 3 rfl dX12_join_97 ?_
      refine g_imul (pc := 98) X dX12_join_98 ?_
      refine g_iadd (pc := 99) X dX12_join_99 ?_
      refine g_aload_n (pc := 100) X 0 rfl dX12_join_100 ?_
      refine g_iload_n (pc := 101) X 1 rfl dX12_join_101 ?_
      obtain ⟨r22, hc21, h⟩ := bd_e h
      refine g_callV (pc := 102) X k_ml_X12_244 (run_Mo_modulusOf  hc21) s_92 rfl (room_ok (Nat.le_of_ble_eq_true rfl) (Nat.le_of_ble_eq_true rfl)) ⟨Nat.le_refl _, Nat.le_refl _⟩ _ rfl (Nat.le_of_ble_eq_true rfl) dX12_join_102 ?_
      show Go V Γ M_X12_join (Zm V Γ 3 fin) 105 [(0, .ref (V.2.2.1 + 92)), (1, .int l1), (2, .int l2), (3, .int l3), (4, .int l4), (5, .int x5), (6, .int x6)] [.int r22, .int (l4 + (x6 * l3)), .ref (V.2.2.1 + 92)] σ
      refine g_aload_n (pc := 105) X 0 rfl dX12_join_105 ?_
      refine g_iload_n (pc := 106) X 1 rfl dX12_join_106 ?_
      obtain ⟨r24, hc23, h⟩ := bd_e h
      refine g_callV (pc := 107) X k_ml_X12_238 (run_Mo_isOn  hc23) s_92 rfl (room_ok (Nat.le_of_ble_eq_true rfl) (Nat.le_of_ble_eq_true rfl)) ⟨Nat.le_refl _, Nat.le_refl _⟩ _ rfl (Nat.le_of_ble_eq_true rfl) dX12_join_107 ?_
      show Go V Γ M_X12_join (Zm V Γ 3 fin) 110 [(0, .ref (V.2.2.1 + 92)), (1, .int l1), (2, .int l2), (3, .int l3), (4, .int l4), (5, .int x5), (6, .int x6)] [.int r24, .int r22, .int (l4 + (x6 * l3)), .ref (V.2.2.1 + 92)] σ
      obtain ⟨r26, hc25, h⟩ := bd_e h
      refine g_callV (pc := 110) X k_ml_X12_323 (run_Mo_findClass  hc25) s_92 rfl (room_ok (Nat.le_of_ble_eq_true rfl) (Nat.le_of_ble_eq_true rfl)) ⟨Nat.le_refl _, Nat.le_refl _⟩ _ rfl (Nat.le_of_ble_eq_true rfl) dX12_join_110 ?_
      show Go V Γ M_X12_join (Zm V Γ 3 fin) 113 [(0, .ref (V.2.2.1 + 92)), (1, .int l1), (2, .int l2), (3, .int l3), (4, .int l4), (5, .int x5), (6, .int x6)] [.int r26] σ
      refine g_istore (pc := 113) X [(7, .int r26), (0, .ref (V.2.2.1 + 92)), (1, .int l1), (2, .int l2), (3, .int l3), (4, .int l4), (5, .int x5), (6, .int x6)] (Nat.le_of_ble_eq_true rfl) rfl dX12_join_113 ?_
      refine g_iload (pc := 115) X 0 rfl dX12_join_115 ?_
      refine g_iconst (v := (-1)) (pc := 117) X rfl dX12_join_117 ?_
      refine g_icmp_ne (pc := 118) (tgt := 128) X dX12_join_118 rfl (fun c32 => ?_) (fun c32 => ?_)
      · replace h := if_f c32 h
        refine g_iload (pc := 128) X 6 rfl dX12_join_128 ?_
        refine g_iconst (v := 1) (pc := 130) X rfl dX12_join_130 ?_
        refine g_iload (pc := 131) X 0 rfl dX12_join_131 ?_
        refine g_ishl (pc := 133) X dX12_join_133 ?_
        refine g_ior (pc := 134) X dX12_join_134 ?_
        obtain ⟨v27, e_v27, h⟩ := bnd_e h
        refine g_nmI e_v27 ?_
        refine g_istore (pc := 135) X [(5, .int v27), (7, .int r26), (0, .ref (V.2.2.1 + 92)), (1, .int l1), (2, .int l2), (3, .int l3), (4, .int l4), (6, .int x6)] (Nat.le_of_ble_eq_true rfl) rfl dX12_join_135 ?_
        obtain ⟨v28, e_v28, h⟩ := bnd_e h
        refine g_iinc (pc := 137) (v := v28) X [(6, .int v28), (5, .int v27), (7, .int r26), (0, .ref (V.2.2.1 + 92)), (1, .int l1), (2, .int l2), (3, .int l3), (4, .int l4)] 7 rfl (by rw [e_v28]; rfl) (Nat.le_of_ble_eq_true rfl) rfl dX12_join_137 ?_
        refine g_goto (pc := 140) (tgt := 68) X dX12_join_140 rfl ?_
        refine g_sub [3, 4, 5, 6, 7, 1, 0] rfl ?_
        cases h
        exact hb68 _ _ hA
      · replace h := if_t c32 h
        refine g_aload_n (pc := 121) X 1 rfl dX12_join_121 ?_
        refine g_bipush (v := 6) (pc := 122) X (by decide) dX12_join_122 ?_
        obtain ⟨r30, σ31, hc29, h⟩ := bd2_e h
        refine g_callV (pc := 124) X k_ml_X12_88 (run_Mo_refuse  hc29) s_92 rfl (room_ok (Nat.le_of_ble_eq_true rfl) (Nat.le_of_ble_eq_true rfl)) ⟨Nat.le_refl _, Nat.le_refl _⟩ _ rfl (Nat.le_of_ble_eq_true rfl) dX12_join_124 ?_
        show Go V Γ M_X12_join (Zm V Γ 3 fin) 127 [(7, .int r26), (0, .ref (V.2.2.1 + 92)), (1, .int l1), (2, .int l2), (3, .int l3), (4, .int l4), (5, .int x5), (6, .int x6)] [.int r30] σ31
        cases h
        exact g_iret (pc := 127) X rfl rfl (hr _ _ hA) dX12_join_127
    · replace h := if_t c34 h
      refine g_goto (pc := 89) (tgt := 137) X dX12_join_89 rfl ?_
      obtain ⟨v33, e_v33, h⟩ := bnd_e h
      refine g_iinc (pc := 137) (v := v33) X [(6, .int v33), (0, .ref (V.2.2.1 + 92)), (1, .int l1), (2, .int l2), (3, .int l3), (4, .int l4), (5, .int x5)] 6 rfl (by rw [e_v33]; rfl) (Nat.le_of_ble_eq_true rfl) rfl dX12_join_137 ?_
      refine g_goto (pc := 140) (tgt := 68) X dX12_join_140 rfl ?_
      refine g_sub [1, 2, 3, 4, 5, 6, 0] rfl ?_
      cases h
      exact hb68 _ _ hA
set_option maxRecDepth 100000 in
theorem tl_Mo_join_L68 {V : Ev} {Γ : Cn} {fin : Option Value × St} {l1 : Int32} {l2 : Int32} {l3 : Int32} {l4 : Int32} {σ : St} {x5 : Int32} {x6 : Int32} (X : Cx V Γ M_X12_join)  {e : ((Int32 × St) ⊕ Int32)} {A : (Int32 × St) → Prop} (hr : ∀ (r : Int32) (σ9 : St), A (r, σ9) → (some (.int r), σ9) = fin) {n : Nat} (h : iter (fun s : (Int32 × Int32) => Mo_join_L68 l1 l2 l3 l4 σ s.1 s.2) n (x5, x6) = some e) (hK1 : ∀ t, e = .inl t → A t) (hK2 : ∀ (y5 : Int32), e = .inr y5 → Go V Γ M_X12_join (Zm V Γ 3 fin) 143 [(0, .ref (V.2.2.1 + 92)), (1, .int l1), (3, .int l3), (4, .int l4), (5, .int y5)] [] σ) : Go V Γ M_X12_join (Zm V Γ 3 fin) 68 [(0, .ref (V.2.2.1 + 92)), (1, .int l1), (2, .int l2), (3, .int l3), (4, .int l4), (5, .int x5), (6, .int x6)] [] σ := by
  refine iter_go (G := (fun s : (Int32 × Int32) => Go V Γ M_X12_join (Zm V Γ 3 fin) 68 [(0, .ref (V.2.2.1 + 92)), (1, .int l1), (2, .int l2), (3, .int l3), (4, .int l4), (5, .int s.1), (6, .int s.2)] [] σ)) (fun s o ho hS => ?_) n (x5, x6) h
  exact tb_Mo_join_L68 X  (fun z0 z1 he => hr z0 z1 (hK1 _ he.symm)) (fun _ _ h9 => h9) (fun z0 he => hK2 z0 he.symm) ho hS
noncomputable def Mo_join_L170 (l5 : Int32) (σ : St) (x6 : Int32) : Option ((Int32 × St) ⊕ St) :=
  if x6 < 0 then (some (.inr σ)) else (bd (Mo_isIn l5 x6) (fun r51 => if r51 = 0 then (bnd (x6 + (-1)) (fun v52 => some (.inl (v52, σ)))) else (bd (Mo_takesAway σ x6) (fun σ54 => bnd (x6 + (-1)) (fun v55 => some (.inl (v55, σ54)))))))
set_option maxRecDepth 100000 in
set_option maxHeartbeats 4000000 in
theorem tb_Mo_join_L170 {V : Ev} {Γ : Cn} {fin : Option Value × St} {l5 : Int32} {σ : St} {x6 : Int32} {o : ((Int32 × St) ⊕ St)} (X : Cx V Γ M_X12_join) {A : ((Int32 × St) ⊕ St) → Prop}  (hb170 : ∀ (x6 : Int32) (σ9 : St), A (.inl (x6, σ9)) → Go V Γ M_X12_join (Zm V Γ 3 fin) 170 [(0, .ref (V.2.2.1 + 92)), (5, .int l5), (6, .int x6)] [] σ9) (hx170 : ∀ (σ9 : St), A (.inr σ9) → Go V Γ M_X12_join (Zm V Γ 3 fin) 197 [(0, .ref (V.2.2.1 + 92))] [] σ9) (h : Mo_join_L170 l5 σ x6 = some o) (hA : A o) : Go V Γ M_X12_join (Zm V Γ 3 fin) 170 [(0, .ref (V.2.2.1 + 92)), (5, .int l5), (6, .int x6)] [] σ := by
  unfold Mo_join_L170 at h
  refine g_iload (pc := 170) X 2 rfl dX12_join_170 ?_
  refine g_if_lt (pc := 172) (tgt := 197) X dX12_join_172 rfl (fun c57 => ?_) (fun c57 => ?_)
  · replace h := if_t c57 h
    refine g_sub [0] rfl ?_
    cases h
    exact hx170 _ hA
  · replace h := if_f c57 h
    refine g_iload (pc := 175) X 1 rfl dX12_join_175 ?_
    refine g_iload (pc := 177) X 2 rfl dX12_join_177 ?_
    obtain ⟨r51, hc50, h⟩ := bd_e h
    refine g_callS (pc := 179) X k_ml_X12_241 (run_Mo_isIn  hc50) rfl (room_ok (Nat.le_of_ble_eq_true rfl) (Nat.le_of_ble_eq_true rfl)) ⟨Nat.le_refl _, Nat.le_refl _⟩ _ rfl (Nat.le_of_ble_eq_true rfl) dX12_join_179 ?_
    show Go V Γ M_X12_join (Zm V Γ 3 fin) 182 [(0, .ref (V.2.2.1 + 92)), (5, .int l5), (6, .int x6)] [.int r51] σ
    refine g_if_eq (pc := 182) (tgt := 191) X dX12_join_182 rfl (fun c56 => ?_) (fun c56 => ?_)
    · replace h := if_t c56 h
      obtain ⟨v52, e_v52, h⟩ := bnd_e h
      refine g_iinc (pc := 191) (v := v52) X [(6, .int v52), (0, .ref (V.2.2.1 + 92)), (5, .int l5)] 2 rfl (by rw [e_v52]; rfl) (Nat.le_of_ble_eq_true rfl) rfl dX12_join_191 ?_
      refine g_goto (pc := 194) (tgt := 170) X dX12_join_194 rfl ?_
      refine g_sub [1, 2, 0] rfl ?_
      cases h
      exact hb170 _ _ hA
    · replace h := if_f c56 h
      refine g_aload_n (pc := 185) X 0 rfl dX12_join_185 ?_
      refine g_iload (pc := 186) X 2 rfl dX12_join_186 ?_
      obtain ⟨σ54, hc53, h⟩ := bd_e h
      refine g_callV (pc := 188) X k_ml_X12_305 (run_Mo_takesAway  hc53) s_92 rfl (room_ok (Nat.le_of_ble_eq_true rfl) (Nat.le_of_ble_eq_true rfl)) ⟨Nat.le_refl _, Nat.le_refl _⟩ _ rfl (Nat.le_of_ble_eq_true rfl) dX12_join_188 ?_
      show Go V Γ M_X12_join (Zm V Γ 3 fin) 191 [(0, .ref (V.2.2.1 + 92)), (5, .int l5), (6, .int x6)] [] σ54
      obtain ⟨v55, e_v55, h⟩ := bnd_e h
      refine g_iinc (pc := 191) (v := v55) X [(6, .int v55), (0, .ref (V.2.2.1 + 92)), (5, .int l5)] 2 rfl (by rw [e_v55]; rfl) (Nat.le_of_ble_eq_true rfl) rfl dX12_join_191 ?_
      refine g_goto (pc := 194) (tgt := 170) X dX12_join_194 rfl ?_
      refine g_sub [1, 2, 0] rfl ?_
      cases h
      exact hb170 _ _ hA
set_option maxRecDepth 100000 in
theorem tl_Mo_join_L170 {V : Ev} {Γ : Cn} {fin : Option Value × St} {l5 : Int32} {x6 : Int32} {σ9 : St} (X : Cx V Γ M_X12_join)  {σ8 : St} {n : Nat} (h : iter (fun s : (Int32 × St) => Mo_join_L170 l5 s.2 s.1) n (x6, σ9) = some σ8) (hK : Go V Γ M_X12_join (Zm V Γ 3 fin) 197 [(0, .ref (V.2.2.1 + 92))] [] σ8) : Go V Γ M_X12_join (Zm V Γ 3 fin) 170 [(0, .ref (V.2.2.1 + 92)), (5, .int l5), (6, .int x6)] [] σ9 := by
  refine iter_go (G := (fun s : (Int32 × St) => Go V Γ M_X12_join (Zm V Γ 3 fin) 170 [(0, .ref (V.2.2.1 + 92)), (5, .int l5), (6, .int s.1)] [] s.2)) (fun s o ho hS => ?_) n (x6, σ9) h
  exact tb_Mo_join_L170 X  (fun _ _ h9 => h9) (fun _ he => by cases he; exact hK) ho hS
noncomputable def Mo_join (σ : St) (p1 : Int32) (p2 : Int32) : Option (Int32 × St) :=
  bd (Mo_isClass σ p1) (fun r2 => if r2 = 0 then (bd2 (Mo_refuse σ 1) (fun r4 σ5 => some (r4, σ5))) else (bd (Mo_isFrom p2.toInt64 2 7) (fun r7 => if r7 = 0 then (bd2 (Mo_refuse σ 1) (fun r69 σ70 => some (r69, σ70))) else (bd (Mo_modulusOf σ p1) (fun r9 => chk (nzI p2) (if (jrem r9 p2) = 0 then (bd (Mo_modulusOf σ p1) (fun r12 => chk (nzI p2) (bnd ((r12 / p2)) (fun v14 => bd (Mo_restOf σ p1) (fun r16 => chk (nzI v14) (bnd ((jrem r16 v14)) (fun v18 => bs1 (iter (fun s : (Int32 × Int32) => Mo_join_L68 p1 p2 v14 v18 σ s.1 s.2) FUEL (0, 0)) (fun v36 => bd (Mo_rowOf p1) (fun r43 => chk (ix r43 2060) (bnd (wI σ 93 (tn r43) v18) (fun σ45 => bd (Mo_rowOf p1) (fun r47 => chk (ix (r47 + 1) 2060) (bnd (wI σ45 93 (tn (r47 + 1)) v14) (fun σ49 => bd (iter (fun s : (Int32 × St) => Mo_join_L170 v36 s.2 s.1) FUEL (11, σ49)) (fun σ58 => chk (ix 0 2060) (bd2 (Mo_gives σ58 (σ58.1 93 (tn 0))) (fun r62 σ63 => some (r62, σ63)))))))))))))))))) else (bd2 (Mo_refuse σ 7) (fun r65 σ66 => some (r65, σ66)))))))))
set_option maxRecDepth 100000 in
set_option maxHeartbeats 4000000 in
theorem tm_Mo_join {V : Ev} {Γ : Cn} {fin : Option Value × St} {σ : St} {p1 : Int32} {p2 : Int32} {o : (Int32 × St)} (X : Cx V Γ M_X12_join) {A : (Int32 × St) → Prop}  (hr : ∀ (r : Int32) (σ9 : St), A (r, σ9) → (some (.int r), σ9) = fin) (h : Mo_join σ p1 p2 = some o) (hA : A o) : Go V Γ M_X12_join (Zm V Γ 3 fin) 0 [(0, .ref (V.2.2.1 + 92)), (1, .int p1), (2, .int p2)] [] σ := by
  unfold Mo_join at h
  refine g_aload_n (pc := 0) X 0 rfl dX12_join_0 ?_
  refine g_iload_n (pc := 1) X 1 rfl dX12_join_1 ?_
  obtain ⟨r2, hc1, h⟩ := bd_e h
  refine g_callV (pc := 2) X k_ml_X12_286 (run_Mo_isClass  hc1) s_92 rfl (room_ok (Nat.le_of_ble_eq_true rfl) (Nat.le_of_ble_eq_true rfl)) ⟨Nat.le_refl _, Nat.le_refl _⟩ _ rfl (Nat.le_of_ble_eq_true rfl) dX12_join_2 ?_
  show Go V Γ M_X12_join (Zm V Γ 3 fin) 5 [(0, .ref (V.2.2.1 + 92)), (1, .int p1), (2, .int p2)] [.int r2] σ
  refine g_if_eq (pc := 5) (tgt := 22) X dX12_join_5 rfl (fun c72 => ?_) (fun c72 => ?_)
  · replace h := if_t c72 h
    refine g_aload_n (pc := 22) X 0 rfl dX12_join_22 ?_
    refine g_iconst (v := 1) (pc := 23) X rfl dX12_join_23 ?_
    obtain ⟨r4, σ5, hc3, h⟩ := bd2_e h
    refine g_callV (pc := 24) X k_ml_X12_88 (run_Mo_refuse  hc3) s_92 rfl (room_ok (Nat.le_of_ble_eq_true rfl) (Nat.le_of_ble_eq_true rfl)) ⟨Nat.le_refl _, Nat.le_refl _⟩ _ rfl (Nat.le_of_ble_eq_true rfl) dX12_join_24 ?_
    show Go V Γ M_X12_join (Zm V Γ 3 fin) 27 [(0, .ref (V.2.2.1 + 92)), (1, .int p1), (2, .int p2)] [.int r4] σ5
    cases h
    exact g_iret (pc := 27) X rfl rfl (hr _ _ hA) dX12_join_27
  · replace h := if_f c72 h
    refine g_iload_n (pc := 8) X 2 rfl dX12_join_8 ?_
    refine g_i2l (pc := 9) X dX12_join_9 ?_
    refine g_ldc2 (v := 2) (pc := 10) X k_constl_X12_311 dX12_join_10 ?_
    refine g_ldc2 (v := 7) (pc := 13) X k_constl_X12_268 dX12_join_13 ?_
    obtain ⟨r7, hc6, h⟩ := bd_e h
    refine g_callS (pc := 16) X k_ml_X12_270 (run_Mo_isFrom  hc6) rfl (room_ok (Nat.le_of_ble_eq_true rfl) (Nat.le_of_ble_eq_true rfl)) ⟨Nat.le_refl _, Nat.le_refl _⟩ _ rfl (Nat.le_of_ble_eq_true rfl) dX12_join_16 ?_
    show Go V Γ M_X12_join (Zm V Γ 3 fin) 19 [(0, .ref (V.2.2.1 + 92)), (1, .int p1), (2, .int p2)] [.int r7] σ
    refine g_if_ne (pc := 19) (tgt := 28) X dX12_join_19 rfl (fun c71 => ?_) (fun c71 => ?_)
    · replace h := if_f c71 h
      refine g_aload_n (pc := 28) X 0 rfl dX12_join_28 ?_
      refine g_iload_n (pc := 29) X 1 rfl dX12_join_29 ?_
      obtain ⟨r9, hc8, h⟩ := bd_e h
      refine g_callV (pc := 30) X k_ml_X12_244 (run_Mo_modulusOf  hc8) s_92 rfl (room_ok (Nat.le_of_ble_eq_true rfl) (Nat.le_of_ble_eq_true rfl)) ⟨Nat.le_refl _, Nat.le_refl _⟩ _ rfl (Nat.le_of_ble_eq_true rfl) dX12_join_30 ?_
      show Go V Γ M_X12_join (Zm V Γ 3 fin) 33 [(0, .ref (V.2.2.1 + 92)), (1, .int p1), (2, .int p2)] [.int r9] σ
      refine g_iload_n (pc := 33) X 2 rfl dX12_join_33 ?_
      obtain ⟨c10, h⟩ := chk_e h
      refine g_irem (pc := 34) X (nzI_e c10) dX12_join_34 ?_
      refine g_if_eq (pc := 35) (tgt := 45) X dX12_join_35 rfl (fun c67 => ?_) (fun c67 => ?_)
      · replace h := if_t c67 h
        refine g_aload_n (pc := 45) X 0 rfl dX12_join_45 ?_
        refine g_iload_n (pc := 46) X 1 rfl dX12_join_46 ?_
        obtain ⟨r12, hc11, h⟩ := bd_e h
        refine g_callV (pc := 47) X k_ml_X12_244 (run_Mo_modulusOf  hc11) s_92 rfl (room_ok (Nat.le_of_ble_eq_true rfl) (Nat.le_of_ble_eq_true rfl)) ⟨Nat.le_refl _, Nat.le_refl _⟩ _ rfl (Nat.le_of_ble_eq_true rfl) dX12_join_47 ?_
        show Go V Γ M_X12_join (Zm V Γ 3 fin) 50 [(0, .ref (V.2.2.1 + 92)), (1, .int p1), (2, .int p2)] [.int r12] σ
        refine g_iload_n (pc := 50) X 2 rfl dX12_join_50 ?_
        obtain ⟨c13, h⟩ := chk_e h
        refine g_idiv (pc := 51) X (nzI_e c13) dX12_join_51 ?_
        obtain ⟨v14, e_v14, h⟩ := bnd_e h
        refine g_nmI e_v14 ?_
        refine g_istore_n (pc := 52) X [(3, .int v14), (0, .ref (V.2.2.1 + 92)), (1, .int p1), (2, .int p2)] rfl (Nat.le_of_ble_eq_true rfl) rfl dX12_join_52 ?_
        refine g_aload_n (pc := 53) X 1 rfl dX12_join_53 ?_
        refine g_iload_n (pc := 54) X 2 rfl dX12_join_54 ?_
        obtain ⟨r16, hc15, h⟩ := bd_e h
        refine g_callV (pc := 55) X k_ml_X12_256 (run_Mo_restOf  hc15) s_92 rfl (room_ok (Nat.le_of_ble_eq_true rfl) (Nat.le_of_ble_eq_true rfl)) ⟨Nat.le_refl _, Nat.le_refl _⟩ _ rfl (Nat.le_of_ble_eq_true rfl) dX12_join_55 ?_
        show Go V Γ M_X12_join (Zm V Γ 3 fin) 58 [(3, .int v14), (0, .ref (V.2.2.1 + 92)), (1, .int p1), (2, .int p2)] [.int r16] σ
        refine g_iload_n (pc := 58) X 0 rfl dX12_join_58 ?_
        obtain ⟨c17, h⟩ := chk_e h
        refine g_irem (pc := 59) X (nzI_e c17) dX12_join_59 ?_
        obtain ⟨v18, e_v18, h⟩ := bnd_e h
        refine g_nmI e_v18 ?_
        refine g_istore (pc := 60) X [(4, .int v18), (3, .int v14), (0, .ref (V.2.2.1 + 92)), (1, .int p1), (2, .int p2)] (Nat.le_of_ble_eq_true rfl) rfl dX12_join_60 ?_
        refine g_iconst (v := 0) (pc := 62) X rfl dX12_join_62 ?_
        refine g_istore (pc := 63) X [(5, .int 0), (4, .int v18), (3, .int v14), (0, .ref (V.2.2.1 + 92)), (1, .int p1), (2, .int p2)] (Nat.le_of_ble_eq_true rfl) rfl dX12_join_63 ?_
        refine g_iconst (v := 0) (pc := 65) X rfl dX12_join_65 ?_
        refine g_istore (pc := 66) X [(6, .int 0), (5, .int 0), (4, .int v18), (3, .int v14), (0, .ref (V.2.2.1 + 92)), (1, .int p1), (2, .int p2)] (Nat.le_of_ble_eq_true rfl) rfl dX12_join_66 ?_
        refine g_sub [4, 5, 6, 3, 2, 1, 0] rfl ?_
        obtain ⟨e38, hi37, hk39, hk40⟩ := bs1_e h
        refine tl_Mo_join_L68 X  hr hi37 (fun t ht => (hk39 t ht) ▸ hA) (fun v36 he41 => ?_)
        clear h
        have h := hk40 v36 he41
        refine g_aload_n (pc := 143) X 0 rfl dX12_join_143 ?_
        refine g_getR (r := 93) (pc := 144) X k_fl_X12_7 s_92 rfl dX12_join_144 ?_
        refine g_iload_n (pc := 147) X 1 rfl dX12_join_147 ?_
        obtain ⟨r43, hc42, h⟩ := bd_e h
        refine g_callS (pc := 148) X k_ml_X12_180 (run_Mo_rowOf  hc42) rfl (room_ok (Nat.le_of_ble_eq_true rfl) (Nat.le_of_ble_eq_true rfl)) ⟨Nat.le_refl _, Nat.le_refl _⟩ _ rfl (Nat.le_of_ble_eq_true rfl) dX12_join_148 ?_
        show Go V Γ M_X12_join (Zm V Γ 3 fin) 151 [(0, .ref (V.2.2.1 + 92)), (1, .int p1), (3, .int v14), (4, .int v18), (5, .int v36)] [.int r43, .ref (V.2.2.1 + 93)] σ
        refine g_iload (pc := 151) X 3 rfl dX12_join_151 ?_
        obtain ⟨c44, h⟩ := chk_e h
        refine g_iast (pc := 153) X s_93 c44 dX12_join_153 ?_
        obtain ⟨σ45, e_σ45, h⟩ := bnd_e h
        refine g_nmS e_σ45 ?_
        refine g_aload_n (pc := 154) X 0 rfl dX12_join_154 ?_
        refine g_getR (r := 93) (pc := 155) X k_fl_X12_7 s_92 rfl dX12_join_155 ?_
        refine g_iload_n (pc := 158) X 1 rfl dX12_join_158 ?_
        obtain ⟨r47, hc46, h⟩ := bd_e h
        refine g_callS (pc := 159) X k_ml_X12_180 (run_Mo_rowOf  hc46) rfl (room_ok (Nat.le_of_ble_eq_true rfl) (Nat.le_of_ble_eq_true rfl)) ⟨Nat.le_refl _, Nat.le_refl _⟩ _ rfl (Nat.le_of_ble_eq_true rfl) dX12_join_159 ?_
        show Go V Γ M_X12_join (Zm V Γ 3 fin) 162 [(0, .ref (V.2.2.1 + 92)), (1, .int p1), (3, .int v14), (4, .int v18), (5, .int v36)] [.int r47, .ref (V.2.2.1 + 93)] σ45
        refine g_iconst (v := 1) (pc := 162) X rfl dX12_join_162 ?_
        refine g_iadd (pc := 163) X dX12_join_163 ?_
        refine g_iload_n (pc := 164) X 2 rfl dX12_join_164 ?_
        obtain ⟨c48, h⟩ := chk_e h
        refine g_iast (pc := 165) X s_93 c48 dX12_join_165 ?_
        obtain ⟨σ49, e_σ49, h⟩ := bnd_e h
        refine g_nmS e_σ49 ?_
        refine g_bipush (v := 11) (pc := 166) X (by decide) dX12_join_166 ?_
        refine g_istore (pc := 168) X [(6, .int 11), (0, .ref (V.2.2.1 + 92)), (1, .int p1), (3, .int v14), (4, .int v18), (5, .int v36)] (Nat.le_of_ble_eq_true rfl) rfl dX12_join_168 ?_
        refine g_sub [1, 5, 0] rfl ?_
        obtain ⟨σ58, hi59, h⟩ := bd_e h
        refine tl_Mo_join_L170 X  hi59 ?_
        refine g_aload_n (pc := 197) X 0 rfl dX12_join_197 ?_
        refine g_aload_n (pc := 198) X 0 rfl dX12_join_198 ?_
        refine g_getR (r := 93) (pc := 199) X k_fl_X12_7 s_92 rfl dX12_join_199 ?_
        refine g_iconst (v := 0) (pc := 202) X rfl dX12_join_202 ?_
        obtain ⟨c60, h⟩ := chk_e h
        refine g_iald (pc := 203) X s_93 c60 dX12_join_203 ?_
        obtain ⟨r62, σ63, hc61, h⟩ := bd2_e h
        refine g_callV (pc := 204) X k_ml_X12_92 (run_Mo_gives  hc61) s_92 rfl (room_ok (Nat.le_of_ble_eq_true rfl) (Nat.le_of_ble_eq_true rfl)) ⟨Nat.le_refl _, Nat.le_refl _⟩ _ rfl (Nat.le_of_ble_eq_true rfl) dX12_join_204 ?_
        show Go V Γ M_X12_join (Zm V Γ 3 fin) 207 [(0, .ref (V.2.2.1 + 92))] [.int r62] σ63
        cases h
        exact g_iret (pc := 207) X rfl rfl (hr _ _ hA) dX12_join_207
      · replace h := if_f c67 h
        refine g_aload_n (pc := 38) X 0 rfl dX12_join_38 ?_
        refine g_bipush (v := 7) (pc := 39) X (by decide) dX12_join_39 ?_
        obtain ⟨r65, σ66, hc64, h⟩ := bd2_e h
        refine g_callV (pc := 41) X k_ml_X12_88 (run_Mo_refuse  hc64) s_92 rfl (room_ok (Nat.le_of_ble_eq_true rfl) (Nat.le_of_ble_eq_true rfl)) ⟨Nat.le_refl _, Nat.le_refl _⟩ _ rfl (Nat.le_of_ble_eq_true rfl) dX12_join_41 ?_
        show Go V Γ M_X12_join (Zm V Γ 3 fin) 44 [(0, .ref (V.2.2.1 + 92)), (1, .int p1), (2, .int p2)] [.int r65] σ66
        cases h
        exact g_iret (pc := 44) X rfl rfl (hr _ _ hA) dX12_join_44
    · replace h := if_t c71 h
      refine g_aload_n (pc := 22) X 0 rfl dX12_join_22 ?_
      refine g_iconst (v := 1) (pc := 23) X rfl dX12_join_23 ?_
      obtain ⟨r69, σ70, hc68, h⟩ := bd2_e h
      refine g_callV (pc := 24) X k_ml_X12_88 (run_Mo_refuse  hc68) s_92 rfl (room_ok (Nat.le_of_ble_eq_true rfl) (Nat.le_of_ble_eq_true rfl)) ⟨Nat.le_refl _, Nat.le_refl _⟩ _ rfl (Nat.le_of_ble_eq_true rfl) dX12_join_24 ?_
      show Go V Γ M_X12_join (Zm V Γ 3 fin) 27 [(0, .ref (V.2.2.1 + 92)), (1, .int p1), (2, .int p2)] [.int r69] σ70
      cases h
      exact g_iret (pc := 27) X rfl rfl (hr _ _ hA) dX12_join_27
set_option maxRecDepth 100000 in
theorem run_Mo_join {V : Ev} {σ : St} {p1 : Int32} {p2 : Int32} {o : (Int32 × St)}   (h : Mo_join σ p1 p2 = some o) : Rs V 3 M_X12_join [.ref (V.2.2.1 + 92), .int p1, .int p2] σ (some (.int o.1), o.2) := by
  refine Rs.of (by decide +kernel) (Nat.le_of_ble_eq_true rfl) (fun Γ X => ?_)
  exact tm_Mo_join X (A := fun o1 => o1 = o)  (fun _ _ e => by rw [← e]) h rfl
theorem dX12_rule_0 : decode cX12_rule 0 = .ok (.iload_n 1, 1) := by decide +kernel
theorem dX12_rule_1 : decode cX12_rule 1 = .ok (.i2l, 1) := by decide +kernel
theorem dX12_rule_2 : decode cX12_rule 2 = .ok (.lconst 0, 1) := by decide +kernel
theorem dX12_rule_3 : decode cX12_rule 3 = .ok (.ldc2_w 327, 3) := by decide +kernel
theorem dX12_rule_6 : decode cX12_rule 6 = .ok (.invokestatic 270, 3) := by decide +kernel
theorem dX12_rule_9 : decode cX12_rule 9 = .ok (.ifCond .ne 9, 3) := by decide +kernel
theorem dX12_rule_12 : decode cX12_rule 12 = .ok (.aload_n 0, 1) := by decide +kernel
theorem dX12_rule_13 : decode cX12_rule 13 = .ok (.iconst 1, 1) := by decide +kernel
theorem dX12_rule_14 : decode cX12_rule 14 = .ok (.invokevirtual 95, 3) := by decide +kernel
theorem dX12_rule_17 : decode cX12_rule 17 = .ok (.ireturn, 1) := by decide +kernel
theorem dX12_rule_18 : decode cX12_rule 18 = .ok (.aload_n 0, 1) := by decide +kernel
theorem dX12_rule_19 : decode cX12_rule 19 = .ok (.getfield 7, 3) := by decide +kernel
theorem dX12_rule_22 : decode cX12_rule 22 = .ok (.iconst 1, 1) := by decide +kernel
theorem dX12_rule_23 : decode cX12_rule 23 = .ok (.iload_n 1, 1) := by decide +kernel
theorem dX12_rule_24 : decode cX12_rule 24 = .ok (.iastore, 1) := by decide +kernel
theorem dX12_rule_25 : decode cX12_rule 25 = .ok (.aload_n 0, 1) := by decide +kernel
theorem dX12_rule_26 : decode cX12_rule 26 = .ok (.iconst 0, 1) := by decide +kernel
theorem dX12_rule_27 : decode cX12_rule 27 = .ok (.invokevirtual 95, 3) := by decide +kernel
theorem dX12_rule_30 : decode cX12_rule 30 = .ok (.ireturn, 1) := by decide +kernel
noncomputable def Mo_rule (σ : St) (p1 : Int32) : Option (Int32 × St) :=
  bd (Mo_isFrom p1.toInt64 0 16) (fun r2 => if r2 = 0 then (bd2 (Mo_is σ 1) (fun r10 σ11 => chk (ckz r10) (some (r10, σ11)))) else (chk (ix 1 2060) (bnd (wI σ 93 (tn 1) p1) (fun σ4 => bd2 (Mo_is σ4 0) (fun r6 σ7 => chk (ckz r6) (some (r6, σ7)))))))
set_option maxRecDepth 100000 in
set_option maxHeartbeats 4000000 in
theorem tm_Mo_rule {V : Ev} {Γ : Cn} {fin : Option Value × St} {σ : St} {p1 : Int32} {o : (Int32 × St)} (X : Cx V Γ M_X12_rule) {A : (Int32 × St) → Prop}  (hr : ∀ (r : Int32) (σ9 : St), A (r, σ9) → (some (.int r), σ9) = fin) (h : Mo_rule σ p1 = some o) (hA : A o) : Go V Γ M_X12_rule (Zm V Γ 1 fin) 0 [(0, .ref (V.2.2.1 + 92)), (1, .int p1)] [] σ := by
  unfold Mo_rule at h
  refine g_iload_n (pc := 0) X 1 rfl dX12_rule_0 ?_
  refine g_i2l (pc := 1) X dX12_rule_1 ?_
  refine g_lconst (v := 0) (pc := 2) X rfl dX12_rule_2 ?_
  refine g_ldc2 (v := 16) (pc := 3) X k_constl_X12_327 dX12_rule_3 ?_
  obtain ⟨r2, hc1, h⟩ := bd_e h
  refine g_callS (pc := 6) X k_ml_X12_270 (run_Mo_isFrom  hc1) rfl (room_ok (Nat.le_of_ble_eq_true rfl) (Nat.le_of_ble_eq_true rfl)) ⟨Nat.le_refl _, Nat.le_refl _⟩ _ rfl (Nat.le_of_ble_eq_true rfl) dX12_rule_6 ?_
  show Go V Γ M_X12_rule (Zm V Γ 1 fin) 9 [(0, .ref (V.2.2.1 + 92)), (1, .int p1)] [.int r2] σ
  refine g_if_ne (pc := 9) (tgt := 18) X dX12_rule_9 rfl (fun c13 => ?_) (fun c13 => ?_)
  · replace h := if_f c13 h
    refine g_aload_n (pc := 18) X 0 rfl dX12_rule_18 ?_
    refine g_getR (r := 93) (pc := 19) X k_fl_X12_7 s_92 rfl dX12_rule_19 ?_
    refine g_iconst (v := 1) (pc := 22) X rfl dX12_rule_22 ?_
    refine g_iload_n (pc := 23) X 1 rfl dX12_rule_23 ?_
    obtain ⟨c3, h⟩ := chk_e h
    refine g_iast (pc := 24) X s_93 c3 dX12_rule_24 ?_
    obtain ⟨σ4, e_σ4, h⟩ := bnd_e h
    refine g_nmS e_σ4 ?_
    refine g_aload_n (pc := 25) X 0 rfl dX12_rule_25 ?_
    refine g_iconst (v := 0) (pc := 26) X rfl dX12_rule_26 ?_
    obtain ⟨r6, σ7, hc5, h⟩ := bd2_e h
    refine g_callV (pc := 27) X k_ml_X12_95 (run_Mo_is  hc5) s_92 rfl (room_ok (Nat.le_of_ble_eq_true rfl) (Nat.le_of_ble_eq_true rfl)) ⟨Nat.le_refl _, Nat.le_refl _⟩ _ rfl (Nat.le_of_ble_eq_true rfl) dX12_rule_27 ?_
    show Go V Γ M_X12_rule (Zm V Γ 1 fin) 30 [(0, .ref (V.2.2.1 + 92)), (1, .int p1)] [.int r6] σ7
    obtain ⟨c8, h⟩ := chk_e h
    cases h
    exact g_iret (pc := 30) X rfl (ckz_e c8).1 (hr _ _ hA) dX12_rule_30
  · replace h := if_t c13 h
    refine g_aload_n (pc := 12) X 0 rfl dX12_rule_12 ?_
    refine g_iconst (v := 1) (pc := 13) X rfl dX12_rule_13 ?_
    obtain ⟨r10, σ11, hc9, h⟩ := bd2_e h
    refine g_callV (pc := 14) X k_ml_X12_95 (run_Mo_is  hc9) s_92 rfl (room_ok (Nat.le_of_ble_eq_true rfl) (Nat.le_of_ble_eq_true rfl)) ⟨Nat.le_refl _, Nat.le_refl _⟩ _ rfl (Nat.le_of_ble_eq_true rfl) dX12_rule_14 ?_
    show Go V Γ M_X12_rule (Zm V Γ 1 fin) 17 [(0, .ref (V.2.2.1 + 92)), (1, .int p1)] [.int r10] σ11
    obtain ⟨c12, h⟩ := chk_e h
    cases h
    exact g_iret (pc := 17) X rfl (ckz_e c12).1 (hr _ _ hA) dX12_rule_17
set_option maxRecDepth 100000 in
theorem run_Mo_rule {V : Ev} {σ : St} {p1 : Int32} {o : (Int32 × St)}   (h : Mo_rule σ p1 = some o) : Rs V 1 M_X12_rule [.ref (V.2.2.1 + 92), .int p1] σ (some (.int o.1), o.2) := by
  refine Rs.of (by decide +kernel) (Nat.le_of_ble_eq_true rfl) (fun Γ X => ?_)
  exact tm_Mo_rule X (A := fun o1 => o1 = o)  (fun _ _ e => by rw [← e]) h rfl
theorem dX12_gapAt_0 : decode cX12_gapAt 0 = .ok (.aload_n 0, 1) := by decide +kernel
theorem dX12_gapAt_1 : decode cX12_gapAt 1 = .ok (.invokevirtual 274, 3) := by decide +kernel
theorem dX12_gapAt_4 : decode cX12_gapAt 4 = .ok (.ifCond .ne 10, 3) := by decide +kernel
theorem dX12_gapAt_7 : decode cX12_gapAt 7 = .ok (.aload_n 0, 1) := by decide +kernel
theorem dX12_gapAt_8 : decode cX12_gapAt 8 = .ok (.bipush 7, 2) := by decide +kernel
theorem dX12_gapAt_10 : decode cX12_gapAt 10 = .ok (.invokevirtual 88, 3) := by decide +kernel
theorem dX12_gapAt_13 : decode cX12_gapAt 13 = .ok (.ireturn, 1) := by decide +kernel
theorem dX12_gapAt_14 : decode cX12_gapAt 14 = .ok (.iconst 0, 1) := by decide +kernel
theorem dX12_gapAt_15 : decode cX12_gapAt 15 = .ok (.istore_n 2, 1) := by decide +kernel
theorem dX12_gapAt_16 : decode cX12_gapAt 16 = .ok (.iconst 0, 1) := by decide +kernel
theorem dX12_gapAt_17 : decode cX12_gapAt 17 = .ok (.istore_n 3, 1) := by decide +kernel
theorem dX12_gapAt_18 : decode cX12_gapAt 18 = .ok (.iload_n 3, 1) := by decide +kernel
theorem dX12_gapAt_19 : decode cX12_gapAt 19 = .ok (.aload_n 0, 1) := by decide +kernel
theorem dX12_gapAt_20 : decode cX12_gapAt 20 = .ok (.getfield 253, 3) := by decide +kernel
theorem dX12_gapAt_23 : decode cX12_gapAt 23 = .ok (.if_icmp .ge 35, 3) := by decide +kernel
theorem dX12_gapAt_26 : decode cX12_gapAt 26 = .ok (.aload_n 0, 1) := by decide +kernel
theorem dX12_gapAt_27 : decode cX12_gapAt 27 = .ok (.getfield 47, 3) := by decide +kernel
theorem dX12_gapAt_30 : decode cX12_gapAt 30 = .ok (.iload_n 3, 1) := by decide +kernel
theorem dX12_gapAt_31 : decode cX12_gapAt 31 = .ok (.iaload, 1) := by decide +kernel
theorem dX12_gapAt_32 : decode cX12_gapAt 32 = .ok (.ifCond .eq 6, 3) := by decide +kernel
theorem dX12_gapAt_35 : decode cX12_gapAt 35 = .ok (.goto 17, 3) := by decide +kernel
theorem dX12_gapAt_38 : decode cX12_gapAt 38 = .ok (.iload_n 2, 1) := by decide +kernel
theorem dX12_gapAt_39 : decode cX12_gapAt 39 = .ok (.iload_n 1, 1) := by decide +kernel
theorem dX12_gapAt_40 : decode cX12_gapAt 40 = .ok (.if_icmp .ne 9, 3) := by decide +kernel
theorem dX12_gapAt_43 : decode cX12_gapAt 43 = .ok (.aload_n 0, 1) := by decide +kernel
theorem dX12_gapAt_44 : decode cX12_gapAt 44 = .ok (.iload_n 3, 1) := by decide +kernel
theorem dX12_gapAt_45 : decode cX12_gapAt 45 = .ok (.invokevirtual 92, 3) := by decide +kernel
theorem dX12_gapAt_48 : decode cX12_gapAt 48 = .ok (.ireturn, 1) := by decide +kernel
theorem dX12_gapAt_49 : decode cX12_gapAt 49 = .ok (.iinc 2 1, 3) := by decide +kernel
theorem dX12_gapAt_52 : decode cX12_gapAt 52 = .ok (.iinc 3 1, 3) := by decide +kernel
theorem dX12_gapAt_55 : decode cX12_gapAt 55 = .ok (.goto (-37), 3) := by decide +kernel
theorem dX12_gapAt_58 : decode cX12_gapAt 58 = .ok (.aload_n 0, 1) := by decide +kernel
theorem dX12_gapAt_59 : decode cX12_gapAt 59 = .ok (.bipush 6, 2) := by decide +kernel
theorem dX12_gapAt_61 : decode cX12_gapAt 61 = .ok (.invokevirtual 88, 3) := by decide +kernel
theorem dX12_gapAt_64 : decode cX12_gapAt 64 = .ok (.ireturn, 1) := by decide +kernel
noncomputable def Mo_gapAt_L18 (l1 : Int32) (σ : St) (x2 : Int32) (x3 : Int32) : Option ((Int32 × Int32) ⊕ (Int32 × St)) :=
  if (σ.1 92 23) ≤ x3 then (bd2 (Mo_refuse σ 6) (fun r5 σ6 => some (.inr (r5, σ6)))) else (chk (ix x3 5040) (if (σ.1 101 (tn x3)) = 0 then (if x2 = l1 then (bd2 (Mo_gives σ x3) (fun r11 σ12 => some (.inr (r11, σ12)))) else (bnd (x2 + 1) (fun v8 => bnd (x3 + 1) (fun v9 => some (.inl (v8, v9)))))) else (bnd (x3 + 1) (fun v14 => some (.inl (x2, v14))))))
set_option maxRecDepth 100000 in
set_option maxHeartbeats 4000000 in
theorem tb_Mo_gapAt_L18 {V : Ev} {Γ : Cn} {fin : Option Value × St} {l1 : Int32} {σ : St} {x2 : Int32} {x3 : Int32} {o : ((Int32 × Int32) ⊕ (Int32 × St))} (X : Cx V Γ M_X12_gapAt) {A : ((Int32 × Int32) ⊕ (Int32 × St)) → Prop}  (hr : ∀ (r : Int32) (σ9 : St), A (.inr (r, σ9)) → (some (.int r), σ9) = fin) (hb18 : ∀ (x2 : Int32) (x3 : Int32), A (.inl (x2, x3)) → Go V Γ M_X12_gapAt (Zm V Γ 5 fin) 18 [(0, .ref (V.2.2.1 + 92)), (1, .int l1), (2, .int x2), (3, .int x3)] [] σ) (h : Mo_gapAt_L18 l1 σ x2 x3 = some o) (hA : A o) : Go V Γ M_X12_gapAt (Zm V Γ 5 fin) 18 [(0, .ref (V.2.2.1 + 92)), (1, .int l1), (2, .int x2), (3, .int x3)] [] σ := by
  unfold Mo_gapAt_L18 at h
  refine g_iload_n (pc := 18) X 3 rfl dX12_gapAt_18 ?_
  refine g_aload_n (pc := 19) X 0 rfl dX12_gapAt_19 ?_
  refine g_getI (pc := 20) X k_fl_X12_253 s_92 rfl dX12_gapAt_20 ?_
  refine g_icmp_ge (pc := 23) (tgt := 58) X dX12_gapAt_23 rfl (fun c16 => ?_) (fun c16 => ?_)
  · replace h := if_t c16 h
    refine g_aload_n (pc := 58) X 0 rfl dX12_gapAt_58 ?_
    refine g_bipush (v := 6) (pc := 59) X (by decide) dX12_gapAt_59 ?_
    obtain ⟨r5, σ6, hc4, h⟩ := bd2_e h
    refine g_callV (pc := 61) X k_ml_X12_88 (run_Mo_refuse  hc4) s_92 rfl (room_ok (Nat.le_of_ble_eq_true rfl) (Nat.le_of_ble_eq_true rfl)) ⟨Nat.le_refl _, Nat.le_refl _⟩ _ rfl (Nat.le_of_ble_eq_true rfl) dX12_gapAt_61 ?_
    show Go V Γ M_X12_gapAt (Zm V Γ 5 fin) 64 [(0, .ref (V.2.2.1 + 92)), (1, .int l1), (2, .int x2), (3, .int x3)] [.int r5] σ6
    cases h
    exact g_iret (pc := 64) X rfl rfl (hr _ _ hA) dX12_gapAt_64
  · replace h := if_f c16 h
    refine g_aload_n (pc := 26) X 0 rfl dX12_gapAt_26 ?_
    refine g_getR (r := 101) (pc := 27) X k_fl_X12_47 s_92 rfl dX12_gapAt_27 ?_
    refine g_iload_n (pc := 30) X 3 rfl dX12_gapAt_30 ?_
    obtain ⟨c7, h⟩ := chk_e h
    refine g_iald (pc := 31) X s_101 c7 dX12_gapAt_31 ?_
    refine g_if_eq (pc := 32) (tgt := 38) X dX12_gapAt_32 rfl (fun c15 => ?_) (fun c15 => ?_)
    · replace h := if_t c15 h
      refine g_iload_n (pc := 38) X 2 rfl dX12_gapAt_38 ?_
      refine g_iload_n (pc := 39) X 1 rfl dX12_gapAt_39 ?_
      refine g_icmp_ne (pc := 40) (tgt := 49) X dX12_gapAt_40 rfl (fun c13 => ?_) (fun c13 => ?_)
      · replace h := if_f c13 h
        obtain ⟨v8, e_v8, h⟩ := bnd_e h
        refine g_iinc (pc := 49) (v := v8) X [(2, .int v8), (0, .ref (V.2.2.1 + 92)), (1, .int l1), (3, .int x3)] 2 rfl (by rw [e_v8]; rfl) (Nat.le_of_ble_eq_true rfl) rfl dX12_gapAt_49 ?_
        obtain ⟨v9, e_v9, h⟩ := bnd_e h
        refine g_iinc (pc := 52) (v := v9) X [(3, .int v9), (2, .int v8), (0, .ref (V.2.2.1 + 92)), (1, .int l1)] 3 rfl (by rw [e_v9]; rfl) (Nat.le_of_ble_eq_true rfl) rfl dX12_gapAt_52 ?_
        refine g_goto (pc := 55) (tgt := 18) X dX12_gapAt_55 rfl ?_
        refine g_sub [2, 3, 1, 0] rfl ?_
        cases h
        exact hb18 _ _ hA
      · replace h := if_t c13 h
        refine g_aload_n (pc := 43) X 0 rfl dX12_gapAt_43 ?_
        refine g_iload_n (pc := 44) X 3 rfl dX12_gapAt_44 ?_
        obtain ⟨r11, σ12, hc10, h⟩ := bd2_e h
        refine g_callV (pc := 45) X k_ml_X12_92 (run_Mo_gives  hc10) s_92 rfl (room_ok (Nat.le_of_ble_eq_true rfl) (Nat.le_of_ble_eq_true rfl)) ⟨Nat.le_refl _, Nat.le_refl _⟩ _ rfl (Nat.le_of_ble_eq_true rfl) dX12_gapAt_45 ?_
        show Go V Γ M_X12_gapAt (Zm V Γ 5 fin) 48 [(0, .ref (V.2.2.1 + 92)), (1, .int l1), (2, .int x2), (3, .int x3)] [.int r11] σ12
        cases h
        exact g_iret (pc := 48) X rfl rfl (hr _ _ hA) dX12_gapAt_48
    · replace h := if_f c15 h
      refine g_goto (pc := 35) (tgt := 52) X dX12_gapAt_35 rfl ?_
      obtain ⟨v14, e_v14, h⟩ := bnd_e h
      refine g_iinc (pc := 52) (v := v14) X [(3, .int v14), (0, .ref (V.2.2.1 + 92)), (1, .int l1), (2, .int x2)] 3 rfl (by rw [e_v14]; rfl) (Nat.le_of_ble_eq_true rfl) rfl dX12_gapAt_52 ?_
      refine g_goto (pc := 55) (tgt := 18) X dX12_gapAt_55 rfl ?_
      refine g_sub [1, 2, 3, 0] rfl ?_
      cases h
      exact hb18 _ _ hA
set_option maxRecDepth 100000 in
theorem tl_Mo_gapAt_L18 {V : Ev} {Γ : Cn} {fin : Option Value × St} {l1 : Int32} {σ : St} {x2 : Int32} {x3 : Int32} (X : Cx V Γ M_X12_gapAt)  {e : (Int32 × St)} {A : (Int32 × St) → Prop} (hr : ∀ (r : Int32) (σ9 : St), A (r, σ9) → (some (.int r), σ9) = fin) {n : Nat} (h : iter (fun s : (Int32 × Int32) => Mo_gapAt_L18 l1 σ s.1 s.2) n (x2, x3) = some e) (hA : A e) : Go V Γ M_X12_gapAt (Zm V Γ 5 fin) 18 [(0, .ref (V.2.2.1 + 92)), (1, .int l1), (2, .int x2), (3, .int x3)] [] σ := by
  refine iter_go (G := (fun s : (Int32 × Int32) => Go V Γ M_X12_gapAt (Zm V Γ 5 fin) 18 [(0, .ref (V.2.2.1 + 92)), (1, .int l1), (2, .int s.1), (3, .int s.2)] [] σ)) (fun s o ho hS => ?_) n (x2, x3) h
  exact tb_Mo_gapAt_L18 X  (fun z0 z1 he => hr z0 z1 (by rw [he]; exact hA)) (fun _ _ h9 => h9) ho hS
noncomputable def Mo_gapAt (σ : St) (p1 : Int32) : Option (Int32 × St) :=
  bd2 (Mo_laysNow σ) (fun r2 σ3 => if r2 = 0 then (bd2 (Mo_refuse σ3 7) (fun r18 σ19 => some (r18, σ19))) else (iter (fun s : (Int32 × Int32) => Mo_gapAt_L18 p1 σ3 s.1 s.2) FUEL (0, 0)))
set_option maxRecDepth 100000 in
set_option maxHeartbeats 4000000 in
theorem tm_Mo_gapAt {V : Ev} {Γ : Cn} {fin : Option Value × St} {σ : St} {p1 : Int32} {o : (Int32 × St)} (X : Cx V Γ M_X12_gapAt) {A : (Int32 × St) → Prop}  (hr : ∀ (r : Int32) (σ9 : St), A (r, σ9) → (some (.int r), σ9) = fin) (h : Mo_gapAt σ p1 = some o) (hA : A o) : Go V Γ M_X12_gapAt (Zm V Γ 5 fin) 0 [(0, .ref (V.2.2.1 + 92)), (1, .int p1)] [] σ := by
  unfold Mo_gapAt at h
  refine g_aload_n (pc := 0) X 0 rfl dX12_gapAt_0 ?_
  obtain ⟨r2, σ3, hc1, h⟩ := bd2_e h
  refine g_callV (pc := 1) X k_ml_X12_274 (run_Mo_laysNow  hc1) s_92 rfl (room_ok (Nat.le_of_ble_eq_true rfl) (Nat.le_of_ble_eq_true rfl)) ⟨Nat.le_refl _, Nat.le_refl _⟩ _ rfl (Nat.le_of_ble_eq_true rfl) dX12_gapAt_1 ?_
  show Go V Γ M_X12_gapAt (Zm V Γ 5 fin) 4 [(0, .ref (V.2.2.1 + 92)), (1, .int p1)] [.int r2] σ3
  refine g_if_ne (pc := 4) (tgt := 14) X dX12_gapAt_4 rfl (fun c20 => ?_) (fun c20 => ?_)
  · replace h := if_f c20 h
    refine g_iconst (v := 0) (pc := 14) X rfl dX12_gapAt_14 ?_
    refine g_istore_n (pc := 15) X [(2, .int 0), (0, .ref (V.2.2.1 + 92)), (1, .int p1)] rfl (Nat.le_of_ble_eq_true rfl) rfl dX12_gapAt_15 ?_
    refine g_iconst (v := 0) (pc := 16) X rfl dX12_gapAt_16 ?_
    refine g_istore_n (pc := 17) X [(3, .int 0), (2, .int 0), (0, .ref (V.2.2.1 + 92)), (1, .int p1)] rfl (Nat.le_of_ble_eq_true rfl) rfl dX12_gapAt_17 ?_
    refine g_sub [2, 3, 1, 0] rfl ?_
    exact tl_Mo_gapAt_L18 X  hr h hA
  · replace h := if_t c20 h
    refine g_aload_n (pc := 7) X 0 rfl dX12_gapAt_7 ?_
    refine g_bipush (v := 7) (pc := 8) X (by decide) dX12_gapAt_8 ?_
    obtain ⟨r18, σ19, hc17, h⟩ := bd2_e h
    refine g_callV (pc := 10) X k_ml_X12_88 (run_Mo_refuse  hc17) s_92 rfl (room_ok (Nat.le_of_ble_eq_true rfl) (Nat.le_of_ble_eq_true rfl)) ⟨Nat.le_refl _, Nat.le_refl _⟩ _ rfl (Nat.le_of_ble_eq_true rfl) dX12_gapAt_10 ?_
    show Go V Γ M_X12_gapAt (Zm V Γ 5 fin) 13 [(0, .ref (V.2.2.1 + 92)), (1, .int p1)] [.int r18] σ19
    cases h
    exact g_iret (pc := 13) X rfl rfl (hr _ _ hA) dX12_gapAt_13
set_option maxRecDepth 100000 in
theorem run_Mo_gapAt {V : Ev} {σ : St} {p1 : Int32} {o : (Int32 × St)}   (h : Mo_gapAt σ p1 = some o) : Rs V 5 M_X12_gapAt [.ref (V.2.2.1 + 92), .int p1] σ (some (.int o.1), o.2) := by
  refine Rs.of (by decide +kernel) (Nat.le_of_ble_eq_true rfl) (fun Γ X => ?_)
  exact tm_Mo_gapAt X (A := fun o1 => o1 = o)  (fun _ _ e => by rw [← e]) h rfl
theorem dX12_gaps_0 : decode cX12_gaps 0 = .ok (.aload_n 0, 1) := by decide +kernel
theorem dX12_gaps_1 : decode cX12_gaps 1 = .ok (.invokevirtual 274, 3) := by decide +kernel
theorem dX12_gaps_4 : decode cX12_gaps 4 = .ok (.ifCond .eq 21, 3) := by decide +kernel
theorem dX12_gaps_7 : decode cX12_gaps 7 = .ok (.aload_n 0, 1) := by decide +kernel
theorem dX12_gaps_8 : decode cX12_gaps 8 = .ok (.aload_n 0, 1) := by decide +kernel
theorem dX12_gaps_9 : decode cX12_gaps 9 = .ok (.iconst 0, 1) := by decide +kernel
theorem dX12_gaps_10 : decode cX12_gaps 10 = .ok (.invokevirtual 277, 3) := by decide +kernel
theorem dX12_gaps_13 : decode cX12_gaps 13 = .ok (.i2l, 1) := by decide +kernel
theorem dX12_gaps_14 : decode cX12_gaps 14 = .ok (.aload_n 0, 1) := by decide +kernel
theorem dX12_gaps_15 : decode cX12_gaps 15 = .ok (.getfield 253, 3) := by decide +kernel
theorem dX12_gaps_18 : decode cX12_gaps 18 = .ok (.i2l, 1) := by decide +kernel
theorem dX12_gaps_19 : decode cX12_gaps 19 = .ok (.invokevirtual 329, 3) := by decide +kernel
theorem dX12_gaps_22 : decode cX12_gaps 22 = .ok (.goto 9, 3) := by decide +kernel
theorem dX12_gaps_25 : decode cX12_gaps 25 = .ok (.aload_n 0, 1) := by decide +kernel
theorem dX12_gaps_26 : decode cX12_gaps 26 = .ok (.bipush 7, 2) := by decide +kernel
theorem dX12_gaps_28 : decode cX12_gaps 28 = .ok (.invokevirtual 95, 3) := by decide +kernel
theorem dX12_gaps_31 : decode cX12_gaps 31 = .ok (.ireturn, 1) := by decide +kernel
noncomputable def Mo_gaps (σ : St) : Option (Int32 × St) :=
  bd2 (Mo_laysNow σ) (fun r2 σ3 => if r2 = 0 then (bd2 (Mo_is σ3 7) (fun r5 σ6 => chk (ckz r5) (some (r5, σ6)))) else (bd (Mo_justBy σ3 0) (fun r9 => bd2 (Mo_tellsBy σ3 r9.toInt64 ((σ3.1 92 23).toInt64)) (fun r11 σ12 => chk (ckz r11) (some (r11, σ12))))))
set_option maxRecDepth 100000 in
set_option maxHeartbeats 4000000 in
theorem tm_Mo_gaps {V : Ev} {Γ : Cn} {fin : Option Value × St} {σ : St} {o : (Int32 × St)} (X : Cx V Γ M_X12_gaps) {A : (Int32 × St) → Prop}  (hr : ∀ (r : Int32) (σ9 : St), A (r, σ9) → (some (.int r), σ9) = fin) (h : Mo_gaps σ = some o) (hA : A o) : Go V Γ M_X12_gaps (Zm V Γ 5 fin) 0 [(0, .ref (V.2.2.1 + 92))] [] σ := by
  unfold Mo_gaps at h
  refine g_aload_n (pc := 0) X 0 rfl dX12_gaps_0 ?_
  obtain ⟨r2, σ3, hc1, h⟩ := bd2_e h
  refine g_callV (pc := 1) X k_ml_X12_274 (run_Mo_laysNow  hc1) s_92 rfl (room_ok (Nat.le_of_ble_eq_true rfl) (Nat.le_of_ble_eq_true rfl)) ⟨Nat.le_refl _, Nat.le_refl _⟩ _ rfl (Nat.le_of_ble_eq_true rfl) dX12_gaps_1 ?_
  show Go V Γ M_X12_gaps (Zm V Γ 5 fin) 4 [(0, .ref (V.2.2.1 + 92))] [.int r2] σ3
  refine g_if_eq (pc := 4) (tgt := 25) X dX12_gaps_4 rfl (fun c14 => ?_) (fun c14 => ?_)
  · replace h := if_t c14 h
    refine g_aload_n (pc := 25) X 0 rfl dX12_gaps_25 ?_
    refine g_bipush (v := 7) (pc := 26) X (by decide) dX12_gaps_26 ?_
    obtain ⟨r5, σ6, hc4, h⟩ := bd2_e h
    refine g_callV (pc := 28) X k_ml_X12_95 (run_Mo_is  hc4) s_92 rfl (room_ok (Nat.le_of_ble_eq_true rfl) (Nat.le_of_ble_eq_true rfl)) ⟨Nat.le_refl _, Nat.le_refl _⟩ _ rfl (Nat.le_of_ble_eq_true rfl) dX12_gaps_28 ?_
    show Go V Γ M_X12_gaps (Zm V Γ 5 fin) 31 [(0, .ref (V.2.2.1 + 92))] [.int r5] σ6
    obtain ⟨c7, h⟩ := chk_e h
    cases h
    exact g_iret (pc := 31) X rfl (ckz_e c7).1 (hr _ _ hA) dX12_gaps_31
  · replace h := if_f c14 h
    refine g_aload_n (pc := 7) X 0 rfl dX12_gaps_7 ?_
    refine g_aload_n (pc := 8) X 0 rfl dX12_gaps_8 ?_
    refine g_iconst (v := 0) (pc := 9) X rfl dX12_gaps_9 ?_
    obtain ⟨r9, hc8, h⟩ := bd_e h
    refine g_callV (pc := 10) X k_ml_X12_277 (run_Mo_justBy  hc8) s_92 rfl (room_ok (Nat.le_of_ble_eq_true rfl) (Nat.le_of_ble_eq_true rfl)) ⟨Nat.le_refl _, Nat.le_refl _⟩ _ rfl (Nat.le_of_ble_eq_true rfl) dX12_gaps_10 ?_
    show Go V Γ M_X12_gaps (Zm V Γ 5 fin) 13 [(0, .ref (V.2.2.1 + 92))] [.int r9, .ref (V.2.2.1 + 92)] σ3
    refine g_i2l (pc := 13) X dX12_gaps_13 ?_
    refine g_aload_n (pc := 14) X 0 rfl dX12_gaps_14 ?_
    refine g_getI (pc := 15) X k_fl_X12_253 s_92 rfl dX12_gaps_15 ?_
    refine g_i2l (pc := 18) X dX12_gaps_18 ?_
    obtain ⟨r11, σ12, hc10, h⟩ := bd2_e h
    refine g_callV (pc := 19) X k_ml_X12_329 (run_Mo_tellsBy  hc10) s_92 rfl (room_ok (Nat.le_of_ble_eq_true rfl) (Nat.le_of_ble_eq_true rfl)) ⟨Nat.le_refl _, Nat.le_refl _⟩ _ rfl (Nat.le_of_ble_eq_true rfl) dX12_gaps_19 ?_
    show Go V Γ M_X12_gaps (Zm V Γ 5 fin) 22 [(0, .ref (V.2.2.1 + 92))] [.int r11] σ12
    refine g_goto (pc := 22) (tgt := 31) X dX12_gaps_22 rfl ?_
    obtain ⟨c13, h⟩ := chk_e h
    cases h
    exact g_iret (pc := 31) X rfl (ckz_e c13).1 (hr _ _ hA) dX12_gaps_31
set_option maxRecDepth 100000 in
theorem run_Mo_gaps {V : Ev} {σ : St} {o : (Int32 × St)}   (h : Mo_gaps σ = some o) : Rs V 5 M_X12_gaps [.ref (V.2.2.1 + 92)] σ (some (.int o.1), o.2) := by
  refine Rs.of (by decide +kernel) (Nat.le_of_ble_eq_true rfl) (fun Γ X => ?_)
  exact tm_Mo_gaps X (A := fun o1 => o1 = o)  (fun _ _ e => by rw [← e]) h rfl
theorem dX12_weight_0 : decode cX12_weight 0 = .ok (.aload_n 0, 1) := by decide +kernel
theorem dX12_weight_1 : decode cX12_weight 1 = .ok (.invokevirtual 274, 3) := by decide +kernel
theorem dX12_weight_4 : decode cX12_weight 4 = .ok (.ifCond .ne 10, 3) := by decide +kernel
theorem dX12_weight_7 : decode cX12_weight 7 = .ok (.aload_n 0, 1) := by decide +kernel
theorem dX12_weight_8 : decode cX12_weight 8 = .ok (.bipush 7, 2) := by decide +kernel
theorem dX12_weight_10 : decode cX12_weight 10 = .ok (.invokevirtual 95, 3) := by decide +kernel
theorem dX12_weight_13 : decode cX12_weight 13 = .ok (.ireturn, 1) := by decide +kernel
theorem dX12_weight_14 : decode cX12_weight 14 = .ok (.iconst 0, 1) := by decide +kernel
theorem dX12_weight_15 : decode cX12_weight 15 = .ok (.istore_n 1, 1) := by decide +kernel
theorem dX12_weight_16 : decode cX12_weight 16 = .ok (.iconst 0, 1) := by decide +kernel
theorem dX12_weight_17 : decode cX12_weight 17 = .ok (.istore_n 2, 1) := by decide +kernel
theorem dX12_weight_18 : decode cX12_weight 18 = .ok (.iload_n 2, 1) := by decide +kernel
theorem dX12_weight_19 : decode cX12_weight 19 = .ok (.aload_n 0, 1) := by decide +kernel
theorem dX12_weight_20 : decode cX12_weight 20 = .ok (.getfield 7, 3) := by decide +kernel
theorem dX12_weight_23 : decode cX12_weight 23 = .ok (.iconst 0, 1) := by decide +kernel
theorem dX12_weight_24 : decode cX12_weight 24 = .ok (.iaload, 1) := by decide +kernel
theorem dX12_weight_25 : decode cX12_weight 25 = .ok (.if_icmp .ge 34, 3) := by decide +kernel
theorem dX12_weight_28 : decode cX12_weight 28 = .ok (.iload_n 1, 1) := by decide +kernel
theorem dX12_weight_29 : decode cX12_weight 29 = .ok (.aload_n 0, 1) := by decide +kernel
theorem dX12_weight_30 : decode cX12_weight 30 = .ok (.iload_n 2, 1) := by decide +kernel
theorem dX12_weight_31 : decode cX12_weight 31 = .ok (.invokevirtual 238, 3) := by decide +kernel
theorem dX12_weight_34 : decode cX12_weight 34 = .ok (.ifCond .eq 16, 3) := by decide +kernel
theorem dX12_weight_37 : decode cX12_weight 37 = .ok (.aload_n 0, 1) := by decide +kernel
theorem dX12_weight_38 : decode cX12_weight 38 = .ok (.getfield 253, 3) := by decide +kernel
theorem dX12_weight_41 : decode cX12_weight 41 = .ok (.aload_n 0, 1) := by decide +kernel
theorem dX12_weight_42 : decode cX12_weight 42 = .ok (.iload_n 2, 1) := by decide +kernel
theorem dX12_weight_43 : decode cX12_weight 43 = .ok (.invokevirtual 244, 3) := by decide +kernel
theorem dX12_weight_46 : decode cX12_weight 46 = .ok (.idiv, 1) := by decide +kernel
theorem dX12_weight_47 : decode cX12_weight 47 = .ok (.goto 4, 3) := by decide +kernel
theorem dX12_weight_50 : decode cX12_weight 50 = .ok (.iconst 0, 1) := by decide +kernel
theorem dX12_weight_51 : decode cX12_weight 51 = .ok (.iadd, 1) := by decide +kernel
theorem dX12_weight_52 : decode cX12_weight 52 = .ok (.istore_n 1, 1) := by decide +kernel
theorem dX12_weight_53 : decode cX12_weight 53 = .ok (.iinc 2 1, 3) := by decide +kernel
theorem dX12_weight_56 : decode cX12_weight 56 = .ok (.goto (-38), 3) := by decide +kernel
theorem dX12_weight_59 : decode cX12_weight 59 = .ok (.aload_n 0, 1) := by decide +kernel
theorem dX12_weight_60 : decode cX12_weight 60 = .ok (.iload_n 1, 1) := by decide +kernel
theorem dX12_weight_61 : decode cX12_weight 61 = .ok (.i2l, 1) := by decide +kernel
theorem dX12_weight_62 : decode cX12_weight 62 = .ok (.aload_n 0, 1) := by decide +kernel
theorem dX12_weight_63 : decode cX12_weight 63 = .ok (.getfield 253, 3) := by decide +kernel
theorem dX12_weight_66 : decode cX12_weight 66 = .ok (.i2l, 1) := by decide +kernel
theorem dX12_weight_67 : decode cX12_weight 67 = .ok (.invokevirtual 329, 3) := by decide +kernel
theorem dX12_weight_70 : decode cX12_weight 70 = .ok (.ireturn, 1) := by decide +kernel
noncomputable def Mo_weight_L18 (σ : St) (x1 : Int32) (x2 : Int32) : Option ((Int32 × Int32) ⊕ Int32) :=
  chk (ix 0 2060) (if (σ.1 93 (tn 0)) ≤ x2 then (some (.inr x1)) else (bd (Mo_isOn σ x2) (fun r6 => if r6 = 0 then (bnd ((x1 + 0)) (fun v7 => bnd (x2 + 1) (fun v8 => some (.inl (v7, v8))))) else (bd (Mo_modulusOf σ x2) (fun r10 => chk (nzI r10) (bnd ((x1 + ((σ.1 92 23) / r10))) (fun v12 => bnd (x2 + 1) (fun v13 => some (.inl (v12, v13))))))))))
set_option maxRecDepth 100000 in
set_option maxHeartbeats 4000000 in
theorem tb_Mo_weight_L18 {V : Ev} {Γ : Cn} {fin : Option Value × St} {σ : St} {x1 : Int32} {x2 : Int32} {o : ((Int32 × Int32) ⊕ Int32)} (X : Cx V Γ M_X12_weight) {A : ((Int32 × Int32) ⊕ Int32) → Prop}  (hb18 : ∀ (x1 : Int32) (x2 : Int32), A (.inl (x1, x2)) → Go V Γ M_X12_weight (Zm V Γ 5 fin) 18 [(0, .ref (V.2.2.1 + 92)), (1, .int x1), (2, .int x2)] [] σ) (hx18 : ∀ (x1 : Int32), A (.inr x1) → Go V Γ M_X12_weight (Zm V Γ 5 fin) 59 [(0, .ref (V.2.2.1 + 92)), (1, .int x1)] [] σ) (h : Mo_weight_L18 σ x1 x2 = some o) (hA : A o) : Go V Γ M_X12_weight (Zm V Γ 5 fin) 18 [(0, .ref (V.2.2.1 + 92)), (1, .int x1), (2, .int x2)] [] σ := by
  unfold Mo_weight_L18 at h
  refine g_iload_n (pc := 18) X 2 rfl dX12_weight_18 ?_
  refine g_aload_n (pc := 19) X 0 rfl dX12_weight_19 ?_
  refine g_getR (r := 93) (pc := 20) X k_fl_X12_7 s_92 rfl dX12_weight_20 ?_
  refine g_iconst (v := 0) (pc := 23) X rfl dX12_weight_23 ?_
  obtain ⟨c4, h⟩ := chk_e h
  refine g_iald (pc := 24) X s_93 c4 dX12_weight_24 ?_
  refine g_icmp_ge (pc := 25) (tgt := 59) X dX12_weight_25 rfl (fun c15 => ?_) (fun c15 => ?_)
  · replace h := if_t c15 h
    refine g_sub [0, 1] rfl ?_
    cases h
    exact hx18 _ hA
  · replace h := if_f c15 h
    refine g_iload_n (pc := 28) X 1 rfl dX12_weight_28 ?_
    refine g_aload_n (pc := 29) X 0 rfl dX12_weight_29 ?_
    refine g_iload_n (pc := 30) X 2 rfl dX12_weight_30 ?_
    obtain ⟨r6, hc5, h⟩ := bd_e h
    refine g_callV (pc := 31) X k_ml_X12_238 (run_Mo_isOn  hc5) s_92 rfl (room_ok (Nat.le_of_ble_eq_true rfl) (Nat.le_of_ble_eq_true rfl)) ⟨Nat.le_refl _, Nat.le_refl _⟩ _ rfl (Nat.le_of_ble_eq_true rfl) dX12_weight_31 ?_
    show Go V Γ M_X12_weight (Zm V Γ 5 fin) 34 [(0, .ref (V.2.2.1 + 92)), (1, .int x1), (2, .int x2)] [.int r6, .int x1] σ
    refine g_if_eq (pc := 34) (tgt := 50) X dX12_weight_34 rfl (fun c14 => ?_) (fun c14 => ?_)
    · replace h := if_t c14 h
      refine g_iconst (v := 0) (pc := 50) X rfl dX12_weight_50 ?_
      refine g_iadd (pc := 51) X dX12_weight_51 ?_
      obtain ⟨v7, e_v7, h⟩ := bnd_e h
      refine g_nmI e_v7 ?_
      refine g_istore_n (pc := 52) X [(1, .int v7), (0, .ref (V.2.2.1 + 92)), (2, .int x2)] rfl (Nat.le_of_ble_eq_true rfl) rfl dX12_weight_52 ?_
      obtain ⟨v8, e_v8, h⟩ := bnd_e h
      refine g_iinc (pc := 53) (v := v8) X [(2, .int v8), (1, .int v7), (0, .ref (V.2.2.1 + 92))] 2 rfl (by rw [e_v8]; rfl) (Nat.le_of_ble_eq_true rfl) rfl dX12_weight_53 ?_
      refine g_goto (pc := 56) (tgt := 18) X dX12_weight_56 rfl ?_
      refine g_sub [2, 1, 0] rfl ?_
      cases h
      exact hb18 _ _ hA
    · replace h := if_f c14 h
      refine g_aload_n (pc := 37) X 0 rfl dX12_weight_37 ?_
      refine g_getI (pc := 38) X k_fl_X12_253 s_92 rfl dX12_weight_38 ?_
      refine g_aload_n (pc := 41) X 0 rfl dX12_weight_41 ?_
      refine g_iload_n (pc := 42) X 2 rfl dX12_weight_42 ?_
      obtain ⟨r10, hc9, h⟩ := bd_e h
      refine g_callV (pc := 43) X k_ml_X12_244 (run_Mo_modulusOf  hc9) s_92 rfl (room_ok (Nat.le_of_ble_eq_true rfl) (Nat.le_of_ble_eq_true rfl)) ⟨Nat.le_refl _, Nat.le_refl _⟩ _ rfl (Nat.le_of_ble_eq_true rfl) dX12_weight_43 ?_
      show Go V Γ M_X12_weight (Zm V Γ 5 fin) 46 [(0, .ref (V.2.2.1 + 92)), (1, .int x1), (2, .int x2)] [.int r10, .int (σ.1 92 23), .int x1] σ
      obtain ⟨c11, h⟩ := chk_e h
      refine g_idiv (pc := 46) X (nzI_e c11) dX12_weight_46 ?_
      refine g_goto (pc := 47) (tgt := 51) X dX12_weight_47 rfl ?_
      refine g_iadd (pc := 51) X dX12_weight_51 ?_
      obtain ⟨v12, e_v12, h⟩ := bnd_e h
      refine g_nmI e_v12 ?_
      refine g_istore_n (pc := 52) X [(1, .int v12), (0, .ref (V.2.2.1 + 92)), (2, .int x2)] rfl (Nat.le_of_ble_eq_true rfl) rfl dX12_weight_52 ?_
      obtain ⟨v13, e_v13, h⟩ := bnd_e h
      refine g_iinc (pc := 53) (v := v13) X [(2, .int v13), (1, .int v12), (0, .ref (V.2.2.1 + 92))] 2 rfl (by rw [e_v13]; rfl) (Nat.le_of_ble_eq_true rfl) rfl dX12_weight_53 ?_
      refine g_goto (pc := 56) (tgt := 18) X dX12_weight_56 rfl ?_
      refine g_sub [2, 1, 0] rfl ?_
      cases h
      exact hb18 _ _ hA
set_option maxRecDepth 100000 in
theorem tl_Mo_weight_L18 {V : Ev} {Γ : Cn} {fin : Option Value × St} {σ : St} {x1 : Int32} {x2 : Int32} (X : Cx V Γ M_X12_weight)  {y1 : Int32} {n : Nat} (h : iter (fun s : (Int32 × Int32) => Mo_weight_L18 σ s.1 s.2) n (x1, x2) = some y1) (hK : Go V Γ M_X12_weight (Zm V Γ 5 fin) 59 [(0, .ref (V.2.2.1 + 92)), (1, .int y1)] [] σ) : Go V Γ M_X12_weight (Zm V Γ 5 fin) 18 [(0, .ref (V.2.2.1 + 92)), (1, .int x1), (2, .int x2)] [] σ := by
  refine iter_go (G := (fun s : (Int32 × Int32) => Go V Γ M_X12_weight (Zm V Γ 5 fin) 18 [(0, .ref (V.2.2.1 + 92)), (1, .int s.1), (2, .int s.2)] [] σ)) (fun s o ho hS => ?_) n (x1, x2) h
  exact tb_Mo_weight_L18 X  (fun _ _ h9 => h9) (fun _ he => by cases he; exact hK) ho hS
noncomputable def Mo_weight (σ : St) : Option (Int32 × St) :=
  bd2 (Mo_laysNow σ) (fun r2 σ3 => if r2 = 0 then (bd2 (Mo_is σ3 7) (fun r23 σ24 => chk (ckz r23) (some (r23, σ24)))) else (bd (iter (fun s : (Int32 × Int32) => Mo_weight_L18 σ3 s.1 s.2) FUEL (0, 0)) (fun v16 => bd2 (Mo_tellsBy σ3 v16.toInt64 ((σ3.1 92 23).toInt64)) (fun r19 σ20 => chk (ckz r19) (some (r19, σ20))))))
set_option maxRecDepth 100000 in
set_option maxHeartbeats 4000000 in
theorem tm_Mo_weight {V : Ev} {Γ : Cn} {fin : Option Value × St} {σ : St} {o : (Int32 × St)} (X : Cx V Γ M_X12_weight) {A : (Int32 × St) → Prop}  (hr : ∀ (r : Int32) (σ9 : St), A (r, σ9) → (some (.int r), σ9) = fin) (h : Mo_weight σ = some o) (hA : A o) : Go V Γ M_X12_weight (Zm V Γ 5 fin) 0 [(0, .ref (V.2.2.1 + 92))] [] σ := by
  unfold Mo_weight at h
  refine g_aload_n (pc := 0) X 0 rfl dX12_weight_0 ?_
  obtain ⟨r2, σ3, hc1, h⟩ := bd2_e h
  refine g_callV (pc := 1) X k_ml_X12_274 (run_Mo_laysNow  hc1) s_92 rfl (room_ok (Nat.le_of_ble_eq_true rfl) (Nat.le_of_ble_eq_true rfl)) ⟨Nat.le_refl _, Nat.le_refl _⟩ _ rfl (Nat.le_of_ble_eq_true rfl) dX12_weight_1 ?_
  show Go V Γ M_X12_weight (Zm V Γ 5 fin) 4 [(0, .ref (V.2.2.1 + 92))] [.int r2] σ3
  refine g_if_ne (pc := 4) (tgt := 14) X dX12_weight_4 rfl (fun c26 => ?_) (fun c26 => ?_)
  · replace h := if_f c26 h
    refine g_iconst (v := 0) (pc := 14) X rfl dX12_weight_14 ?_
    refine g_istore_n (pc := 15) X [(1, .int 0), (0, .ref (V.2.2.1 + 92))] rfl (Nat.le_of_ble_eq_true rfl) rfl dX12_weight_15 ?_
    refine g_iconst (v := 0) (pc := 16) X rfl dX12_weight_16 ?_
    refine g_istore_n (pc := 17) X [(2, .int 0), (1, .int 0), (0, .ref (V.2.2.1 + 92))] rfl (Nat.le_of_ble_eq_true rfl) rfl dX12_weight_17 ?_
    refine g_sub [2, 1, 0] rfl ?_
    obtain ⟨v16, hi17, h⟩ := bd_e h
    refine tl_Mo_weight_L18 X  hi17 ?_
    refine g_aload_n (pc := 59) X 0 rfl dX12_weight_59 ?_
    refine g_iload_n (pc := 60) X 1 rfl dX12_weight_60 ?_
    refine g_i2l (pc := 61) X dX12_weight_61 ?_
    refine g_aload_n (pc := 62) X 0 rfl dX12_weight_62 ?_
    refine g_getI (pc := 63) X k_fl_X12_253 s_92 rfl dX12_weight_63 ?_
    refine g_i2l (pc := 66) X dX12_weight_66 ?_
    obtain ⟨r19, σ20, hc18, h⟩ := bd2_e h
    refine g_callV (pc := 67) X k_ml_X12_329 (run_Mo_tellsBy  hc18) s_92 rfl (room_ok (Nat.le_of_ble_eq_true rfl) (Nat.le_of_ble_eq_true rfl)) ⟨Nat.le_refl _, Nat.le_refl _⟩ _ rfl (Nat.le_of_ble_eq_true rfl) dX12_weight_67 ?_
    show Go V Γ M_X12_weight (Zm V Γ 5 fin) 70 [(0, .ref (V.2.2.1 + 92)), (1, .int v16)] [.int r19] σ20
    obtain ⟨c21, h⟩ := chk_e h
    cases h
    exact g_iret (pc := 70) X rfl (ckz_e c21).1 (hr _ _ hA) dX12_weight_70
  · replace h := if_t c26 h
    refine g_aload_n (pc := 7) X 0 rfl dX12_weight_7 ?_
    refine g_bipush (v := 7) (pc := 8) X (by decide) dX12_weight_8 ?_
    obtain ⟨r23, σ24, hc22, h⟩ := bd2_e h
    refine g_callV (pc := 10) X k_ml_X12_95 (run_Mo_is  hc22) s_92 rfl (room_ok (Nat.le_of_ble_eq_true rfl) (Nat.le_of_ble_eq_true rfl)) ⟨Nat.le_refl _, Nat.le_refl _⟩ _ rfl (Nat.le_of_ble_eq_true rfl) dX12_weight_10 ?_
    show Go V Γ M_X12_weight (Zm V Γ 5 fin) 13 [(0, .ref (V.2.2.1 + 92))] [.int r23] σ24
    obtain ⟨c25, h⟩ := chk_e h
    cases h
    exact g_iret (pc := 13) X rfl (ckz_e c25).1 (hr _ _ hA) dX12_weight_13
set_option maxRecDepth 100000 in
theorem run_Mo_weight {V : Ev} {σ : St} {o : (Int32 × St)}   (h : Mo_weight σ = some o) : Rs V 5 M_X12_weight [.ref (V.2.2.1 + 92)] σ (some (.int o.1), o.2) := by
  refine Rs.of (by decide +kernel) (Nat.le_of_ble_eq_true rfl) (fun Γ X => ?_)
  exact tm_Mo_weight X (A := fun o1 => o1 = o)  (fun _ _ e => by rw [← e]) h rfl
theorem dX12_alone_0 : decode cX12_alone 0 = .ok (.aload_n 0, 1) := by decide +kernel
theorem dX12_alone_1 : decode cX12_alone 1 = .ok (.iload_n 1, 1) := by decide +kernel
theorem dX12_alone_2 : decode cX12_alone 2 = .ok (.invokevirtual 286, 3) := by decide +kernel
theorem dX12_alone_5 : decode cX12_alone 5 = .ok (.ifCond .ne 9, 3) := by decide +kernel
theorem dX12_alone_8 : decode cX12_alone 8 = .ok (.aload_n 0, 1) := by decide +kernel
theorem dX12_alone_9 : decode cX12_alone 9 = .ok (.iconst 1, 1) := by decide +kernel
theorem dX12_alone_10 : decode cX12_alone 10 = .ok (.invokevirtual 95, 3) := by decide +kernel
theorem dX12_alone_13 : decode cX12_alone 13 = .ok (.ireturn, 1) := by decide +kernel
theorem dX12_alone_14 : decode cX12_alone 14 = .ok (.aload_n 0, 1) := by decide +kernel
theorem dX12_alone_15 : decode cX12_alone 15 = .ok (.invokevirtual 274, 3) := by decide +kernel
theorem dX12_alone_18 : decode cX12_alone 18 = .ok (.ifCond .ne 10, 3) := by decide +kernel
theorem dX12_alone_21 : decode cX12_alone 21 = .ok (.aload_n 0, 1) := by decide +kernel
theorem dX12_alone_22 : decode cX12_alone 22 = .ok (.bipush 7, 2) := by decide +kernel
theorem dX12_alone_24 : decode cX12_alone 24 = .ok (.invokevirtual 95, 3) := by decide +kernel
theorem dX12_alone_27 : decode cX12_alone 27 = .ok (.ireturn, 1) := by decide +kernel
theorem dX12_alone_28 : decode cX12_alone 28 = .ok (.aload_n 0, 1) := by decide +kernel
theorem dX12_alone_29 : decode cX12_alone 29 = .ok (.iload_n 1, 1) := by decide +kernel
theorem dX12_alone_30 : decode cX12_alone 30 = .ok (.invokevirtual 238, 3) := by decide +kernel
theorem dX12_alone_33 : decode cX12_alone 33 = .ok (.ifCond .eq 23, 3) := by decide +kernel
theorem dX12_alone_36 : decode cX12_alone 36 = .ok (.aload_n 0, 1) := by decide +kernel
theorem dX12_alone_37 : decode cX12_alone 37 = .ok (.aload_n 0, 1) := by decide +kernel
theorem dX12_alone_38 : decode cX12_alone 38 = .ok (.iconst 1, 1) := by decide +kernel
theorem dX12_alone_39 : decode cX12_alone 39 = .ok (.iload_n 1, 1) := by decide +kernel
theorem dX12_alone_40 : decode cX12_alone 40 = .ok (.ishl, 1) := by decide +kernel
theorem dX12_alone_41 : decode cX12_alone 41 = .ok (.invokevirtual 277, 3) := by decide +kernel
theorem dX12_alone_44 : decode cX12_alone 44 = .ok (.i2l, 1) := by decide +kernel
theorem dX12_alone_45 : decode cX12_alone 45 = .ok (.aload_n 0, 1) := by decide +kernel
theorem dX12_alone_46 : decode cX12_alone 46 = .ok (.getfield 253, 3) := by decide +kernel
theorem dX12_alone_49 : decode cX12_alone 49 = .ok (.i2l, 1) := by decide +kernel
theorem dX12_alone_50 : decode cX12_alone 50 = .ok (.invokevirtual 329, 3) := by decide +kernel
theorem dX12_alone_53 : decode cX12_alone 53 = .ok (.goto 9, 3) := by decide +kernel
theorem dX12_alone_56 : decode cX12_alone 56 = .ok (.aload_n 0, 1) := by decide +kernel
theorem dX12_alone_57 : decode cX12_alone 57 = .ok (.bipush 6, 2) := by decide +kernel
theorem dX12_alone_59 : decode cX12_alone 59 = .ok (.invokevirtual 95, 3) := by decide +kernel
theorem dX12_alone_62 : decode cX12_alone 62 = .ok (.ireturn, 1) := by decide +kernel
noncomputable def Mo_alone (σ : St) (p1 : Int32) : Option (Int32 × St) :=
  bd (Mo_isClass σ p1) (fun r2 => if r2 = 0 then (bd2 (Mo_is σ 1) (fun r25 σ26 => chk (ckz r25) (some (r25, σ26)))) else (bd2 (Mo_laysNow σ) (fun r4 σ5 => if r4 = 0 then (bd2 (Mo_is σ5 7) (fun r20 σ21 => chk (ckz r20) (some (r20, σ21)))) else (bd (Mo_isOn σ5 p1) (fun r7 => if r7 = 0 then (bd2 (Mo_is σ5 6) (fun r9 σ10 => chk (ckz r9) (some (r9, σ10)))) else (bd (Mo_justBy σ5 (1 <<< (p1 &&& 31))) (fun r13 => bd2 (Mo_tellsBy σ5 r13.toInt64 ((σ5.1 92 23).toInt64)) (fun r15 σ16 => chk (ckz r15) (some (r15, σ16))))))))))
set_option maxRecDepth 100000 in
set_option maxHeartbeats 4000000 in
theorem tm_Mo_alone {V : Ev} {Γ : Cn} {fin : Option Value × St} {σ : St} {p1 : Int32} {o : (Int32 × St)} (X : Cx V Γ M_X12_alone) {A : (Int32 × St) → Prop}  (hr : ∀ (r : Int32) (σ9 : St), A (r, σ9) → (some (.int r), σ9) = fin) (h : Mo_alone σ p1 = some o) (hA : A o) : Go V Γ M_X12_alone (Zm V Γ 5 fin) 0 [(0, .ref (V.2.2.1 + 92)), (1, .int p1)] [] σ := by
  unfold Mo_alone at h
  refine g_aload_n (pc := 0) X 0 rfl dX12_alone_0 ?_
  refine g_iload_n (pc := 1) X 1 rfl dX12_alone_1 ?_
  obtain ⟨r2, hc1, h⟩ := bd_e h
  refine g_callV (pc := 2) X k_ml_X12_286 (run_Mo_isClass  hc1) s_92 rfl (room_ok (Nat.le_of_ble_eq_true rfl) (Nat.le_of_ble_eq_true rfl)) ⟨Nat.le_refl _, Nat.le_refl _⟩ _ rfl (Nat.le_of_ble_eq_true rfl) dX12_alone_2 ?_
  show Go V Γ M_X12_alone (Zm V Γ 5 fin) 5 [(0, .ref (V.2.2.1 + 92)), (1, .int p1)] [.int r2] σ
  refine g_if_ne (pc := 5) (tgt := 14) X dX12_alone_5 rfl (fun c28 => ?_) (fun c28 => ?_)
  · replace h := if_f c28 h
    refine g_aload_n (pc := 14) X 0 rfl dX12_alone_14 ?_
    obtain ⟨r4, σ5, hc3, h⟩ := bd2_e h
    refine g_callV (pc := 15) X k_ml_X12_274 (run_Mo_laysNow  hc3) s_92 rfl (room_ok (Nat.le_of_ble_eq_true rfl) (Nat.le_of_ble_eq_true rfl)) ⟨Nat.le_refl _, Nat.le_refl _⟩ _ rfl (Nat.le_of_ble_eq_true rfl) dX12_alone_15 ?_
    show Go V Γ M_X12_alone (Zm V Γ 5 fin) 18 [(0, .ref (V.2.2.1 + 92)), (1, .int p1)] [.int r4] σ5
    refine g_if_ne (pc := 18) (tgt := 28) X dX12_alone_18 rfl (fun c23 => ?_) (fun c23 => ?_)
    · replace h := if_f c23 h
      refine g_aload_n (pc := 28) X 0 rfl dX12_alone_28 ?_
      refine g_iload_n (pc := 29) X 1 rfl dX12_alone_29 ?_
      obtain ⟨r7, hc6, h⟩ := bd_e h
      refine g_callV (pc := 30) X k_ml_X12_238 (run_Mo_isOn  hc6) s_92 rfl (room_ok (Nat.le_of_ble_eq_true rfl) (Nat.le_of_ble_eq_true rfl)) ⟨Nat.le_refl _, Nat.le_refl _⟩ _ rfl (Nat.le_of_ble_eq_true rfl) dX12_alone_30 ?_
      show Go V Γ M_X12_alone (Zm V Γ 5 fin) 33 [(0, .ref (V.2.2.1 + 92)), (1, .int p1)] [.int r7] σ5
      refine g_if_eq (pc := 33) (tgt := 56) X dX12_alone_33 rfl (fun c18 => ?_) (fun c18 => ?_)
      · replace h := if_t c18 h
        refine g_aload_n (pc := 56) X 0 rfl dX12_alone_56 ?_
        refine g_bipush (v := 6) (pc := 57) X (by decide) dX12_alone_57 ?_
        obtain ⟨r9, σ10, hc8, h⟩ := bd2_e h
        refine g_callV (pc := 59) X k_ml_X12_95 (run_Mo_is  hc8) s_92 rfl (room_ok (Nat.le_of_ble_eq_true rfl) (Nat.le_of_ble_eq_true rfl)) ⟨Nat.le_refl _, Nat.le_refl _⟩ _ rfl (Nat.le_of_ble_eq_true rfl) dX12_alone_59 ?_
        show Go V Γ M_X12_alone (Zm V Γ 5 fin) 62 [(0, .ref (V.2.2.1 + 92)), (1, .int p1)] [.int r9] σ10
        obtain ⟨c11, h⟩ := chk_e h
        cases h
        exact g_iret (pc := 62) X rfl (ckz_e c11).1 (hr _ _ hA) dX12_alone_62
      · replace h := if_f c18 h
        refine g_aload_n (pc := 36) X 0 rfl dX12_alone_36 ?_
        refine g_aload_n (pc := 37) X 0 rfl dX12_alone_37 ?_
        refine g_iconst (v := 1) (pc := 38) X rfl dX12_alone_38 ?_
        refine g_iload_n (pc := 39) X 1 rfl dX12_alone_39 ?_
        refine g_ishl (pc := 40) X dX12_alone_40 ?_
        obtain ⟨r13, hc12, h⟩ := bd_e h
        refine g_callV (pc := 41) X k_ml_X12_277 (run_Mo_justBy  hc12) s_92 rfl (room_ok (Nat.le_of_ble_eq_true rfl) (Nat.le_of_ble_eq_true rfl)) ⟨Nat.le_refl _, Nat.le_refl _⟩ _ rfl (Nat.le_of_ble_eq_true rfl) dX12_alone_41 ?_
        show Go V Γ M_X12_alone (Zm V Γ 5 fin) 44 [(0, .ref (V.2.2.1 + 92)), (1, .int p1)] [.int r13, .ref (V.2.2.1 + 92)] σ5
        refine g_i2l (pc := 44) X dX12_alone_44 ?_
        refine g_aload_n (pc := 45) X 0 rfl dX12_alone_45 ?_
        refine g_getI (pc := 46) X k_fl_X12_253 s_92 rfl dX12_alone_46 ?_
        refine g_i2l (pc := 49) X dX12_alone_49 ?_
        obtain ⟨r15, σ16, hc14, h⟩ := bd2_e h
        refine g_callV (pc := 50) X k_ml_X12_329 (run_Mo_tellsBy  hc14) s_92 rfl (room_ok (Nat.le_of_ble_eq_true rfl) (Nat.le_of_ble_eq_true rfl)) ⟨Nat.le_refl _, Nat.le_refl _⟩ _ rfl (Nat.le_of_ble_eq_true rfl) dX12_alone_50 ?_
        show Go V Γ M_X12_alone (Zm V Γ 5 fin) 53 [(0, .ref (V.2.2.1 + 92)), (1, .int p1)] [.int r15] σ16
        refine g_goto (pc := 53) (tgt := 62) X dX12_alone_53 rfl ?_
        obtain ⟨c17, h⟩ := chk_e h
        cases h
        exact g_iret (pc := 62) X rfl (ckz_e c17).1 (hr _ _ hA) dX12_alone_62
    · replace h := if_t c23 h
      refine g_aload_n (pc := 21) X 0 rfl dX12_alone_21 ?_
      refine g_bipush (v := 7) (pc := 22) X (by decide) dX12_alone_22 ?_
      obtain ⟨r20, σ21, hc19, h⟩ := bd2_e h
      refine g_callV (pc := 24) X k_ml_X12_95 (run_Mo_is  hc19) s_92 rfl (room_ok (Nat.le_of_ble_eq_true rfl) (Nat.le_of_ble_eq_true rfl)) ⟨Nat.le_refl _, Nat.le_refl _⟩ _ rfl (Nat.le_of_ble_eq_true rfl) dX12_alone_24 ?_
      show Go V Γ M_X12_alone (Zm V Γ 5 fin) 27 [(0, .ref (V.2.2.1 + 92)), (1, .int p1)] [.int r20] σ21
      obtain ⟨c22, h⟩ := chk_e h
      cases h
      exact g_iret (pc := 27) X rfl (ckz_e c22).1 (hr _ _ hA) dX12_alone_27
  · replace h := if_t c28 h
    refine g_aload_n (pc := 8) X 0 rfl dX12_alone_8 ?_
    refine g_iconst (v := 1) (pc := 9) X rfl dX12_alone_9 ?_
    obtain ⟨r25, σ26, hc24, h⟩ := bd2_e h
    refine g_callV (pc := 10) X k_ml_X12_95 (run_Mo_is  hc24) s_92 rfl (room_ok (Nat.le_of_ble_eq_true rfl) (Nat.le_of_ble_eq_true rfl)) ⟨Nat.le_refl _, Nat.le_refl _⟩ _ rfl (Nat.le_of_ble_eq_true rfl) dX12_alone_10 ?_
    show Go V Γ M_X12_alone (Zm V Γ 5 fin) 13 [(0, .ref (V.2.2.1 + 92)), (1, .int p1)] [.int r25] σ26
    obtain ⟨c27, h⟩ := chk_e h
    cases h
    exact g_iret (pc := 13) X rfl (ckz_e c27).1 (hr _ _ hA) dX12_alone_13
set_option maxRecDepth 100000 in
theorem run_Mo_alone {V : Ev} {σ : St} {p1 : Int32} {o : (Int32 × St)}   (h : Mo_alone σ p1 = some o) : Rs V 5 M_X12_alone [.ref (V.2.2.1 + 92), .int p1] σ (some (.int o.1), o.2) := by
  refine Rs.of (by decide +kernel) (Nat.le_of_ble_eq_true rfl) (fun Γ X => ?_)
  exact tm_Mo_alone X (A := fun o1 => o1 = o)  (fun _ _ e => by rw [← e]) h rfl
theorem dX12_needless_0 : decode cX12_needless 0 = .ok (.aload_n 0, 1) := by decide +kernel
theorem dX12_needless_1 : decode cX12_needless 1 = .ok (.invokevirtual 274, 3) := by decide +kernel
theorem dX12_needless_4 : decode cX12_needless 4 = .ok (.ifCond .ne 10, 3) := by decide +kernel
theorem dX12_needless_7 : decode cX12_needless 7 = .ok (.aload_n 0, 1) := by decide +kernel
theorem dX12_needless_8 : decode cX12_needless 8 = .ok (.bipush 7, 2) := by decide +kernel
theorem dX12_needless_10 : decode cX12_needless 10 = .ok (.invokevirtual 88, 3) := by decide +kernel
theorem dX12_needless_13 : decode cX12_needless 13 = .ok (.ireturn, 1) := by decide +kernel
theorem dX12_needless_14 : decode cX12_needless 14 = .ok (.aload_n 0, 1) := by decide +kernel
theorem dX12_needless_15 : decode cX12_needless 15 = .ok (.invokevirtual 259, 3) := by decide +kernel
theorem dX12_needless_18 : decode cX12_needless 18 = .ok (.istore_n 1, 1) := by decide +kernel
theorem dX12_needless_19 : decode cX12_needless 19 = .ok (.iconst 0, 1) := by decide +kernel
theorem dX12_needless_20 : decode cX12_needless 20 = .ok (.istore_n 2, 1) := by decide +kernel
theorem dX12_needless_21 : decode cX12_needless 21 = .ok (.iload_n 2, 1) := by decide +kernel
theorem dX12_needless_22 : decode cX12_needless 22 = .ok (.bipush 12, 2) := by decide +kernel
theorem dX12_needless_24 : decode cX12_needless 24 = .ok (.if_icmp .ge 31, 3) := by decide +kernel
theorem dX12_needless_27 : decode cX12_needless 27 = .ok (.iload_n 1, 1) := by decide +kernel
theorem dX12_needless_28 : decode cX12_needless 28 = .ok (.aload_n 0, 1) := by decide +kernel
theorem dX12_needless_29 : decode cX12_needless 29 = .ok (.iconst 1, 1) := by decide +kernel
theorem dX12_needless_30 : decode cX12_needless 30 = .ok (.iload_n 2, 1) := by decide +kernel
theorem dX12_needless_31 : decode cX12_needless 31 = .ok (.ishl, 1) := by decide +kernel
theorem dX12_needless_32 : decode cX12_needless 32 = .ok (.invokevirtual 277, 3) := by decide +kernel
theorem dX12_needless_35 : decode cX12_needless 35 = .ok (.ifCond .le 11, 3) := by decide +kernel
theorem dX12_needless_38 : decode cX12_needless 38 = .ok (.iconst 1, 1) := by decide +kernel
theorem dX12_needless_39 : decode cX12_needless 39 = .ok (.iload_n 2, 1) := by decide +kernel
theorem dX12_needless_40 : decode cX12_needless 40 = .ok (.ishl, 1) := by decide +kernel
theorem dX12_needless_41 : decode cX12_needless 41 = .ok (.iconst (-1), 1) := by decide +kernel
theorem dX12_needless_42 : decode cX12_needless 42 = .ok (.ixor, 1) := by decide +kernel
theorem dX12_needless_43 : decode cX12_needless 43 = .ok (.goto 4, 3) := by decide +kernel
theorem dX12_needless_46 : decode cX12_needless 46 = .ok (.iconst (-1), 1) := by decide +kernel
theorem dX12_needless_47 : decode cX12_needless 47 = .ok (.iand, 1) := by decide +kernel
theorem dX12_needless_48 : decode cX12_needless 48 = .ok (.istore_n 1, 1) := by decide +kernel
theorem dX12_needless_49 : decode cX12_needless 49 = .ok (.iinc 2 1, 3) := by decide +kernel
theorem dX12_needless_52 : decode cX12_needless 52 = .ok (.goto (-31), 3) := by decide +kernel
theorem dX12_needless_55 : decode cX12_needless 55 = .ok (.aload_n 0, 1) := by decide +kernel
theorem dX12_needless_56 : decode cX12_needless 56 = .ok (.iload_n 1, 1) := by decide +kernel
theorem dX12_needless_57 : decode cX12_needless 57 = .ok (.invokevirtual 92, 3) := by decide +kernel
theorem dX12_needless_60 : decode cX12_needless 60 = .ok (.ireturn, 1) := by decide +kernel
noncomputable def Mo_needless_L21 (σ : St) (x1 : Int32) (x2 : Int32) : Option ((Int32 × Int32) ⊕ Int32) :=
  if 12 ≤ x2 then (some (.inr x1)) else (bd (Mo_justBy σ (1 <<< (x2 &&& 31))) (fun r7 => if r7 ≤ 0 then (bnd ((x1 &&& (-1))) (fun v8 => bnd (x2 + 1) (fun v9 => some (.inl (v8, v9))))) else (bnd ((x1 &&& ((1 <<< (x2 &&& 31)) ^^^ (-1)))) (fun v10 => bnd (x2 + 1) (fun v11 => some (.inl (v10, v11)))))))
set_option maxRecDepth 100000 in
set_option maxHeartbeats 4000000 in
theorem tb_Mo_needless_L21 {V : Ev} {Γ : Cn} {fin : Option Value × St} {σ : St} {x1 : Int32} {x2 : Int32} {o : ((Int32 × Int32) ⊕ Int32)} (X : Cx V Γ M_X12_needless) {A : ((Int32 × Int32) ⊕ Int32) → Prop}  (hb21 : ∀ (x1 : Int32) (x2 : Int32), A (.inl (x1, x2)) → Go V Γ M_X12_needless (Zm V Γ 5 fin) 21 [(0, .ref (V.2.2.1 + 92)), (1, .int x1), (2, .int x2)] [] σ) (hx21 : ∀ (x1 : Int32), A (.inr x1) → Go V Γ M_X12_needless (Zm V Γ 5 fin) 55 [(0, .ref (V.2.2.1 + 92)), (1, .int x1)] [] σ) (h : Mo_needless_L21 σ x1 x2 = some o) (hA : A o) : Go V Γ M_X12_needless (Zm V Γ 5 fin) 21 [(0, .ref (V.2.2.1 + 92)), (1, .int x1), (2, .int x2)] [] σ := by
  unfold Mo_needless_L21 at h
  refine g_iload_n (pc := 21) X 2 rfl dX12_needless_21 ?_
  refine g_bipush (v := 12) (pc := 22) X (by decide) dX12_needless_22 ?_
  refine g_icmp_ge (pc := 24) (tgt := 55) X dX12_needless_24 rfl (fun c13 => ?_) (fun c13 => ?_)
  · replace h := if_t c13 h
    refine g_sub [0, 1] rfl ?_
    cases h
    exact hx21 _ hA
  · replace h := if_f c13 h
    refine g_iload_n (pc := 27) X 1 rfl dX12_needless_27 ?_
    refine g_aload_n (pc := 28) X 0 rfl dX12_needless_28 ?_
    refine g_iconst (v := 1) (pc := 29) X rfl dX12_needless_29 ?_
    refine g_iload_n (pc := 30) X 2 rfl dX12_needless_30 ?_
    refine g_ishl (pc := 31) X dX12_needless_31 ?_
    obtain ⟨r7, hc6, h⟩ := bd_e h
    refine g_callV (pc := 32) X k_ml_X12_277 (run_Mo_justBy  hc6) s_92 rfl (room_ok (Nat.le_of_ble_eq_true rfl) (Nat.le_of_ble_eq_true rfl)) ⟨Nat.le_refl _, Nat.le_refl _⟩ _ rfl (Nat.le_of_ble_eq_true rfl) dX12_needless_32 ?_
    show Go V Γ M_X12_needless (Zm V Γ 5 fin) 35 [(0, .ref (V.2.2.1 + 92)), (1, .int x1), (2, .int x2)] [.int r7, .int x1] σ
    refine g_if_le (pc := 35) (tgt := 46) X dX12_needless_35 rfl (fun c12 => ?_) (fun c12 => ?_)
    · replace h := if_t c12 h
      refine g_iconst (v := (-1)) (pc := 46) X rfl dX12_needless_46 ?_
      refine g_iand (pc := 47) X dX12_needless_47 ?_
      obtain ⟨v8, e_v8, h⟩ := bnd_e h
      refine g_nmI e_v8 ?_
      refine g_istore_n (pc := 48) X [(1, .int v8), (0, .ref (V.2.2.1 + 92)), (2, .int x2)] rfl (Nat.le_of_ble_eq_true rfl) rfl dX12_needless_48 ?_
      obtain ⟨v9, e_v9, h⟩ := bnd_e h
      refine g_iinc (pc := 49) (v := v9) X [(2, .int v9), (1, .int v8), (0, .ref (V.2.2.1 + 92))] 2 rfl (by rw [e_v9]; rfl) (Nat.le_of_ble_eq_true rfl) rfl dX12_needless_49 ?_
      refine g_goto (pc := 52) (tgt := 21) X dX12_needless_52 rfl ?_
      refine g_sub [2, 1, 0] rfl ?_
      cases h
      exact hb21 _ _ hA
    · replace h := if_f c12 h
      refine g_iconst (v := 1) (pc := 38) X rfl dX12_needless_38 ?_
      refine g_iload_n (pc := 39) X 2 rfl dX12_needless_39 ?_
      refine g_ishl (pc := 40) X dX12_needless_40 ?_
      refine g_iconst (v := (-1)) (pc := 41) X rfl dX12_needless_41 ?_
      refine g_ixor (pc := 42) X dX12_needless_42 ?_
      refine g_goto (pc := 43) (tgt := 47) X dX12_needless_43 rfl ?_
      refine g_iand (pc := 47) X dX12_needless_47 ?_
      obtain ⟨v10, e_v10, h⟩ := bnd_e h
      refine g_nmI e_v10 ?_
      refine g_istore_n (pc := 48) X [(1, .int v10), (0, .ref (V.2.2.1 + 92)), (2, .int x2)] rfl (Nat.le_of_ble_eq_true rfl) rfl dX12_needless_48 ?_
      obtain ⟨v11, e_v11, h⟩ := bnd_e h
      refine g_iinc (pc := 49) (v := v11) X [(2, .int v11), (1, .int v10), (0, .ref (V.2.2.1 + 92))] 2 rfl (by rw [e_v11]; rfl) (Nat.le_of_ble_eq_true rfl) rfl dX12_needless_49 ?_
      refine g_goto (pc := 52) (tgt := 21) X dX12_needless_52 rfl ?_
      refine g_sub [2, 1, 0] rfl ?_
      cases h
      exact hb21 _ _ hA
set_option maxRecDepth 100000 in
theorem tl_Mo_needless_L21 {V : Ev} {Γ : Cn} {fin : Option Value × St} {σ : St} {x1 : Int32} {x2 : Int32} (X : Cx V Γ M_X12_needless)  {y1 : Int32} {n : Nat} (h : iter (fun s : (Int32 × Int32) => Mo_needless_L21 σ s.1 s.2) n (x1, x2) = some y1) (hK : Go V Γ M_X12_needless (Zm V Γ 5 fin) 55 [(0, .ref (V.2.2.1 + 92)), (1, .int y1)] [] σ) : Go V Γ M_X12_needless (Zm V Γ 5 fin) 21 [(0, .ref (V.2.2.1 + 92)), (1, .int x1), (2, .int x2)] [] σ := by
  refine iter_go (G := (fun s : (Int32 × Int32) => Go V Γ M_X12_needless (Zm V Γ 5 fin) 21 [(0, .ref (V.2.2.1 + 92)), (1, .int s.1), (2, .int s.2)] [] σ)) (fun s o ho hS => ?_) n (x1, x2) h
  exact tb_Mo_needless_L21 X  (fun _ _ h9 => h9) (fun _ he => by cases he; exact hK) ho hS
noncomputable def Mo_needless (σ : St) : Option (Int32 × St) :=
  bd2 (Mo_laysNow σ) (fun r2 σ3 => if r2 = 0 then (bd2 (Mo_refuse σ3 7) (fun r20 σ21 => some (r20, σ21))) else (bd (Mo_onSet σ3) (fun r5 => bd (iter (fun s : (Int32 × Int32) => Mo_needless_L21 σ3 s.1 s.2) FUEL (r5, 0)) (fun v14 => bd2 (Mo_gives σ3 v14) (fun r17 σ18 => some (r17, σ18))))))
set_option maxRecDepth 100000 in
set_option maxHeartbeats 4000000 in
theorem tm_Mo_needless {V : Ev} {Γ : Cn} {fin : Option Value × St} {σ : St} {o : (Int32 × St)} (X : Cx V Γ M_X12_needless) {A : (Int32 × St) → Prop}  (hr : ∀ (r : Int32) (σ9 : St), A (r, σ9) → (some (.int r), σ9) = fin) (h : Mo_needless σ = some o) (hA : A o) : Go V Γ M_X12_needless (Zm V Γ 5 fin) 0 [(0, .ref (V.2.2.1 + 92))] [] σ := by
  unfold Mo_needless at h
  refine g_aload_n (pc := 0) X 0 rfl dX12_needless_0 ?_
  obtain ⟨r2, σ3, hc1, h⟩ := bd2_e h
  refine g_callV (pc := 1) X k_ml_X12_274 (run_Mo_laysNow  hc1) s_92 rfl (room_ok (Nat.le_of_ble_eq_true rfl) (Nat.le_of_ble_eq_true rfl)) ⟨Nat.le_refl _, Nat.le_refl _⟩ _ rfl (Nat.le_of_ble_eq_true rfl) dX12_needless_1 ?_
  show Go V Γ M_X12_needless (Zm V Γ 5 fin) 4 [(0, .ref (V.2.2.1 + 92))] [.int r2] σ3
  refine g_if_ne (pc := 4) (tgt := 14) X dX12_needless_4 rfl (fun c22 => ?_) (fun c22 => ?_)
  · replace h := if_f c22 h
    refine g_aload_n (pc := 14) X 0 rfl dX12_needless_14 ?_
    obtain ⟨r5, hc4, h⟩ := bd_e h
    refine g_callV (pc := 15) X k_ml_X12_259 (run_Mo_onSet  hc4) s_92 rfl (room_ok (Nat.le_of_ble_eq_true rfl) (Nat.le_of_ble_eq_true rfl)) ⟨Nat.le_refl _, Nat.le_refl _⟩ _ rfl (Nat.le_of_ble_eq_true rfl) dX12_needless_15 ?_
    show Go V Γ M_X12_needless (Zm V Γ 5 fin) 18 [(0, .ref (V.2.2.1 + 92))] [.int r5] σ3
    refine g_istore_n (pc := 18) X [(1, .int r5), (0, .ref (V.2.2.1 + 92))] rfl (Nat.le_of_ble_eq_true rfl) rfl dX12_needless_18 ?_
    refine g_iconst (v := 0) (pc := 19) X rfl dX12_needless_19 ?_
    refine g_istore_n (pc := 20) X [(2, .int 0), (1, .int r5), (0, .ref (V.2.2.1 + 92))] rfl (Nat.le_of_ble_eq_true rfl) rfl dX12_needless_20 ?_
    refine g_sub [2, 1, 0] rfl ?_
    obtain ⟨v14, hi15, h⟩ := bd_e h
    refine tl_Mo_needless_L21 X  hi15 ?_
    refine g_aload_n (pc := 55) X 0 rfl dX12_needless_55 ?_
    refine g_iload_n (pc := 56) X 1 rfl dX12_needless_56 ?_
    obtain ⟨r17, σ18, hc16, h⟩ := bd2_e h
    refine g_callV (pc := 57) X k_ml_X12_92 (run_Mo_gives  hc16) s_92 rfl (room_ok (Nat.le_of_ble_eq_true rfl) (Nat.le_of_ble_eq_true rfl)) ⟨Nat.le_refl _, Nat.le_refl _⟩ _ rfl (Nat.le_of_ble_eq_true rfl) dX12_needless_57 ?_
    show Go V Γ M_X12_needless (Zm V Γ 5 fin) 60 [(0, .ref (V.2.2.1 + 92)), (1, .int v14)] [.int r17] σ18
    cases h
    exact g_iret (pc := 60) X rfl rfl (hr _ _ hA) dX12_needless_60
  · replace h := if_t c22 h
    refine g_aload_n (pc := 7) X 0 rfl dX12_needless_7 ?_
    refine g_bipush (v := 7) (pc := 8) X (by decide) dX12_needless_8 ?_
    obtain ⟨r20, σ21, hc19, h⟩ := bd2_e h
    refine g_callV (pc := 10) X k_ml_X12_88 (run_Mo_refuse  hc19) s_92 rfl (room_ok (Nat.le_of_ble_eq_true rfl) (Nat.le_of_ble_eq_true rfl)) ⟨Nat.le_refl _, Nat.le_refl _⟩ _ rfl (Nat.le_of_ble_eq_true rfl) dX12_needless_10 ?_
    show Go V Γ M_X12_needless (Zm V Γ 5 fin) 13 [(0, .ref (V.2.2.1 + 92))] [.int r20] σ21
    cases h
    exact g_iret (pc := 13) X rfl rfl (hr _ _ hA) dX12_needless_13
set_option maxRecDepth 100000 in
theorem run_Mo_needless {V : Ev} {σ : St} {o : (Int32 × St)}   (h : Mo_needless σ = some o) : Rs V 5 M_X12_needless [.ref (V.2.2.1 + 92)] σ (some (.int o.1), o.2) := by
  refine Rs.of (by decide +kernel) (Nat.le_of_ble_eq_true rfl) (fun Γ X => ?_)
  exact tm_Mo_needless X (A := fun o1 => o1 = o)  (fun _ _ e => by rw [← e]) h rfl
theorem dX12_fewestNow_0 : decode cX12_fewestNow 0 = .ok (.aload_n 0, 1) := by decide +kernel
theorem dX12_fewestNow_1 : decode cX12_fewestNow 1 = .ok (.invokevirtual 259, 3) := by decide +kernel
theorem dX12_fewestNow_4 : decode cX12_fewestNow 4 = .ok (.istore_n 1, 1) := by decide +kernel
theorem dX12_fewestNow_5 : decode cX12_fewestNow 5 = .ok (.iconst 0, 1) := by decide +kernel
theorem dX12_fewestNow_6 : decode cX12_fewestNow 6 = .ok (.istore_n 2, 1) := by decide +kernel
theorem dX12_fewestNow_7 : decode cX12_fewestNow 7 = .ok (.iload_n 2, 1) := by decide +kernel
theorem dX12_fewestNow_8 : decode cX12_fewestNow 8 = .ok (.sipush 4096, 3) := by decide +kernel
theorem dX12_fewestNow_11 : decode cX12_fewestNow 11 = .ok (.if_icmp .ge 16, 3) := by decide +kernel
theorem dX12_fewestNow_14 : decode cX12_fewestNow 14 = .ok (.aload_n 0, 1) := by decide +kernel
theorem dX12_fewestNow_15 : decode cX12_fewestNow 15 = .ok (.getfield 50, 3) := by decide +kernel
theorem dX12_fewestNow_18 : decode cX12_fewestNow 18 = .ok (.iload_n 2, 1) := by decide +kernel
theorem dX12_fewestNow_19 : decode cX12_fewestNow 19 = .ok (.iconst 0, 1) := by decide +kernel
theorem dX12_fewestNow_20 : decode cX12_fewestNow 20 = .ok (.bastore, 1) := by decide +kernel
theorem dX12_fewestNow_21 : decode cX12_fewestNow 21 = .ok (.iinc 2 1, 3) := by decide +kernel
theorem dX12_fewestNow_24 : decode cX12_fewestNow 24 = .ok (.goto (-17), 3) := by decide +kernel
theorem dX12_fewestNow_27 : decode cX12_fewestNow 27 = .ok (.iconst 0, 1) := by decide +kernel
theorem dX12_fewestNow_28 : decode cX12_fewestNow 28 = .ok (.istore_n 2, 1) := by decide +kernel
theorem dX12_fewestNow_29 : decode cX12_fewestNow 29 = .ok (.iload_n 2, 1) := by decide +kernel
theorem dX12_fewestNow_30 : decode cX12_fewestNow 30 = .ok (.aload_n 0, 1) := by decide +kernel
theorem dX12_fewestNow_31 : decode cX12_fewestNow 31 = .ok (.getfield 253, 3) := by decide +kernel
theorem dX12_fewestNow_34 : decode cX12_fewestNow 34 = .ok (.if_icmp .ge 34, 3) := by decide +kernel
theorem dX12_fewestNow_37 : decode cX12_fewestNow 37 = .ok (.aload_n 0, 1) := by decide +kernel
theorem dX12_fewestNow_38 : decode cX12_fewestNow 38 = .ok (.getfield 50, 3) := by decide +kernel
theorem dX12_fewestNow_41 : decode cX12_fewestNow 41 = .ok (.aload_n 0, 1) := by decide +kernel
theorem dX12_fewestNow_42 : decode cX12_fewestNow 42 = .ok (.getfield 47, 3) := by decide +kernel
theorem dX12_fewestNow_45 : decode cX12_fewestNow 45 = .ok (.iload_n 2, 1) := by decide +kernel
theorem dX12_fewestNow_46 : decode cX12_fewestNow 46 = .ok (.iaload, 1) := by decide +kernel
theorem dX12_fewestNow_47 : decode cX12_fewestNow 47 = .ok (.aload_n 0, 1) := by decide +kernel
theorem dX12_fewestNow_48 : decode cX12_fewestNow 48 = .ok (.getfield 47, 3) := by decide +kernel
theorem dX12_fewestNow_51 : decode cX12_fewestNow 51 = .ok (.iload_n 2, 1) := by decide +kernel
theorem dX12_fewestNow_52 : decode cX12_fewestNow 52 = .ok (.iaload, 1) := by decide +kernel
theorem dX12_fewestNow_53 : decode cX12_fewestNow 53 = .ok (.ifCond .eq 7, 3) := by decide +kernel
theorem dX12_fewestNow_56 : decode cX12_fewestNow 56 = .ok (.iconst 1, 1) := by decide +kernel
theorem dX12_fewestNow_57 : decode cX12_fewestNow 57 = .ok (.goto 4, 3) := by decide +kernel
theorem dX12_fewestNow_60 : decode cX12_fewestNow 60 = .ok (.iconst 0, 1) := by decide +kernel
theorem dX12_fewestNow_61 : decode cX12_fewestNow 61 = .ok (.bastore, 1) := by decide +kernel
theorem dX12_fewestNow_62 : decode cX12_fewestNow 62 = .ok (.iinc 2 1, 3) := by decide +kernel
theorem dX12_fewestNow_65 : decode cX12_fewestNow 65 = .ok (.goto (-36), 3) := by decide +kernel
theorem dX12_fewestNow_68 : decode cX12_fewestNow 68 = .ok (.iconst 1, 1) := by decide +kernel
theorem dX12_fewestNow_69 : decode cX12_fewestNow 69 = .ok (.istore_n 2, 1) := by decide +kernel
theorem dX12_fewestNow_70 : decode cX12_fewestNow 70 = .ok (.iload_n 2, 1) := by decide +kernel
theorem dX12_fewestNow_71 : decode cX12_fewestNow 71 = .ok (.sipush 4096, 3) := by decide +kernel
theorem dX12_fewestNow_74 : decode cX12_fewestNow 74 = .ok (.if_icmp .ge 58, 3) := by decide +kernel
theorem dX12_fewestNow_77 : decode cX12_fewestNow 77 = .ok (.iconst 0, 1) := by decide +kernel
theorem dX12_fewestNow_78 : decode cX12_fewestNow 78 = .ok (.istore_n 3, 1) := by decide +kernel
theorem dX12_fewestNow_79 : decode cX12_fewestNow 79 = .ok (.iload_n 3, 1) := by decide +kernel
theorem dX12_fewestNow_80 : decode cX12_fewestNow 80 = .ok (.bipush 12, 2) := by decide +kernel
theorem dX12_fewestNow_82 : decode cX12_fewestNow 82 = .ok (.if_icmp .ge 44, 3) := by decide +kernel
theorem dX12_fewestNow_85 : decode cX12_fewestNow 85 = .ok (.aload_n 0, 1) := by decide +kernel
theorem dX12_fewestNow_86 : decode cX12_fewestNow 86 = .ok (.getfield 50, 3) := by decide +kernel
theorem dX12_fewestNow_89 : decode cX12_fewestNow 89 = .ok (.iload_n 2, 1) := by decide +kernel
theorem dX12_fewestNow_90 : decode cX12_fewestNow 90 = .ok (.dup2, 1) := by decide +kernel
theorem dX12_fewestNow_91 : decode cX12_fewestNow 91 = .ok (.baload, 1) := by decide +kernel
theorem dX12_fewestNow_92 : decode cX12_fewestNow 92 = .ok (.iload_n 2, 1) := by decide +kernel
theorem dX12_fewestNow_93 : decode cX12_fewestNow 93 = .ok (.iload_n 3, 1) := by decide +kernel
theorem dX12_fewestNow_94 : decode cX12_fewestNow 94 = .ok (.invokestatic 241, 3) := by decide +kernel
theorem dX12_fewestNow_97 : decode cX12_fewestNow 97 = .ok (.ifCond .eq 20, 3) := by decide +kernel
theorem dX12_fewestNow_100 : decode cX12_fewestNow 100 = .ok (.aload_n 0, 1) := by decide +kernel
theorem dX12_fewestNow_101 : decode cX12_fewestNow 101 = .ok (.getfield 50, 3) := by decide +kernel
theorem dX12_fewestNow_104 : decode cX12_fewestNow 104 = .ok (.iload_n 2, 1) := by decide +kernel
theorem dX12_fewestNow_105 : decode cX12_fewestNow 105 = .ok (.iconst 1, 1) := by decide +kernel
theorem dX12_fewestNow_106 : decode cX12_fewestNow 106 = .ok (.iload_n 3, 1) := by decide +kernel
theorem dX12_fewestNow_107 : decode cX12_fewestNow 107 = .ok (.ishl, 1) := by decide +kernel
theorem dX12_fewestNow_108 : decode cX12_fewestNow 108 = .ok (.ixor, 1) := by decide +kernel
theorem dX12_fewestNow_109 : decode cX12_fewestNow 109 = .ok (.baload, 1) := by decide +kernel
theorem dX12_fewestNow_110 : decode cX12_fewestNow 110 = .ok (.ifCond .eq 7, 3) := by decide +kernel
theorem dX12_fewestNow_113 : decode cX12_fewestNow 113 = .ok (.iconst 1, 1) := by decide +kernel
theorem dX12_fewestNow_114 : decode cX12_fewestNow 114 = .ok (.goto 4, 3) := by decide +kernel
theorem dX12_fewestNow_117 : decode cX12_fewestNow 117 = .ok (.iconst 0, 1) := by decide +kernel
theorem dX12_fewestNow_118 : decode cX12_fewestNow 118 = .ok (.ior, 1) := by decide +kernel
theorem dX12_fewestNow_119 : decode cX12_fewestNow 119 = .ok (.bastore, 1) := by decide +kernel
theorem dX12_fewestNow_120 : decode cX12_fewestNow 120 = .ok (.iinc 3 1, 3) := by decide +kernel
theorem dX12_fewestNow_123 : decode cX12_fewestNow 123 = .ok (.goto (-44), 3) := by decide +kernel
theorem dX12_fewestNow_126 : decode cX12_fewestNow 126 = .ok (.iinc 2 1, 3) := by decide +kernel
theorem dX12_fewestNow_129 : decode cX12_fewestNow 129 = .ok (.goto (-59), 3) := by decide +kernel
theorem dX12_fewestNow_132 : decode cX12_fewestNow 132 = .ok (.iload_n 1, 1) := by decide +kernel
theorem dX12_fewestNow_133 : decode cX12_fewestNow 133 = .ok (.istore_n 2, 1) := by decide +kernel
theorem dX12_fewestNow_134 : decode cX12_fewestNow 134 = .ok (.iload_n 1, 1) := by decide +kernel
theorem dX12_fewestNow_135 : decode cX12_fewestNow 135 = .ok (.istore_n 3, 1) := by decide +kernel
theorem dX12_fewestNow_136 : decode cX12_fewestNow 136 = .ok (.iload_n 3, 1) := by decide +kernel
theorem dX12_fewestNow_137 : decode cX12_fewestNow 137 = .ok (.ifCond .lt 43, 3) := by decide +kernel
theorem dX12_fewestNow_140 : decode cX12_fewestNow 140 = .ok (.iload_n 3, 1) := by decide +kernel
theorem dX12_fewestNow_141 : decode cX12_fewestNow 141 = .ok (.iload_n 1, 1) := by decide +kernel
theorem dX12_fewestNow_142 : decode cX12_fewestNow 142 = .ok (.iconst (-1), 1) := by decide +kernel
theorem dX12_fewestNow_143 : decode cX12_fewestNow 143 = .ok (.ixor, 1) := by decide +kernel
theorem dX12_fewestNow_144 : decode cX12_fewestNow 144 = .ok (.iand, 1) := by decide +kernel
theorem dX12_fewestNow_145 : decode cX12_fewestNow 145 = .ok (.ifCond .ne 29, 3) := by decide +kernel
theorem dX12_fewestNow_148 : decode cX12_fewestNow 148 = .ok (.iload_n 3, 1) := by decide +kernel
theorem dX12_fewestNow_149 : decode cX12_fewestNow 149 = .ok (.invokestatic 333, 3) := by decide +kernel
theorem dX12_fewestNow_152 : decode cX12_fewestNow 152 = .ok (.iload_n 2, 1) := by decide +kernel
theorem dX12_fewestNow_153 : decode cX12_fewestNow 153 = .ok (.invokestatic 333, 3) := by decide +kernel
theorem dX12_fewestNow_156 : decode cX12_fewestNow 156 = .ok (.if_icmp .gt 18, 3) := by decide +kernel
theorem dX12_fewestNow_159 : decode cX12_fewestNow 159 = .ok (.aload_n 0, 1) := by decide +kernel
theorem dX12_fewestNow_160 : decode cX12_fewestNow 160 = .ok (.getfield 50, 3) := by decide +kernel
theorem dX12_fewestNow_163 : decode cX12_fewestNow 163 = .ok (.iload_n 1, 1) := by decide +kernel
theorem dX12_fewestNow_164 : decode cX12_fewestNow 164 = .ok (.iload_n 3, 1) := by decide +kernel
theorem dX12_fewestNow_165 : decode cX12_fewestNow 165 = .ok (.iconst (-1), 1) := by decide +kernel
theorem dX12_fewestNow_166 : decode cX12_fewestNow 166 = .ok (.ixor, 1) := by decide +kernel
theorem dX12_fewestNow_167 : decode cX12_fewestNow 167 = .ok (.iand, 1) := by decide +kernel
theorem dX12_fewestNow_168 : decode cX12_fewestNow 168 = .ok (.baload, 1) := by decide +kernel
theorem dX12_fewestNow_169 : decode cX12_fewestNow 169 = .ok (.ifCond .ne 5, 3) := by decide +kernel
theorem dX12_fewestNow_172 : decode cX12_fewestNow 172 = .ok (.iload_n 3, 1) := by decide +kernel
theorem dX12_fewestNow_173 : decode cX12_fewestNow 173 = .ok (.istore_n 2, 1) := by decide +kernel
theorem dX12_fewestNow_174 : decode cX12_fewestNow 174 = .ok (.iinc 3 (-1), 3) := by decide +kernel
theorem dX12_fewestNow_177 : decode cX12_fewestNow 177 = .ok (.goto (-41), 3) := by decide +kernel
theorem dX12_fewestNow_180 : decode cX12_fewestNow 180 = .ok (.iload_n 2, 1) := by decide +kernel
theorem dX12_fewestNow_181 : decode cX12_fewestNow 181 = .ok (.ireturn, 1) := by decide +kernel
noncomputable def Mo_fewestNow_L7 (l1 : Int32) (σ : St) (x2 : Int32) : Option ((Int32 × St) ⊕ St) :=
  if 4096 ≤ x2 then (some (.inr σ)) else (chk (ix x2 4096) (bnd (wI σ 102 (tn x2) (vp_nar .boolean 0)) (fun σ4 => bnd (x2 + 1) (fun v5 => some (.inl (v5, σ4))))))
set_option maxRecDepth 100000 in
set_option maxHeartbeats 4000000 in
theorem tb_Mo_fewestNow_L7 {V : Ev} {Γ : Cn} {fin : Option Value × St} {l1 : Int32} {σ : St} {x2 : Int32} {o : ((Int32 × St) ⊕ St)} (X : Cx V Γ M_X12_fewestNow) {A : ((Int32 × St) ⊕ St) → Prop}  (hb7 : ∀ (x2 : Int32) (σ9 : St), A (.inl (x2, σ9)) → Go V Γ M_X12_fewestNow (Zm V Γ 3 fin) 7 [(0, .ref (V.2.2.1 + 92)), (1, .int l1), (2, .int x2)] [] σ9) (hx7 : ∀ (σ9 : St), A (.inr σ9) → Go V Γ M_X12_fewestNow (Zm V Γ 3 fin) 27 [(0, .ref (V.2.2.1 + 92)), (1, .int l1)] [] σ9) (h : Mo_fewestNow_L7 l1 σ x2 = some o) (hA : A o) : Go V Γ M_X12_fewestNow (Zm V Γ 3 fin) 7 [(0, .ref (V.2.2.1 + 92)), (1, .int l1), (2, .int x2)] [] σ := by
  unfold Mo_fewestNow_L7 at h
  refine g_iload_n (pc := 7) X 2 rfl dX12_fewestNow_7 ?_
  refine g_sipush (v := 4096) (pc := 8) X (by decide) dX12_fewestNow_8 ?_
  refine g_icmp_ge (pc := 11) (tgt := 27) X dX12_fewestNow_11 rfl (fun c6 => ?_) (fun c6 => ?_)
  · replace h := if_t c6 h
    refine g_sub [0, 1] rfl ?_
    cases h
    exact hx7 _ hA
  · replace h := if_f c6 h
    refine g_aload_n (pc := 14) X 0 rfl dX12_fewestNow_14 ?_
    refine g_getR (r := 102) (pc := 15) X k_fl_X12_50 s_92 rfl dX12_fewestNow_15 ?_
    refine g_iload_n (pc := 18) X 2 rfl dX12_fewestNow_18 ?_
    refine g_iconst (v := 0) (pc := 19) X rfl dX12_fewestNow_19 ?_
    obtain ⟨c3, h⟩ := chk_e h
    refine g_zast (pc := 20) X s_102 c3 dX12_fewestNow_20 ?_
    obtain ⟨σ4, e_σ4, h⟩ := bnd_e h
    refine g_nmS e_σ4 ?_
    obtain ⟨v5, e_v5, h⟩ := bnd_e h
    refine g_iinc (pc := 21) (v := v5) X [(2, .int v5), (0, .ref (V.2.2.1 + 92)), (1, .int l1)] 2 rfl (by rw [e_v5]; rfl) (Nat.le_of_ble_eq_true rfl) rfl dX12_fewestNow_21 ?_
    refine g_goto (pc := 24) (tgt := 7) X dX12_fewestNow_24 rfl ?_
    refine g_sub [1, 2, 0] rfl ?_
    cases h
    exact hb7 _ _ hA
set_option maxRecDepth 100000 in
theorem tl_Mo_fewestNow_L7 {V : Ev} {Γ : Cn} {fin : Option Value × St} {l1 : Int32} {x2 : Int32} {σ9 : St} (X : Cx V Γ M_X12_fewestNow)  {σ8 : St} {n : Nat} (h : iter (fun s : (Int32 × St) => Mo_fewestNow_L7 l1 s.2 s.1) n (x2, σ9) = some σ8) (hK : Go V Γ M_X12_fewestNow (Zm V Γ 3 fin) 27 [(0, .ref (V.2.2.1 + 92)), (1, .int l1)] [] σ8) : Go V Γ M_X12_fewestNow (Zm V Γ 3 fin) 7 [(0, .ref (V.2.2.1 + 92)), (1, .int l1), (2, .int x2)] [] σ9 := by
  refine iter_go (G := (fun s : (Int32 × St) => Go V Γ M_X12_fewestNow (Zm V Γ 3 fin) 7 [(0, .ref (V.2.2.1 + 92)), (1, .int l1), (2, .int s.1)] [] s.2)) (fun s o ho hS => ?_) n (x2, σ9) h
  exact tb_Mo_fewestNow_L7 X  (fun _ _ h9 => h9) (fun _ he => by cases he; exact hK) ho hS
noncomputable def Mo_fewestNow_L29 (l1 : Int32) (σ : St) (x2 : Int32) : Option ((Int32 × St) ⊕ St) :=
  if (σ.1 92 23) ≤ x2 then (some (.inr σ)) else (chk (ix x2 5040) (chk (ix x2 5040) (if (σ.1 101 (tn x2)) = 0 then (chk (ix (σ.1 101 (tn x2)) 4096) (bnd (wI σ 102 (tn (σ.1 101 (tn x2))) (vp_nar .boolean 0)) (fun σ12 => bnd (x2 + 1) (fun v13 => some (.inl (v13, σ12)))))) else (chk (ix (σ.1 101 (tn x2)) 4096) (bnd (wI σ 102 (tn (σ.1 101 (tn x2))) (vp_nar .boolean 1)) (fun σ15 => bnd (x2 + 1) (fun v16 => some (.inl (v16, σ15)))))))))
set_option maxRecDepth 100000 in
set_option maxHeartbeats 4000000 in
theorem tb_Mo_fewestNow_L29 {V : Ev} {Γ : Cn} {fin : Option Value × St} {l1 : Int32} {σ : St} {x2 : Int32} {o : ((Int32 × St) ⊕ St)} (X : Cx V Γ M_X12_fewestNow) {A : ((Int32 × St) ⊕ St) → Prop}  (hb29 : ∀ (x2 : Int32) (σ9 : St), A (.inl (x2, σ9)) → Go V Γ M_X12_fewestNow (Zm V Γ 3 fin) 29 [(0, .ref (V.2.2.1 + 92)), (1, .int l1), (2, .int x2)] [] σ9) (hx29 : ∀ (σ9 : St), A (.inr σ9) → Go V Γ M_X12_fewestNow (Zm V Γ 3 fin) 68 [(0, .ref (V.2.2.1 + 92)), (1, .int l1)] [] σ9) (h : Mo_fewestNow_L29 l1 σ x2 = some o) (hA : A o) : Go V Γ M_X12_fewestNow (Zm V Γ 3 fin) 29 [(0, .ref (V.2.2.1 + 92)), (1, .int l1), (2, .int x2)] [] σ := by
  unfold Mo_fewestNow_L29 at h
  refine g_iload_n (pc := 29) X 2 rfl dX12_fewestNow_29 ?_
  refine g_aload_n (pc := 30) X 0 rfl dX12_fewestNow_30 ?_
  refine g_getI (pc := 31) X k_fl_X12_253 s_92 rfl dX12_fewestNow_31 ?_
  refine g_icmp_ge (pc := 34) (tgt := 68) X dX12_fewestNow_34 rfl (fun c18 => ?_) (fun c18 => ?_)
  · replace h := if_t c18 h
    refine g_sub [0, 1] rfl ?_
    cases h
    exact hx29 _ hA
  · replace h := if_f c18 h
    refine g_aload_n (pc := 37) X 0 rfl dX12_fewestNow_37 ?_
    refine g_getR (r := 102) (pc := 38) X k_fl_X12_50 s_92 rfl dX12_fewestNow_38 ?_
    refine g_aload_n (pc := 41) X 0 rfl dX12_fewestNow_41 ?_
    refine g_getR (r := 101) (pc := 42) X k_fl_X12_47 s_92 rfl dX12_fewestNow_42 ?_
    refine g_iload_n (pc := 45) X 2 rfl dX12_fewestNow_45 ?_
    obtain ⟨c9, h⟩ := chk_e h
    refine g_iald (pc := 46) X s_101 c9 dX12_fewestNow_46 ?_
    refine g_aload_n (pc := 47) X 0 rfl dX12_fewestNow_47 ?_
    refine g_getR (r := 101) (pc := 48) X k_fl_X12_47 s_92 rfl dX12_fewestNow_48 ?_
    refine g_iload_n (pc := 51) X 2 rfl dX12_fewestNow_51 ?_
    obtain ⟨c10, h⟩ := chk_e h
    refine g_iald (pc := 52) X s_101 c10 dX12_fewestNow_52 ?_
    refine g_if_eq (pc := 53) (tgt := 60) X dX12_fewestNow_53 rfl (fun c17 => ?_) (fun c17 => ?_)
    · replace h := if_t c17 h
      refine g_iconst (v := 0) (pc := 60) X rfl dX12_fewestNow_60 ?_
      obtain ⟨c11, h⟩ := chk_e h
      refine g_zast (pc := 61) X s_102 c11 dX12_fewestNow_61 ?_
      obtain ⟨σ12, e_σ12, h⟩ := bnd_e h
      refine g_nmS e_σ12 ?_
      obtain ⟨v13, e_v13, h⟩ := bnd_e h
      refine g_iinc (pc := 62) (v := v13) X [(2, .int v13), (0, .ref (V.2.2.1 + 92)), (1, .int l1)] 2 rfl (by rw [e_v13]; rfl) (Nat.le_of_ble_eq_true rfl) rfl dX12_fewestNow_62 ?_
      refine g_goto (pc := 65) (tgt := 29) X dX12_fewestNow_65 rfl ?_
      refine g_sub [1, 2, 0] rfl ?_
      cases h
      exact hb29 _ _ hA
    · replace h := if_f c17 h
      refine g_iconst (v := 1) (pc := 56) X rfl dX12_fewestNow_56 ?_
      refine g_goto (pc := 57) (tgt := 61) X dX12_fewestNow_57 rfl ?_
      obtain ⟨c14, h⟩ := chk_e h
      refine g_zast (pc := 61) X s_102 c14 dX12_fewestNow_61 ?_
      obtain ⟨σ15, e_σ15, h⟩ := bnd_e h
      refine g_nmS e_σ15 ?_
      obtain ⟨v16, e_v16, h⟩ := bnd_e h
      refine g_iinc (pc := 62) (v := v16) X [(2, .int v16), (0, .ref (V.2.2.1 + 92)), (1, .int l1)] 2 rfl (by rw [e_v16]; rfl) (Nat.le_of_ble_eq_true rfl) rfl dX12_fewestNow_62 ?_
      refine g_goto (pc := 65) (tgt := 29) X dX12_fewestNow_65 rfl ?_
      refine g_sub [1, 2, 0] rfl ?_
      cases h
      exact hb29 _ _ hA
set_option maxRecDepth 100000 in
theorem tl_Mo_fewestNow_L29 {V : Ev} {Γ : Cn} {fin : Option Value × St} {l1 : Int32} {x2 : Int32} {σ9 : St} (X : Cx V Γ M_X12_fewestNow)  {σ8 : St} {n : Nat} (h : iter (fun s : (Int32 × St) => Mo_fewestNow_L29 l1 s.2 s.1) n (x2, σ9) = some σ8) (hK : Go V Γ M_X12_fewestNow (Zm V Γ 3 fin) 68 [(0, .ref (V.2.2.1 + 92)), (1, .int l1)] [] σ8) : Go V Γ M_X12_fewestNow (Zm V Γ 3 fin) 29 [(0, .ref (V.2.2.1 + 92)), (1, .int l1), (2, .int x2)] [] σ9 := by
  refine iter_go (G := (fun s : (Int32 × St) => Go V Γ M_X12_fewestNow (Zm V Γ 3 fin) 29 [(0, .ref (V.2.2.1 + 92)), (1, .int l1), (2, .int s.1)] [] s.2)) (fun s o ho hS => ?_) n (x2, σ9) h
  exact tb_Mo_fewestNow_L29 X  (fun _ _ h9 => h9) (fun _ he => by cases he; exact hK) ho hS
noncomputable def Mo_fewestNow_L79 (l1 : Int32) (l2 : Int32) (σ : St) (x3 : Int32) : Option ((Int32 × St) ⊕ St) :=
  if 12 ≤ x3 then (some (.inr σ)) else (chk (ix l2 4096) (bd (Mo_isIn l2 x3) (fun r23 => if r23 = 0 then (chk (ix l2 4096) (bnd (wI σ 102 (tn l2) (vp_nar .boolean ((σ.1 102 (tn l2)) ||| 0))) (fun σ25 => bnd (x3 + 1) (fun v26 => some (.inl (v26, σ25)))))) else (chk (ix (l2 ^^^ (1 <<< (x3 &&& 31))) 4096) (if (σ.1 102 (tn (l2 ^^^ (1 <<< (x3 &&& 31))))) = 0 then (chk (ix l2 4096) (bnd (wI σ 102 (tn l2) (vp_nar .boolean ((σ.1 102 (tn l2)) ||| 0))) (fun σ29 => bnd (x3 + 1) (fun v30 => some (.inl (v30, σ29)))))) else (chk (ix l2 4096) (bnd (wI σ 102 (tn l2) (vp_nar .boolean ((σ.1 102 (tn l2)) ||| 1))) (fun σ32 => bnd (x3 + 1) (fun v33 => some (.inl (v33, σ32)))))))))))
set_option maxRecDepth 100000 in
set_option maxHeartbeats 4000000 in
theorem tb_Mo_fewestNow_L79 {V : Ev} {Γ : Cn} {fin : Option Value × St} {l1 : Int32} {l2 : Int32} {σ : St} {x3 : Int32} {o : ((Int32 × St) ⊕ St)} (X : Cx V Γ M_X12_fewestNow) {A : ((Int32 × St) ⊕ St) → Prop}  (hb79 : ∀ (x3 : Int32) (σ9 : St), A (.inl (x3, σ9)) → Go V Γ M_X12_fewestNow (Zm V Γ 3 fin) 79 [(0, .ref (V.2.2.1 + 92)), (1, .int l1), (2, .int l2), (3, .int x3)] [] σ9) (hx79 : ∀ (σ9 : St), A (.inr σ9) → Go V Γ M_X12_fewestNow (Zm V Γ 3 fin) 126 [(0, .ref (V.2.2.1 + 92)), (1, .int l1), (2, .int l2)] [] σ9) (h : Mo_fewestNow_L79 l1 l2 σ x3 = some o) (hA : A o) : Go V Γ M_X12_fewestNow (Zm V Γ 3 fin) 79 [(0, .ref (V.2.2.1 + 92)), (1, .int l1), (2, .int l2), (3, .int x3)] [] σ := by
  unfold Mo_fewestNow_L79 at h
  refine g_iload_n (pc := 79) X 3 rfl dX12_fewestNow_79 ?_
  refine g_bipush (v := 12) (pc := 80) X (by decide) dX12_fewestNow_80 ?_
  refine g_icmp_ge (pc := 82) (tgt := 126) X dX12_fewestNow_82 rfl (fun c36 => ?_) (fun c36 => ?_)
  · replace h := if_t c36 h
    refine g_sub [0, 1, 2] rfl ?_
    cases h
    exact hx79 _ hA
  · replace h := if_f c36 h
    refine g_aload_n (pc := 85) X 0 rfl dX12_fewestNow_85 ?_
    refine g_getR (r := 102) (pc := 86) X k_fl_X12_50 s_92 rfl dX12_fewestNow_86 ?_
    refine g_iload_n (pc := 89) X 2 rfl dX12_fewestNow_89 ?_
    refine g_dup2 (pc := 90) X rfl rfl dX12_fewestNow_90 ?_
    obtain ⟨c21, h⟩ := chk_e h
    refine g_zald (pc := 91) X s_102 c21 dX12_fewestNow_91 ?_
    refine g_iload_n (pc := 92) X 2 rfl dX12_fewestNow_92 ?_
    refine g_iload_n (pc := 93) X 3 rfl dX12_fewestNow_93 ?_
    obtain ⟨r23, hc22, h⟩ := bd_e h
    refine g_callS (pc := 94) X k_ml_X12_241 (run_Mo_isIn  hc22) rfl (room_ok (Nat.le_of_ble_eq_true rfl) (Nat.le_of_ble_eq_true rfl)) ⟨Nat.le_refl _, Nat.le_refl _⟩ _ rfl (Nat.le_of_ble_eq_true rfl) dX12_fewestNow_94 ?_
    show Go V Γ M_X12_fewestNow (Zm V Γ 3 fin) 97 [(0, .ref (V.2.2.1 + 92)), (1, .int l1), (2, .int l2), (3, .int x3)] [.int r23, .int (σ.1 102 (tn l2)), .int l2, .ref (V.2.2.1 + 102)] σ
    refine g_if_eq (pc := 97) (tgt := 117) X dX12_fewestNow_97 rfl (fun c35 => ?_) (fun c35 => ?_)
    · replace h := if_t c35 h
      refine g_iconst (v := 0) (pc := 117) X rfl dX12_fewestNow_117 ?_
      refine g_ior (pc := 118) X dX12_fewestNow_118 ?_
      obtain ⟨c24, h⟩ := chk_e h
      refine g_zast (pc := 119) X s_102 c24 dX12_fewestNow_119 ?_
      obtain ⟨σ25, e_σ25, h⟩ := bnd_e h
      refine g_nmS e_σ25 ?_
      obtain ⟨v26, e_v26, h⟩ := bnd_e h
      refine g_iinc (pc := 120) (v := v26) X [(3, .int v26), (0, .ref (V.2.2.1 + 92)), (1, .int l1), (2, .int l2)] 3 rfl (by rw [e_v26]; rfl) (Nat.le_of_ble_eq_true rfl) rfl dX12_fewestNow_120 ?_
      refine g_goto (pc := 123) (tgt := 79) X dX12_fewestNow_123 rfl ?_
      refine g_sub [1, 2, 3, 0] rfl ?_
      cases h
      exact hb79 _ _ hA
    · replace h := if_f c35 h
      refine g_aload_n (pc := 100) X 0 rfl dX12_fewestNow_100 ?_
      refine g_getR (r := 102) (pc := 101) X k_fl_X12_50 s_92 rfl dX12_fewestNow_101 ?_
      refine g_iload_n (pc := 104) X 2 rfl dX12_fewestNow_104 ?_
      refine g_iconst (v := 1) (pc := 105) X rfl dX12_fewestNow_105 ?_
      refine g_iload_n (pc := 106) X 3 rfl dX12_fewestNow_106 ?_
      refine g_ishl (pc := 107) X dX12_fewestNow_107 ?_
      refine g_ixor (pc := 108) X dX12_fewestNow_108 ?_
      obtain ⟨c27, h⟩ := chk_e h
      refine g_zald (pc := 109) X s_102 c27 dX12_fewestNow_109 ?_
      refine g_if_eq (pc := 110) (tgt := 117) X dX12_fewestNow_110 rfl (fun c34 => ?_) (fun c34 => ?_)
      · replace h := if_t c34 h
        refine g_iconst (v := 0) (pc := 117) X rfl dX12_fewestNow_117 ?_
        refine g_ior (pc := 118) X dX12_fewestNow_118 ?_
        obtain ⟨c28, h⟩ := chk_e h
        refine g_zast (pc := 119) X s_102 c28 dX12_fewestNow_119 ?_
        obtain ⟨σ29, e_σ29, h⟩ := bnd_e h
        refine g_nmS e_σ29 ?_
        obtain ⟨v30, e_v30, h⟩ := bnd_e h
        refine g_iinc (pc := 120) (v := v30) X [(3, .int v30), (0, .ref (V.2.2.1 + 92)), (1, .int l1), (2, .int l2)] 3 rfl (by rw [e_v30]; rfl) (Nat.le_of_ble_eq_true rfl) rfl dX12_fewestNow_120 ?_
        refine g_goto (pc := 123) (tgt := 79) X dX12_fewestNow_123 rfl ?_
        refine g_sub [1, 2, 3, 0] rfl ?_
        cases h
        exact hb79 _ _ hA
      · replace h := if_f c34 h
        refine g_iconst (v := 1) (pc := 113) X rfl dX12_fewestNow_113 ?_
        refine g_goto (pc := 114) (tgt := 118) X dX12_fewestNow_114 rfl ?_
        refine g_ior (pc := 118) X dX12_fewestNow_118 ?_
        obtain ⟨c31, h⟩ := chk_e h
        refine g_zast (pc := 119) X s_102 c31 dX12_fewestNow_119 ?_
        obtain ⟨σ32, e_σ32, h⟩ := bnd_e h
        refine g_nmS e_σ32 ?_
        obtain ⟨v33, e_v33, h⟩ := bnd_e h
        refine g_iinc (pc := 120) (v := v33) X [(3, .int v33), (0, .ref (V.2.2.1 + 92)), (1, .int l1), (2, .int l2)] 3 rfl (by rw [e_v33]; rfl) (Nat.le_of_ble_eq_true rfl) rfl dX12_fewestNow_120 ?_
        refine g_goto (pc := 123) (tgt := 79) X dX12_fewestNow_123 rfl ?_
        refine g_sub [1, 2, 3, 0] rfl ?_
        cases h
        exact hb79 _ _ hA
set_option maxRecDepth 100000 in
theorem tl_Mo_fewestNow_L79 {V : Ev} {Γ : Cn} {fin : Option Value × St} {l1 : Int32} {l2 : Int32} {x3 : Int32} {σ9 : St} (X : Cx V Γ M_X12_fewestNow)  {σ8 : St} {n : Nat} (h : iter (fun s : (Int32 × St) => Mo_fewestNow_L79 l1 l2 s.2 s.1) n (x3, σ9) = some σ8) (hK : Go V Γ M_X12_fewestNow (Zm V Γ 3 fin) 126 [(0, .ref (V.2.2.1 + 92)), (1, .int l1), (2, .int l2)] [] σ8) : Go V Γ M_X12_fewestNow (Zm V Γ 3 fin) 79 [(0, .ref (V.2.2.1 + 92)), (1, .int l1), (2, .int l2), (3, .int x3)] [] σ9 := by
  refine iter_go (G := (fun s : (Int32 × St) => Go V Γ M_X12_fewestNow (Zm V Γ 3 fin) 79 [(0, .ref (V.2.2.1 + 92)), (1, .int l1), (2, .int l2), (3, .int s.1)] [] s.2)) (fun s o ho hS => ?_) n (x3, σ9) h
  exact tb_Mo_fewestNow_L79 X  (fun _ _ h9 => h9) (fun _ he => by cases he; exact hK) ho hS
noncomputable def Mo_fewestNow_L70 (l1 : Int32) (σ : St) (x2 : Int32) : Option ((Int32 × St) ⊕ St) :=
  if 4096 ≤ x2 then (some (.inr σ)) else (bd (iter (fun s : (Int32 × St) => Mo_fewestNow_L79 l1 x2 s.2 s.1) FUEL (0, σ)) (fun σ37 => bnd (x2 + 1) (fun v39 => some (.inl (v39, σ37)))))
set_option maxRecDepth 100000 in
set_option maxHeartbeats 4000000 in
theorem tb_Mo_fewestNow_L70 {V : Ev} {Γ : Cn} {fin : Option Value × St} {l1 : Int32} {σ : St} {x2 : Int32} {o : ((Int32 × St) ⊕ St)} (X : Cx V Γ M_X12_fewestNow) {A : ((Int32 × St) ⊕ St) → Prop}  (hb70 : ∀ (x2 : Int32) (σ9 : St), A (.inl (x2, σ9)) → Go V Γ M_X12_fewestNow (Zm V Γ 3 fin) 70 [(0, .ref (V.2.2.1 + 92)), (1, .int l1), (2, .int x2)] [] σ9) (hx70 : ∀ (σ9 : St), A (.inr σ9) → Go V Γ M_X12_fewestNow (Zm V Γ 3 fin) 132 [(0, .ref (V.2.2.1 + 92)), (1, .int l1)] [] σ9) (h : Mo_fewestNow_L70 l1 σ x2 = some o) (hA : A o) : Go V Γ M_X12_fewestNow (Zm V Γ 3 fin) 70 [(0, .ref (V.2.2.1 + 92)), (1, .int l1), (2, .int x2)] [] σ := by
  unfold Mo_fewestNow_L70 at h
  refine g_iload_n (pc := 70) X 2 rfl dX12_fewestNow_70 ?_
  refine g_sipush (v := 4096) (pc := 71) X (by decide) dX12_fewestNow_71 ?_
  refine g_icmp_ge (pc := 74) (tgt := 132) X dX12_fewestNow_74 rfl (fun c40 => ?_) (fun c40 => ?_)
  · replace h := if_t c40 h
    refine g_sub [0, 1] rfl ?_
    cases h
    exact hx70 _ hA
  · replace h := if_f c40 h
    refine g_iconst (v := 0) (pc := 77) X rfl dX12_fewestNow_77 ?_
    refine g_istore_n (pc := 78) X [(3, .int 0), (0, .ref (V.2.2.1 + 92)), (1, .int l1), (2, .int x2)] rfl (Nat.le_of_ble_eq_true rfl) rfl dX12_fewestNow_78 ?_
    refine g_sub [1, 2, 3, 0] rfl ?_
    obtain ⟨σ37, hi38, h⟩ := bd_e h
    refine tl_Mo_fewestNow_L79 X  hi38 ?_
    obtain ⟨v39, e_v39, h⟩ := bnd_e h
    refine g_iinc (pc := 126) (v := v39) X [(2, .int v39), (0, .ref (V.2.2.1 + 92)), (1, .int l1)] 2 rfl (by rw [e_v39]; rfl) (Nat.le_of_ble_eq_true rfl) rfl dX12_fewestNow_126 ?_
    refine g_goto (pc := 129) (tgt := 70) X dX12_fewestNow_129 rfl ?_
    refine g_sub [1, 2, 0] rfl ?_
    cases h
    exact hb70 _ _ hA
set_option maxRecDepth 100000 in
theorem tl_Mo_fewestNow_L70 {V : Ev} {Γ : Cn} {fin : Option Value × St} {l1 : Int32} {x2 : Int32} {σ9 : St} (X : Cx V Γ M_X12_fewestNow)  {σ8 : St} {n : Nat} (h : iter (fun s : (Int32 × St) => Mo_fewestNow_L70 l1 s.2 s.1) n (x2, σ9) = some σ8) (hK : Go V Γ M_X12_fewestNow (Zm V Γ 3 fin) 132 [(0, .ref (V.2.2.1 + 92)), (1, .int l1)] [] σ8) : Go V Γ M_X12_fewestNow (Zm V Γ 3 fin) 70 [(0, .ref (V.2.2.1 + 92)), (1, .int l1), (2, .int x2)] [] σ9 := by
  refine iter_go (G := (fun s : (Int32 × St) => Go V Γ M_X12_fewestNow (Zm V Γ 3 fin) 70 [(0, .ref (V.2.2.1 + 92)), (1, .int l1), (2, .int s.1)] [] s.2)) (fun s o ho hS => ?_) n (x2, σ9) h
  exact tb_Mo_fewestNow_L70 X  (fun _ _ h9 => h9) (fun _ he => by cases he; exact hK) ho hS
noncomputable def Mo_fewestNow_L136 (l1 : Int32) (σ : St) (x2 : Int32) (x3 : Int32) : Option ((Int32 × Int32) ⊕ Int32) :=
  if x3 < 0 then (some (.inr x2)) else (if (x3 &&& (l1 ^^^ (-1))) = 0 then (bd (Mo_bits x3) (fun r45 => bd (Mo_bits x2) (fun r47 => if r47 < r45 then (bnd (x3 + (-1)) (fun v48 => some (.inl (x2, v48)))) else (chk (ix (l1 &&& (x3 ^^^ (-1))) 4096) (if (σ.1 102 (tn (l1 &&& (x3 ^^^ (-1))))) = 0 then (bnd (x3 + (-1)) (fun v51 => some (.inl (x3, v51)))) else (bnd (x3 + (-1)) (fun v50 => some (.inl (x2, v50))))))))) else (bnd (x3 + (-1)) (fun v43 => some (.inl (x2, v43)))))
set_option maxRecDepth 100000 in
set_option maxHeartbeats 4000000 in
theorem tb_Mo_fewestNow_L136 {V : Ev} {Γ : Cn} {fin : Option Value × St} {l1 : Int32} {σ : St} {x2 : Int32} {x3 : Int32} {o : ((Int32 × Int32) ⊕ Int32)} (X : Cx V Γ M_X12_fewestNow) {A : ((Int32 × Int32) ⊕ Int32) → Prop}  (hb136 : ∀ (x2 : Int32) (x3 : Int32), A (.inl (x2, x3)) → Go V Γ M_X12_fewestNow (Zm V Γ 3 fin) 136 [(0, .ref (V.2.2.1 + 92)), (1, .int l1), (2, .int x2), (3, .int x3)] [] σ) (hx136 : ∀ (x2 : Int32), A (.inr x2) → Go V Γ M_X12_fewestNow (Zm V Γ 3 fin) 180 [(2, .int x2)] [] σ) (h : Mo_fewestNow_L136 l1 σ x2 x3 = some o) (hA : A o) : Go V Γ M_X12_fewestNow (Zm V Γ 3 fin) 136 [(0, .ref (V.2.2.1 + 92)), (1, .int l1), (2, .int x2), (3, .int x3)] [] σ := by
  unfold Mo_fewestNow_L136 at h
  refine g_iload_n (pc := 136) X 3 rfl dX12_fewestNow_136 ?_
  refine g_if_lt (pc := 137) (tgt := 180) X dX12_fewestNow_137 rfl (fun c55 => ?_) (fun c55 => ?_)
  · replace h := if_t c55 h
    refine g_sub [2] rfl ?_
    cases h
    exact hx136 _ hA
  · replace h := if_f c55 h
    refine g_iload_n (pc := 140) X 3 rfl dX12_fewestNow_140 ?_
    refine g_iload_n (pc := 141) X 1 rfl dX12_fewestNow_141 ?_
    refine g_iconst (v := (-1)) (pc := 142) X rfl dX12_fewestNow_142 ?_
    refine g_ixor (pc := 143) X dX12_fewestNow_143 ?_
    refine g_iand (pc := 144) X dX12_fewestNow_144 ?_
    refine g_if_ne (pc := 145) (tgt := 174) X dX12_fewestNow_145 rfl (fun c54 => ?_) (fun c54 => ?_)
    · replace h := if_f c54 h
      obtain ⟨v43, e_v43, h⟩ := bnd_e h
      refine g_iinc (pc := 174) (v := v43) X [(3, .int v43), (0, .ref (V.2.2.1 + 92)), (1, .int l1), (2, .int x2)] 3 rfl (by rw [e_v43]; rfl) (Nat.le_of_ble_eq_true rfl) rfl dX12_fewestNow_174 ?_
      refine g_goto (pc := 177) (tgt := 136) X dX12_fewestNow_177 rfl ?_
      refine g_sub [1, 2, 3, 0] rfl ?_
      cases h
      exact hb136 _ _ hA
    · replace h := if_t c54 h
      refine g_iload_n (pc := 148) X 3 rfl dX12_fewestNow_148 ?_
      obtain ⟨r45, hc44, h⟩ := bd_e h
      refine g_callS (pc := 149) X k_ml_X12_333 (run_Mo_bits  hc44) rfl (room_ok (Nat.le_of_ble_eq_true rfl) (Nat.le_of_ble_eq_true rfl)) ⟨Nat.le_refl _, Nat.le_refl _⟩ _ rfl (Nat.le_of_ble_eq_true rfl) dX12_fewestNow_149 ?_
      show Go V Γ M_X12_fewestNow (Zm V Γ 3 fin) 152 [(0, .ref (V.2.2.1 + 92)), (1, .int l1), (2, .int x2), (3, .int x3)] [.int r45] σ
      refine g_iload_n (pc := 152) X 2 rfl dX12_fewestNow_152 ?_
      obtain ⟨r47, hc46, h⟩ := bd_e h
      refine g_callS (pc := 153) X k_ml_X12_333 (run_Mo_bits  hc46) rfl (room_ok (Nat.le_of_ble_eq_true rfl) (Nat.le_of_ble_eq_true rfl)) ⟨Nat.le_refl _, Nat.le_refl _⟩ _ rfl (Nat.le_of_ble_eq_true rfl) dX12_fewestNow_153 ?_
      show Go V Γ M_X12_fewestNow (Zm V Γ 3 fin) 156 [(0, .ref (V.2.2.1 + 92)), (1, .int l1), (2, .int x2), (3, .int x3)] [.int r47, .int r45] σ
      refine g_icmp_gt (pc := 156) (tgt := 174) X dX12_fewestNow_156 rfl (fun c53 => ?_) (fun c53 => ?_)
      · replace h := if_t c53 h
        obtain ⟨v48, e_v48, h⟩ := bnd_e h
        refine g_iinc (pc := 174) (v := v48) X [(3, .int v48), (0, .ref (V.2.2.1 + 92)), (1, .int l1), (2, .int x2)] 3 rfl (by rw [e_v48]; rfl) (Nat.le_of_ble_eq_true rfl) rfl dX12_fewestNow_174 ?_
        refine g_goto (pc := 177) (tgt := 136) X dX12_fewestNow_177 rfl ?_
        refine g_sub [1, 2, 3, 0] rfl ?_
        cases h
        exact hb136 _ _ hA
      · replace h := if_f c53 h
        refine g_aload_n (pc := 159) X 0 rfl dX12_fewestNow_159 ?_
        refine g_getR (r := 102) (pc := 160) X k_fl_X12_50 s_92 rfl dX12_fewestNow_160 ?_
        refine g_iload_n (pc := 163) X 1 rfl dX12_fewestNow_163 ?_
        refine g_iload_n (pc := 164) X 3 rfl dX12_fewestNow_164 ?_
        refine g_iconst (v := (-1)) (pc := 165) X rfl dX12_fewestNow_165 ?_
        refine g_ixor (pc := 166) X dX12_fewestNow_166 ?_
        refine g_iand (pc := 167) X dX12_fewestNow_167 ?_
        obtain ⟨c49, h⟩ := chk_e h
        refine g_zald (pc := 168) X s_102 c49 dX12_fewestNow_168 ?_
        refine g_if_ne (pc := 169) (tgt := 174) X dX12_fewestNow_169 rfl (fun c52 => ?_) (fun c52 => ?_)
        · replace h := if_f c52 h
          obtain ⟨v50, e_v50, h⟩ := bnd_e h
          refine g_iinc (pc := 174) (v := v50) X [(3, .int v50), (0, .ref (V.2.2.1 + 92)), (1, .int l1), (2, .int x2)] 3 rfl (by rw [e_v50]; rfl) (Nat.le_of_ble_eq_true rfl) rfl dX12_fewestNow_174 ?_
          refine g_goto (pc := 177) (tgt := 136) X dX12_fewestNow_177 rfl ?_
          refine g_sub [1, 2, 3, 0] rfl ?_
          cases h
          exact hb136 _ _ hA
        · replace h := if_t c52 h
          refine g_iload_n (pc := 172) X 3 rfl dX12_fewestNow_172 ?_
          refine g_istore_n (pc := 173) X [(2, .int x3), (0, .ref (V.2.2.1 + 92)), (1, .int l1), (3, .int x3)] rfl (Nat.le_of_ble_eq_true rfl) rfl dX12_fewestNow_173 ?_
          obtain ⟨v51, e_v51, h⟩ := bnd_e h
          refine g_iinc (pc := 174) (v := v51) X [(3, .int v51), (2, .int x3), (0, .ref (V.2.2.1 + 92)), (1, .int l1)] 3 rfl (by rw [e_v51]; rfl) (Nat.le_of_ble_eq_true rfl) rfl dX12_fewestNow_174 ?_
          refine g_goto (pc := 177) (tgt := 136) X dX12_fewestNow_177 rfl ?_
          refine g_sub [2, 3, 1, 0] rfl ?_
          cases h
          exact hb136 _ _ hA
set_option maxRecDepth 100000 in
theorem tl_Mo_fewestNow_L136 {V : Ev} {Γ : Cn} {fin : Option Value × St} {l1 : Int32} {σ : St} {x2 : Int32} {x3 : Int32} (X : Cx V Γ M_X12_fewestNow)  {y2 : Int32} {n : Nat} (h : iter (fun s : (Int32 × Int32) => Mo_fewestNow_L136 l1 σ s.1 s.2) n (x2, x3) = some y2) (hK : Go V Γ M_X12_fewestNow (Zm V Γ 3 fin) 180 [(2, .int y2)] [] σ) : Go V Γ M_X12_fewestNow (Zm V Γ 3 fin) 136 [(0, .ref (V.2.2.1 + 92)), (1, .int l1), (2, .int x2), (3, .int x3)] [] σ := by
  refine iter_go (G := (fun s : (Int32 × Int32) => Go V Γ M_X12_fewestNow (Zm V Γ 3 fin) 136 [(0, .ref (V.2.2.1 + 92)), (1, .int l1), (2, .int s.1), (3, .int s.2)] [] σ)) (fun s o ho hS => ?_) n (x2, x3) h
  exact tb_Mo_fewestNow_L136 X  (fun _ _ h9 => h9) (fun _ he => by cases he; exact hK) ho hS
noncomputable def Mo_fewestNow (σ : St) : Option (Int32 × St) :=
  bd (Mo_onSet σ) (fun r2 => bd (iter (fun s : (Int32 × St) => Mo_fewestNow_L7 r2 s.2 s.1) FUEL (0, σ)) (fun σ7 => bd (iter (fun s : (Int32 × St) => Mo_fewestNow_L29 r2 s.2 s.1) FUEL (0, σ7)) (fun σ19 => bd (iter (fun s : (Int32 × St) => Mo_fewestNow_L70 r2 s.2 s.1) FUEL (1, σ19)) (fun σ41 => bd (iter (fun s : (Int32 × Int32) => Mo_fewestNow_L136 r2 σ41 s.1 s.2) FUEL (r2, r2)) (fun v56 => some (v56, σ41))))))
set_option maxRecDepth 100000 in
set_option maxHeartbeats 4000000 in
theorem tm_Mo_fewestNow {V : Ev} {Γ : Cn} {fin : Option Value × St} {σ : St} {o : (Int32 × St)} (X : Cx V Γ M_X12_fewestNow) {A : (Int32 × St) → Prop}  (hr : ∀ (r : Int32) (σ9 : St), A (r, σ9) → (some (.int r), σ9) = fin) (h : Mo_fewestNow σ = some o) (hA : A o) : Go V Γ M_X12_fewestNow (Zm V Γ 3 fin) 0 [(0, .ref (V.2.2.1 + 92))] [] σ := by
  unfold Mo_fewestNow at h
  refine g_aload_n (pc := 0) X 0 rfl dX12_fewestNow_0 ?_
  obtain ⟨r2, hc1, h⟩ := bd_e h
  refine g_callV (pc := 1) X k_ml_X12_259 (run_Mo_onSet  hc1) s_92 rfl (room_ok (Nat.le_of_ble_eq_true rfl) (Nat.le_of_ble_eq_true rfl)) ⟨Nat.le_refl _, Nat.le_refl _⟩ _ rfl (Nat.le_of_ble_eq_true rfl) dX12_fewestNow_1 ?_
  show Go V Γ M_X12_fewestNow (Zm V Γ 3 fin) 4 [(0, .ref (V.2.2.1 + 92))] [.int r2] σ
  refine g_istore_n (pc := 4) X [(1, .int r2), (0, .ref (V.2.2.1 + 92))] rfl (Nat.le_of_ble_eq_true rfl) rfl dX12_fewestNow_4 ?_
  refine g_iconst (v := 0) (pc := 5) X rfl dX12_fewestNow_5 ?_
  refine g_istore_n (pc := 6) X [(2, .int 0), (1, .int r2), (0, .ref (V.2.2.1 + 92))] rfl (Nat.le_of_ble_eq_true rfl) rfl dX12_fewestNow_6 ?_
  refine g_sub [2, 1, 0] rfl ?_
  obtain ⟨σ7, hi8, h⟩ := bd_e h
  refine tl_Mo_fewestNow_L7 X  hi8 ?_
  refine g_iconst (v := 0) (pc := 27) X rfl dX12_fewestNow_27 ?_
  refine g_istore_n (pc := 28) X [(2, .int 0), (0, .ref (V.2.2.1 + 92)), (1, .int r2)] rfl (Nat.le_of_ble_eq_true rfl) rfl dX12_fewestNow_28 ?_
  refine g_sub [1, 2, 0] rfl ?_
  obtain ⟨σ19, hi20, h⟩ := bd_e h
  refine tl_Mo_fewestNow_L29 X  hi20 ?_
  refine g_iconst (v := 1) (pc := 68) X rfl dX12_fewestNow_68 ?_
  refine g_istore_n (pc := 69) X [(2, .int 1), (0, .ref (V.2.2.1 + 92)), (1, .int r2)] rfl (Nat.le_of_ble_eq_true rfl) rfl dX12_fewestNow_69 ?_
  refine g_sub [1, 2, 0] rfl ?_
  obtain ⟨σ41, hi42, h⟩ := bd_e h
  refine tl_Mo_fewestNow_L70 X  hi42 ?_
  refine g_iload_n (pc := 132) X 1 rfl dX12_fewestNow_132 ?_
  refine g_istore_n (pc := 133) X [(2, .int r2), (0, .ref (V.2.2.1 + 92)), (1, .int r2)] rfl (Nat.le_of_ble_eq_true rfl) rfl dX12_fewestNow_133 ?_
  refine g_iload_n (pc := 134) X 2 rfl dX12_fewestNow_134 ?_
  refine g_istore_n (pc := 135) X [(3, .int r2), (2, .int r2), (0, .ref (V.2.2.1 + 92)), (1, .int r2)] rfl (Nat.le_of_ble_eq_true rfl) rfl dX12_fewestNow_135 ?_
  refine g_sub [2, 3, 1, 0] rfl ?_
  obtain ⟨v56, hi57, h⟩ := bd_e h
  refine tl_Mo_fewestNow_L136 X  hi57 ?_
  refine g_iload_n (pc := 180) X 0 rfl dX12_fewestNow_180 ?_
  cases h
  exact g_iret (pc := 181) X rfl rfl (hr _ _ hA) dX12_fewestNow_181
set_option maxRecDepth 100000 in
theorem run_Mo_fewestNow {V : Ev} {σ : St} {o : (Int32 × St)}   (h : Mo_fewestNow σ = some o) : Rs V 3 M_X12_fewestNow [.ref (V.2.2.1 + 92)] σ (some (.int o.1), o.2) := by
  refine Rs.of (by decide +kernel) (Nat.le_of_ble_eq_true rfl) (fun Γ X => ?_)
  exact tm_Mo_fewestNow X (A := fun o1 => o1 = o)  (fun _ _ e => by rw [← e]) h rfl
theorem dX12_fewest_0 : decode cX12_fewest 0 = .ok (.aload_n 0, 1) := by decide +kernel
theorem dX12_fewest_1 : decode cX12_fewest 1 = .ok (.invokevirtual 274, 3) := by decide +kernel
theorem dX12_fewest_4 : decode cX12_fewest 4 = .ok (.ifCond .eq 17, 3) := by decide +kernel
theorem dX12_fewest_7 : decode cX12_fewest 7 = .ok (.aload_n 0, 1) := by decide +kernel
theorem dX12_fewest_8 : decode cX12_fewest 8 = .ok (.aload_n 0, 1) := by decide +kernel
theorem dX12_fewest_9 : decode cX12_fewest 9 = .ok (.invokevirtual 336, 3) := by decide +kernel
theorem dX12_fewest_12 : decode cX12_fewest 12 = .ok (.invokestatic 333, 3) := by decide +kernel
theorem dX12_fewest_15 : decode cX12_fewest 15 = .ok (.invokevirtual 92, 3) := by decide +kernel
theorem dX12_fewest_18 : decode cX12_fewest 18 = .ok (.goto 9, 3) := by decide +kernel
theorem dX12_fewest_21 : decode cX12_fewest 21 = .ok (.aload_n 0, 1) := by decide +kernel
theorem dX12_fewest_22 : decode cX12_fewest 22 = .ok (.bipush 7, 2) := by decide +kernel
theorem dX12_fewest_24 : decode cX12_fewest 24 = .ok (.invokevirtual 88, 3) := by decide +kernel
theorem dX12_fewest_27 : decode cX12_fewest 27 = .ok (.ireturn, 1) := by decide +kernel
noncomputable def Mo_fewest (σ : St) : Option (Int32 × St) :=
  bd2 (Mo_laysNow σ) (fun r2 σ3 => if r2 = 0 then (bd2 (Mo_refuse σ3 7) (fun r5 σ6 => some (r5, σ6))) else (bd2 (Mo_fewestNow σ3) (fun r8 σ9 => bd (Mo_bits r8) (fun r11 => bd2 (Mo_gives σ9 r11) (fun r13 σ14 => some (r13, σ14))))))
set_option maxRecDepth 100000 in
set_option maxHeartbeats 4000000 in
theorem tm_Mo_fewest {V : Ev} {Γ : Cn} {fin : Option Value × St} {σ : St} {o : (Int32 × St)} (X : Cx V Γ M_X12_fewest) {A : (Int32 × St) → Prop}  (hr : ∀ (r : Int32) (σ9 : St), A (r, σ9) → (some (.int r), σ9) = fin) (h : Mo_fewest σ = some o) (hA : A o) : Go V Γ M_X12_fewest (Zm V Γ 5 fin) 0 [(0, .ref (V.2.2.1 + 92))] [] σ := by
  unfold Mo_fewest at h
  refine g_aload_n (pc := 0) X 0 rfl dX12_fewest_0 ?_
  obtain ⟨r2, σ3, hc1, h⟩ := bd2_e h
  refine g_callV (pc := 1) X k_ml_X12_274 (run_Mo_laysNow  hc1) s_92 rfl (room_ok (Nat.le_of_ble_eq_true rfl) (Nat.le_of_ble_eq_true rfl)) ⟨Nat.le_refl _, Nat.le_refl _⟩ _ rfl (Nat.le_of_ble_eq_true rfl) dX12_fewest_1 ?_
  show Go V Γ M_X12_fewest (Zm V Γ 5 fin) 4 [(0, .ref (V.2.2.1 + 92))] [.int r2] σ3
  refine g_if_eq (pc := 4) (tgt := 21) X dX12_fewest_4 rfl (fun c15 => ?_) (fun c15 => ?_)
  · replace h := if_t c15 h
    refine g_aload_n (pc := 21) X 0 rfl dX12_fewest_21 ?_
    refine g_bipush (v := 7) (pc := 22) X (by decide) dX12_fewest_22 ?_
    obtain ⟨r5, σ6, hc4, h⟩ := bd2_e h
    refine g_callV (pc := 24) X k_ml_X12_88 (run_Mo_refuse  hc4) s_92 rfl (room_ok (Nat.le_of_ble_eq_true rfl) (Nat.le_of_ble_eq_true rfl)) ⟨Nat.le_refl _, Nat.le_refl _⟩ _ rfl (Nat.le_of_ble_eq_true rfl) dX12_fewest_24 ?_
    show Go V Γ M_X12_fewest (Zm V Γ 5 fin) 27 [(0, .ref (V.2.2.1 + 92))] [.int r5] σ6
    cases h
    exact g_iret (pc := 27) X rfl rfl (hr _ _ hA) dX12_fewest_27
  · replace h := if_f c15 h
    refine g_aload_n (pc := 7) X 0 rfl dX12_fewest_7 ?_
    refine g_aload_n (pc := 8) X 0 rfl dX12_fewest_8 ?_
    obtain ⟨r8, σ9, hc7, h⟩ := bd2_e h
    refine g_callV (pc := 9) X k_ml_X12_336 (run_Mo_fewestNow  hc7) s_92 rfl (room_ok (Nat.le_of_ble_eq_true rfl) (Nat.le_of_ble_eq_true rfl)) ⟨Nat.le_refl _, Nat.le_refl _⟩ _ rfl (Nat.le_of_ble_eq_true rfl) dX12_fewest_9 ?_
    show Go V Γ M_X12_fewest (Zm V Γ 5 fin) 12 [(0, .ref (V.2.2.1 + 92))] [.int r8, .ref (V.2.2.1 + 92)] σ9
    obtain ⟨r11, hc10, h⟩ := bd_e h
    refine g_callS (pc := 12) X k_ml_X12_333 (run_Mo_bits  hc10) rfl (room_ok (Nat.le_of_ble_eq_true rfl) (Nat.le_of_ble_eq_true rfl)) ⟨Nat.le_refl _, Nat.le_refl _⟩ _ rfl (Nat.le_of_ble_eq_true rfl) dX12_fewest_12 ?_
    show Go V Γ M_X12_fewest (Zm V Γ 5 fin) 15 [(0, .ref (V.2.2.1 + 92))] [.int r11, .ref (V.2.2.1 + 92)] σ9
    obtain ⟨r13, σ14, hc12, h⟩ := bd2_e h
    refine g_callV (pc := 15) X k_ml_X12_92 (run_Mo_gives  hc12) s_92 rfl (room_ok (Nat.le_of_ble_eq_true rfl) (Nat.le_of_ble_eq_true rfl)) ⟨Nat.le_refl _, Nat.le_refl _⟩ _ rfl (Nat.le_of_ble_eq_true rfl) dX12_fewest_15 ?_
    show Go V Γ M_X12_fewest (Zm V Γ 5 fin) 18 [(0, .ref (V.2.2.1 + 92))] [.int r13] σ14
    refine g_goto (pc := 18) (tgt := 27) X dX12_fewest_18 rfl ?_
    cases h
    exact g_iret (pc := 27) X rfl rfl (hr _ _ hA) dX12_fewest_27
set_option maxRecDepth 100000 in
theorem run_Mo_fewest {V : Ev} {σ : St} {o : (Int32 × St)}   (h : Mo_fewest σ = some o) : Rs V 5 M_X12_fewest [.ref (V.2.2.1 + 92)] σ (some (.int o.1), o.2) := by
  refine Rs.of (by decide +kernel) (Nat.le_of_ble_eq_true rfl) (fun Γ X => ?_)
  exact tm_Mo_fewest X (A := fun o1 => o1 = o)  (fun _ _ e => by rw [← e]) h rfl
theorem dX12_fewestSet_0 : decode cX12_fewestSet 0 = .ok (.aload_n 0, 1) := by decide +kernel
theorem dX12_fewestSet_1 : decode cX12_fewestSet 1 = .ok (.invokevirtual 274, 3) := by decide +kernel
theorem dX12_fewestSet_4 : decode cX12_fewestSet 4 = .ok (.ifCond .eq 14, 3) := by decide +kernel
theorem dX12_fewestSet_7 : decode cX12_fewestSet 7 = .ok (.aload_n 0, 1) := by decide +kernel
theorem dX12_fewestSet_8 : decode cX12_fewestSet 8 = .ok (.aload_n 0, 1) := by decide +kernel
theorem dX12_fewestSet_9 : decode cX12_fewestSet 9 = .ok (.invokevirtual 336, 3) := by decide +kernel
theorem dX12_fewestSet_12 : decode cX12_fewestSet 12 = .ok (.invokevirtual 92, 3) := by decide +kernel
theorem dX12_fewestSet_15 : decode cX12_fewestSet 15 = .ok (.goto 9, 3) := by decide +kernel
theorem dX12_fewestSet_18 : decode cX12_fewestSet 18 = .ok (.aload_n 0, 1) := by decide +kernel
theorem dX12_fewestSet_19 : decode cX12_fewestSet 19 = .ok (.bipush 7, 2) := by decide +kernel
theorem dX12_fewestSet_21 : decode cX12_fewestSet 21 = .ok (.invokevirtual 88, 3) := by decide +kernel
theorem dX12_fewestSet_24 : decode cX12_fewestSet 24 = .ok (.ireturn, 1) := by decide +kernel
noncomputable def Mo_fewestSet (σ : St) : Option (Int32 × St) :=
  bd2 (Mo_laysNow σ) (fun r2 σ3 => if r2 = 0 then (bd2 (Mo_refuse σ3 7) (fun r5 σ6 => some (r5, σ6))) else (bd2 (Mo_fewestNow σ3) (fun r8 σ9 => bd2 (Mo_gives σ9 r8) (fun r11 σ12 => some (r11, σ12)))))
set_option maxRecDepth 100000 in
set_option maxHeartbeats 4000000 in
theorem tm_Mo_fewestSet {V : Ev} {Γ : Cn} {fin : Option Value × St} {σ : St} {o : (Int32 × St)} (X : Cx V Γ M_X12_fewestSet) {A : (Int32 × St) → Prop}  (hr : ∀ (r : Int32) (σ9 : St), A (r, σ9) → (some (.int r), σ9) = fin) (h : Mo_fewestSet σ = some o) (hA : A o) : Go V Γ M_X12_fewestSet (Zm V Γ 5 fin) 0 [(0, .ref (V.2.2.1 + 92))] [] σ := by
  unfold Mo_fewestSet at h
  refine g_aload_n (pc := 0) X 0 rfl dX12_fewestSet_0 ?_
  obtain ⟨r2, σ3, hc1, h⟩ := bd2_e h
  refine g_callV (pc := 1) X k_ml_X12_274 (run_Mo_laysNow  hc1) s_92 rfl (room_ok (Nat.le_of_ble_eq_true rfl) (Nat.le_of_ble_eq_true rfl)) ⟨Nat.le_refl _, Nat.le_refl _⟩ _ rfl (Nat.le_of_ble_eq_true rfl) dX12_fewestSet_1 ?_
  show Go V Γ M_X12_fewestSet (Zm V Γ 5 fin) 4 [(0, .ref (V.2.2.1 + 92))] [.int r2] σ3
  refine g_if_eq (pc := 4) (tgt := 18) X dX12_fewestSet_4 rfl (fun c13 => ?_) (fun c13 => ?_)
  · replace h := if_t c13 h
    refine g_aload_n (pc := 18) X 0 rfl dX12_fewestSet_18 ?_
    refine g_bipush (v := 7) (pc := 19) X (by decide) dX12_fewestSet_19 ?_
    obtain ⟨r5, σ6, hc4, h⟩ := bd2_e h
    refine g_callV (pc := 21) X k_ml_X12_88 (run_Mo_refuse  hc4) s_92 rfl (room_ok (Nat.le_of_ble_eq_true rfl) (Nat.le_of_ble_eq_true rfl)) ⟨Nat.le_refl _, Nat.le_refl _⟩ _ rfl (Nat.le_of_ble_eq_true rfl) dX12_fewestSet_21 ?_
    show Go V Γ M_X12_fewestSet (Zm V Γ 5 fin) 24 [(0, .ref (V.2.2.1 + 92))] [.int r5] σ6
    cases h
    exact g_iret (pc := 24) X rfl rfl (hr _ _ hA) dX12_fewestSet_24
  · replace h := if_f c13 h
    refine g_aload_n (pc := 7) X 0 rfl dX12_fewestSet_7 ?_
    refine g_aload_n (pc := 8) X 0 rfl dX12_fewestSet_8 ?_
    obtain ⟨r8, σ9, hc7, h⟩ := bd2_e h
    refine g_callV (pc := 9) X k_ml_X12_336 (run_Mo_fewestNow  hc7) s_92 rfl (room_ok (Nat.le_of_ble_eq_true rfl) (Nat.le_of_ble_eq_true rfl)) ⟨Nat.le_refl _, Nat.le_refl _⟩ _ rfl (Nat.le_of_ble_eq_true rfl) dX12_fewestSet_9 ?_
    show Go V Γ M_X12_fewestSet (Zm V Γ 5 fin) 12 [(0, .ref (V.2.2.1 + 92))] [.int r8, .ref (V.2.2.1 + 92)] σ9
    obtain ⟨r11, σ12, hc10, h⟩ := bd2_e h
    refine g_callV (pc := 12) X k_ml_X12_92 (run_Mo_gives  hc10) s_92 rfl (room_ok (Nat.le_of_ble_eq_true rfl) (Nat.le_of_ble_eq_true rfl)) ⟨Nat.le_refl _, Nat.le_refl _⟩ _ rfl (Nat.le_of_ble_eq_true rfl) dX12_fewestSet_12 ?_
    show Go V Γ M_X12_fewestSet (Zm V Γ 5 fin) 15 [(0, .ref (V.2.2.1 + 92))] [.int r11] σ12
    refine g_goto (pc := 15) (tgt := 24) X dX12_fewestSet_15 rfl ?_
    cases h
    exact g_iret (pc := 24) X rfl rfl (hr _ _ hA) dX12_fewestSet_24
set_option maxRecDepth 100000 in
theorem run_Mo_fewestSet {V : Ev} {σ : St} {o : (Int32 × St)}   (h : Mo_fewestSet σ = some o) : Rs V 5 M_X12_fewestSet [.ref (V.2.2.1 + 92)] σ (some (.int o.1), o.2) := by
  refine Rs.of (by decide +kernel) (Nat.le_of_ble_eq_true rfl) (fun Γ X => ?_)
  exact tm_Mo_fewestSet X (A := fun o1 => o1 = o)  (fun _ _ e => by rw [← e]) h rfl
theorem dX12_meet_0 : decode cX12_meet 0 = .ok (.aload_n 0, 1) := by decide +kernel
theorem dX12_meet_1 : decode cX12_meet 1 = .ok (.iload_n 1, 1) := by decide +kernel
theorem dX12_meet_2 : decode cX12_meet 2 = .ok (.invokevirtual 286, 3) := by decide +kernel
theorem dX12_meet_5 : decode cX12_meet 5 = .ok (.ifCond .eq 16, 3) := by decide +kernel
theorem dX12_meet_8 : decode cX12_meet 8 = .ok (.aload_n 0, 1) := by decide +kernel
theorem dX12_meet_9 : decode cX12_meet 9 = .ok (.iload_n 2, 1) := by decide +kernel
theorem dX12_meet_10 : decode cX12_meet 10 = .ok (.invokevirtual 286, 3) := by decide +kernel
theorem dX12_meet_13 : decode cX12_meet 13 = .ok (.ifCond .eq 8, 3) := by decide +kernel
theorem dX12_meet_16 : decode cX12_meet 16 = .ok (.iload_n 1, 1) := by decide +kernel
theorem dX12_meet_17 : decode cX12_meet 17 = .ok (.iload_n 2, 1) := by decide +kernel
theorem dX12_meet_18 : decode cX12_meet 18 = .ok (.if_icmp .ne 9, 3) := by decide +kernel
theorem dX12_meet_21 : decode cX12_meet 21 = .ok (.aload_n 0, 1) := by decide +kernel
theorem dX12_meet_22 : decode cX12_meet 22 = .ok (.iconst 1, 1) := by decide +kernel
theorem dX12_meet_23 : decode cX12_meet 23 = .ok (.invokevirtual 88, 3) := by decide +kernel
theorem dX12_meet_26 : decode cX12_meet 26 = .ok (.ireturn, 1) := by decide +kernel
theorem dX12_meet_27 : decode cX12_meet 27 = .ok (.iconst 0, 1) := by decide +kernel
theorem dX12_meet_28 : decode cX12_meet 28 = .ok (.istore_n 3, 1) := by decide +kernel
theorem dX12_meet_29 : decode cX12_meet 29 = .ok (.iload_n 3, 1) := by decide +kernel
theorem dX12_meet_30 : decode cX12_meet 30 = .ok (.aload_n 0, 1) := by decide +kernel
theorem dX12_meet_31 : decode cX12_meet 31 = .ok (.iload_n 1, 1) := by decide +kernel
theorem dX12_meet_32 : decode cX12_meet 32 = .ok (.invokevirtual 244, 3) := by decide +kernel
theorem dX12_meet_35 : decode cX12_meet 35 = .ok (.aload_n 0, 1) := by decide +kernel
theorem dX12_meet_36 : decode cX12_meet 36 = .ok (.iload_n 2, 1) := by decide +kernel
theorem dX12_meet_37 : decode cX12_meet 37 = .ok (.invokevirtual 244, 3) := by decide +kernel
theorem dX12_meet_40 : decode cX12_meet 40 = .ok (.imul, 1) := by decide +kernel
theorem dX12_meet_41 : decode cX12_meet 41 = .ok (.if_icmp .ge 45, 3) := by decide +kernel
theorem dX12_meet_44 : decode cX12_meet 44 = .ok (.iload_n 3, 1) := by decide +kernel
theorem dX12_meet_45 : decode cX12_meet 45 = .ok (.aload_n 0, 1) := by decide +kernel
theorem dX12_meet_46 : decode cX12_meet 46 = .ok (.iload_n 1, 1) := by decide +kernel
theorem dX12_meet_47 : decode cX12_meet 47 = .ok (.invokevirtual 244, 3) := by decide +kernel
theorem dX12_meet_50 : decode cX12_meet 50 = .ok (.irem, 1) := by decide +kernel
theorem dX12_meet_51 : decode cX12_meet 51 = .ok (.aload_n 0, 1) := by decide +kernel
theorem dX12_meet_52 : decode cX12_meet 52 = .ok (.iload_n 1, 1) := by decide +kernel
theorem dX12_meet_53 : decode cX12_meet 53 = .ok (.invokevirtual 256, 3) := by decide +kernel
theorem dX12_meet_56 : decode cX12_meet 56 = .ok (.if_icmp .ne 24, 3) := by decide +kernel
theorem dX12_meet_59 : decode cX12_meet 59 = .ok (.iload_n 3, 1) := by decide +kernel
theorem dX12_meet_60 : decode cX12_meet 60 = .ok (.aload_n 0, 1) := by decide +kernel
theorem dX12_meet_61 : decode cX12_meet 61 = .ok (.iload_n 2, 1) := by decide +kernel
theorem dX12_meet_62 : decode cX12_meet 62 = .ok (.invokevirtual 244, 3) := by decide +kernel
theorem dX12_meet_65 : decode cX12_meet 65 = .ok (.irem, 1) := by decide +kernel
theorem dX12_meet_66 : decode cX12_meet 66 = .ok (.aload_n 0, 1) := by decide +kernel
theorem dX12_meet_67 : decode cX12_meet 67 = .ok (.iload_n 2, 1) := by decide +kernel
theorem dX12_meet_68 : decode cX12_meet 68 = .ok (.invokevirtual 256, 3) := by decide +kernel
theorem dX12_meet_71 : decode cX12_meet 71 = .ok (.if_icmp .ne 9, 3) := by decide +kernel
theorem dX12_meet_74 : decode cX12_meet 74 = .ok (.aload_n 0, 1) := by decide +kernel
theorem dX12_meet_75 : decode cX12_meet 75 = .ok (.iload_n 3, 1) := by decide +kernel
theorem dX12_meet_76 : decode cX12_meet 76 = .ok (.invokevirtual 92, 3) := by decide +kernel
theorem dX12_meet_79 : decode cX12_meet 79 = .ok (.ireturn, 1) := by decide +kernel
theorem dX12_meet_80 : decode cX12_meet 80 = .ok (.iinc 3 1, 3) := by decide +kernel
theorem dX12_meet_83 : decode cX12_meet 83 = .ok (.goto (-54), 3) := by decide +kernel
theorem dX12_meet_86 : decode cX12_meet 86 = .ok (.aload_n 0, 1) := by decide +kernel
theorem dX12_meet_87 : decode cX12_meet 87 = .ok (.bipush 6, 2) := by decide +kernel
theorem dX12_meet_89 : decode cX12_meet 89 = .ok (.invokevirtual 88, 3) := by decide +kernel
theorem dX12_meet_92 : decode cX12_meet 92 = .ok (.ireturn, 1) := by decide +kernel
noncomputable def Mo_meet_L29 (l1 : Int32) (l2 : Int32) (σ : St) (x3 : Int32) : Option (Int32 ⊕ (Int32 × St)) :=
  bd (Mo_modulusOf σ l1) (fun r12 => bd (Mo_modulusOf σ l2) (fun r14 => if (r12 * r14) ≤ x3 then (bd2 (Mo_refuse σ 6) (fun r16 σ17 => some (.inr (r16, σ17)))) else (bd (Mo_modulusOf σ l1) (fun r19 => chk (nzI r19) (bd (Mo_restOf σ l1) (fun r22 => if (jrem x3 r19) = r22 then (bd (Mo_modulusOf σ l2) (fun r25 => chk (nzI r25) (bd (Mo_restOf σ l2) (fun r28 => if (jrem x3 r25) = r28 then (bd2 (Mo_gives σ x3) (fun r31 σ32 => some (.inr (r31, σ32)))) else (bnd (x3 + 1) (fun v29 => some (.inl v29))))))) else (bnd (x3 + 1) (fun v23 => some (.inl v23)))))))))
set_option maxRecDepth 100000 in
set_option maxHeartbeats 4000000 in
theorem tb_Mo_meet_L29 {V : Ev} {Γ : Cn} {fin : Option Value × St} {l1 : Int32} {l2 : Int32} {σ : St} {x3 : Int32} {o : (Int32 ⊕ (Int32 × St))} (X : Cx V Γ M_X12_meet) {A : (Int32 ⊕ (Int32 × St)) → Prop}  (hr : ∀ (r : Int32) (σ9 : St), A (.inr (r, σ9)) → (some (.int r), σ9) = fin) (hb29 : ∀ (x3 : Int32), A (.inl x3) → Go V Γ M_X12_meet (Zm V Γ 2 fin) 29 [(0, .ref (V.2.2.1 + 92)), (1, .int l1), (2, .int l2), (3, .int x3)] [] σ) (h : Mo_meet_L29 l1 l2 σ x3 = some o) (hA : A o) : Go V Γ M_X12_meet (Zm V Γ 2 fin) 29 [(0, .ref (V.2.2.1 + 92)), (1, .int l1), (2, .int l2), (3, .int x3)] [] σ := by
  unfold Mo_meet_L29 at h
  refine g_iload_n (pc := 29) X 3 rfl dX12_meet_29 ?_
  refine g_aload_n (pc := 30) X 0 rfl dX12_meet_30 ?_
  refine g_iload_n (pc := 31) X 1 rfl dX12_meet_31 ?_
  obtain ⟨r12, hc11, h⟩ := bd_e h
  refine g_callV (pc := 32) X k_ml_X12_244 (run_Mo_modulusOf  hc11) s_92 rfl (room_ok (Nat.le_of_ble_eq_true rfl) (Nat.le_of_ble_eq_true rfl)) ⟨Nat.le_refl _, Nat.le_refl _⟩ _ rfl (Nat.le_of_ble_eq_true rfl) dX12_meet_32 ?_
  show Go V Γ M_X12_meet (Zm V Γ 2 fin) 35 [(0, .ref (V.2.2.1 + 92)), (1, .int l1), (2, .int l2), (3, .int x3)] [.int r12, .int x3] σ
  refine g_aload_n (pc := 35) X 0 rfl dX12_meet_35 ?_
  refine g_iload_n (pc := 36) X 2 rfl dX12_meet_36 ?_
  obtain ⟨r14, hc13, h⟩ := bd_e h
  refine g_callV (pc := 37) X k_ml_X12_244 (run_Mo_modulusOf  hc13) s_92 rfl (room_ok (Nat.le_of_ble_eq_true rfl) (Nat.le_of_ble_eq_true rfl)) ⟨Nat.le_refl _, Nat.le_refl _⟩ _ rfl (Nat.le_of_ble_eq_true rfl) dX12_meet_37 ?_
  show Go V Γ M_X12_meet (Zm V Γ 2 fin) 40 [(0, .ref (V.2.2.1 + 92)), (1, .int l1), (2, .int l2), (3, .int x3)] [.int r14, .int r12, .int x3] σ
  refine g_imul (pc := 40) X dX12_meet_40 ?_
  refine g_icmp_ge (pc := 41) (tgt := 86) X dX12_meet_41 rfl (fun c35 => ?_) (fun c35 => ?_)
  · replace h := if_t c35 h
    refine g_aload_n (pc := 86) X 0 rfl dX12_meet_86 ?_
    refine g_bipush (v := 6) (pc := 87) X (by decide) dX12_meet_87 ?_
    obtain ⟨r16, σ17, hc15, h⟩ := bd2_e h
    refine g_callV (pc := 89) X k_ml_X12_88 (run_Mo_refuse  hc15) s_92 rfl (room_ok (Nat.le_of_ble_eq_true rfl) (Nat.le_of_ble_eq_true rfl)) ⟨Nat.le_refl _, Nat.le_refl _⟩ _ rfl (Nat.le_of_ble_eq_true rfl) dX12_meet_89 ?_
    show Go V Γ M_X12_meet (Zm V Γ 2 fin) 92 [(0, .ref (V.2.2.1 + 92)), (1, .int l1), (2, .int l2), (3, .int x3)] [.int r16] σ17
    cases h
    exact g_iret (pc := 92) X rfl rfl (hr _ _ hA) dX12_meet_92
  · replace h := if_f c35 h
    refine g_iload_n (pc := 44) X 3 rfl dX12_meet_44 ?_
    refine g_aload_n (pc := 45) X 0 rfl dX12_meet_45 ?_
    refine g_iload_n (pc := 46) X 1 rfl dX12_meet_46 ?_
    obtain ⟨r19, hc18, h⟩ := bd_e h
    refine g_callV (pc := 47) X k_ml_X12_244 (run_Mo_modulusOf  hc18) s_92 rfl (room_ok (Nat.le_of_ble_eq_true rfl) (Nat.le_of_ble_eq_true rfl)) ⟨Nat.le_refl _, Nat.le_refl _⟩ _ rfl (Nat.le_of_ble_eq_true rfl) dX12_meet_47 ?_
    show Go V Γ M_X12_meet (Zm V Γ 2 fin) 50 [(0, .ref (V.2.2.1 + 92)), (1, .int l1), (2, .int l2), (3, .int x3)] [.int r19, .int x3] σ
    obtain ⟨c20, h⟩ := chk_e h
    refine g_irem (pc := 50) X (nzI_e c20) dX12_meet_50 ?_
    refine g_aload_n (pc := 51) X 0 rfl dX12_meet_51 ?_
    refine g_iload_n (pc := 52) X 1 rfl dX12_meet_52 ?_
    obtain ⟨r22, hc21, h⟩ := bd_e h
    refine g_callV (pc := 53) X k_ml_X12_256 (run_Mo_restOf  hc21) s_92 rfl (room_ok (Nat.le_of_ble_eq_true rfl) (Nat.le_of_ble_eq_true rfl)) ⟨Nat.le_refl _, Nat.le_refl _⟩ _ rfl (Nat.le_of_ble_eq_true rfl) dX12_meet_53 ?_
    show Go V Γ M_X12_meet (Zm V Γ 2 fin) 56 [(0, .ref (V.2.2.1 + 92)), (1, .int l1), (2, .int l2), (3, .int x3)] [.int r22, .int (jrem x3 r19)] σ
    refine g_icmp_ne (pc := 56) (tgt := 80) X dX12_meet_56 rfl (fun c34 => ?_) (fun c34 => ?_)
    · replace h := if_f c34 h
      obtain ⟨v23, e_v23, h⟩ := bnd_e h
      refine g_iinc (pc := 80) (v := v23) X [(3, .int v23), (0, .ref (V.2.2.1 + 92)), (1, .int l1), (2, .int l2)] 3 rfl (by rw [e_v23]; rfl) (Nat.le_of_ble_eq_true rfl) rfl dX12_meet_80 ?_
      refine g_goto (pc := 83) (tgt := 29) X dX12_meet_83 rfl ?_
      refine g_sub [1, 2, 3, 0] rfl ?_
      cases h
      exact hb29 _ hA
    · replace h := if_t c34 h
      refine g_iload_n (pc := 59) X 3 rfl dX12_meet_59 ?_
      refine g_aload_n (pc := 60) X 0 rfl dX12_meet_60 ?_
      refine g_iload_n (pc := 61) X 2 rfl dX12_meet_61 ?_
      obtain ⟨r25, hc24, h⟩ := bd_e h
      refine g_callV (pc := 62) X k_ml_X12_244 (run_Mo_modulusOf  hc24) s_92 rfl (room_ok (Nat.le_of_ble_eq_true rfl) (Nat.le_of_ble_eq_true rfl)) ⟨Nat.le_refl _, Nat.le_refl _⟩ _ rfl (Nat.le_of_ble_eq_true rfl) dX12_meet_62 ?_
      show Go V Γ M_X12_meet (Zm V Γ 2 fin) 65 [(0, .ref (V.2.2.1 + 92)), (1, .int l1), (2, .int l2), (3, .int x3)] [.int r25, .int x3] σ
      obtain ⟨c26, h⟩ := chk_e h
      refine g_irem (pc := 65) X (nzI_e c26) dX12_meet_65 ?_
      refine g_aload_n (pc := 66) X 0 rfl dX12_meet_66 ?_
      refine g_iload_n (pc := 67) X 2 rfl dX12_meet_67 ?_
      obtain ⟨r28, hc27, h⟩ := bd_e h
      refine g_callV (pc := 68) X k_ml_X12_256 (run_Mo_restOf  hc27) s_92 rfl (room_ok (Nat.le_of_ble_eq_true rfl) (Nat.le_of_ble_eq_true rfl)) ⟨Nat.le_refl _, Nat.le_refl _⟩ _ rfl (Nat.le_of_ble_eq_true rfl) dX12_meet_68 ?_
      show Go V Γ M_X12_meet (Zm V Γ 2 fin) 71 [(0, .ref (V.2.2.1 + 92)), (1, .int l1), (2, .int l2), (3, .int x3)] [.int r28, .int (jrem x3 r25)] σ
      refine g_icmp_ne (pc := 71) (tgt := 80) X dX12_meet_71 rfl (fun c33 => ?_) (fun c33 => ?_)
      · replace h := if_f c33 h
        obtain ⟨v29, e_v29, h⟩ := bnd_e h
        refine g_iinc (pc := 80) (v := v29) X [(3, .int v29), (0, .ref (V.2.2.1 + 92)), (1, .int l1), (2, .int l2)] 3 rfl (by rw [e_v29]; rfl) (Nat.le_of_ble_eq_true rfl) rfl dX12_meet_80 ?_
        refine g_goto (pc := 83) (tgt := 29) X dX12_meet_83 rfl ?_
        refine g_sub [1, 2, 3, 0] rfl ?_
        cases h
        exact hb29 _ hA
      · replace h := if_t c33 h
        refine g_aload_n (pc := 74) X 0 rfl dX12_meet_74 ?_
        refine g_iload_n (pc := 75) X 3 rfl dX12_meet_75 ?_
        obtain ⟨r31, σ32, hc30, h⟩ := bd2_e h
        refine g_callV (pc := 76) X k_ml_X12_92 (run_Mo_gives  hc30) s_92 rfl (room_ok (Nat.le_of_ble_eq_true rfl) (Nat.le_of_ble_eq_true rfl)) ⟨Nat.le_refl _, Nat.le_refl _⟩ _ rfl (Nat.le_of_ble_eq_true rfl) dX12_meet_76 ?_
        show Go V Γ M_X12_meet (Zm V Γ 2 fin) 79 [(0, .ref (V.2.2.1 + 92)), (1, .int l1), (2, .int l2), (3, .int x3)] [.int r31] σ32
        cases h
        exact g_iret (pc := 79) X rfl rfl (hr _ _ hA) dX12_meet_79
set_option maxRecDepth 100000 in
theorem tl_Mo_meet_L29 {V : Ev} {Γ : Cn} {fin : Option Value × St} {l1 : Int32} {l2 : Int32} {σ : St} {x3 : Int32} (X : Cx V Γ M_X12_meet)  {e : (Int32 × St)} {A : (Int32 × St) → Prop} (hr : ∀ (r : Int32) (σ9 : St), A (r, σ9) → (some (.int r), σ9) = fin) {n : Nat} (h : iter (fun s : Int32 => Mo_meet_L29 l1 l2 σ s) n x3 = some e) (hA : A e) : Go V Γ M_X12_meet (Zm V Γ 2 fin) 29 [(0, .ref (V.2.2.1 + 92)), (1, .int l1), (2, .int l2), (3, .int x3)] [] σ := by
  refine iter_go (G := (fun s : Int32 => Go V Γ M_X12_meet (Zm V Γ 2 fin) 29 [(0, .ref (V.2.2.1 + 92)), (1, .int l1), (2, .int l2), (3, .int s)] [] σ)) (fun s o ho hS => ?_) n x3 h
  exact tb_Mo_meet_L29 X  (fun z0 z1 he => hr z0 z1 (by rw [he]; exact hA)) (fun _ h9 => h9) ho hS
noncomputable def Mo_meet (σ : St) (p1 : Int32) (p2 : Int32) : Option (Int32 × St) :=
  bd (Mo_isClass σ p1) (fun r2 => if r2 = 0 then (bd2 (Mo_refuse σ 1) (fun r4 σ5 => some (r4, σ5))) else (bd (Mo_isClass σ p2) (fun r7 => if r7 = 0 then (bd2 (Mo_refuse σ 1) (fun r9 σ10 => some (r9, σ10))) else (if p1 = p2 then (bd2 (Mo_refuse σ 1) (fun r37 σ38 => some (r37, σ38))) else (iter (fun s : Int32 => Mo_meet_L29 p1 p2 σ s) FUEL 0)))))
set_option maxRecDepth 100000 in
set_option maxHeartbeats 4000000 in
theorem tm_Mo_meet {V : Ev} {Γ : Cn} {fin : Option Value × St} {σ : St} {p1 : Int32} {p2 : Int32} {o : (Int32 × St)} (X : Cx V Γ M_X12_meet) {A : (Int32 × St) → Prop}  (hr : ∀ (r : Int32) (σ9 : St), A (r, σ9) → (some (.int r), σ9) = fin) (h : Mo_meet σ p1 p2 = some o) (hA : A o) : Go V Γ M_X12_meet (Zm V Γ 2 fin) 0 [(0, .ref (V.2.2.1 + 92)), (1, .int p1), (2, .int p2)] [] σ := by
  unfold Mo_meet at h
  refine g_aload_n (pc := 0) X 0 rfl dX12_meet_0 ?_
  refine g_iload_n (pc := 1) X 1 rfl dX12_meet_1 ?_
  obtain ⟨r2, hc1, h⟩ := bd_e h
  refine g_callV (pc := 2) X k_ml_X12_286 (run_Mo_isClass  hc1) s_92 rfl (room_ok (Nat.le_of_ble_eq_true rfl) (Nat.le_of_ble_eq_true rfl)) ⟨Nat.le_refl _, Nat.le_refl _⟩ _ rfl (Nat.le_of_ble_eq_true rfl) dX12_meet_2 ?_
  show Go V Γ M_X12_meet (Zm V Γ 2 fin) 5 [(0, .ref (V.2.2.1 + 92)), (1, .int p1), (2, .int p2)] [.int r2] σ
  refine g_if_eq (pc := 5) (tgt := 21) X dX12_meet_5 rfl (fun c41 => ?_) (fun c41 => ?_)
  · replace h := if_t c41 h
    refine g_aload_n (pc := 21) X 0 rfl dX12_meet_21 ?_
    refine g_iconst (v := 1) (pc := 22) X rfl dX12_meet_22 ?_
    obtain ⟨r4, σ5, hc3, h⟩ := bd2_e h
    refine g_callV (pc := 23) X k_ml_X12_88 (run_Mo_refuse  hc3) s_92 rfl (room_ok (Nat.le_of_ble_eq_true rfl) (Nat.le_of_ble_eq_true rfl)) ⟨Nat.le_refl _, Nat.le_refl _⟩ _ rfl (Nat.le_of_ble_eq_true rfl) dX12_meet_23 ?_
    show Go V Γ M_X12_meet (Zm V Γ 2 fin) 26 [(0, .ref (V.2.2.1 + 92)), (1, .int p1), (2, .int p2)] [.int r4] σ5
    cases h
    exact g_iret (pc := 26) X rfl rfl (hr _ _ hA) dX12_meet_26
  · replace h := if_f c41 h
    refine g_aload_n (pc := 8) X 0 rfl dX12_meet_8 ?_
    refine g_iload_n (pc := 9) X 2 rfl dX12_meet_9 ?_
    obtain ⟨r7, hc6, h⟩ := bd_e h
    refine g_callV (pc := 10) X k_ml_X12_286 (run_Mo_isClass  hc6) s_92 rfl (room_ok (Nat.le_of_ble_eq_true rfl) (Nat.le_of_ble_eq_true rfl)) ⟨Nat.le_refl _, Nat.le_refl _⟩ _ rfl (Nat.le_of_ble_eq_true rfl) dX12_meet_10 ?_
    show Go V Γ M_X12_meet (Zm V Γ 2 fin) 13 [(0, .ref (V.2.2.1 + 92)), (1, .int p1), (2, .int p2)] [.int r7] σ
    refine g_if_eq (pc := 13) (tgt := 21) X dX12_meet_13 rfl (fun c40 => ?_) (fun c40 => ?_)
    · replace h := if_t c40 h
      refine g_aload_n (pc := 21) X 0 rfl dX12_meet_21 ?_
      refine g_iconst (v := 1) (pc := 22) X rfl dX12_meet_22 ?_
      obtain ⟨r9, σ10, hc8, h⟩ := bd2_e h
      refine g_callV (pc := 23) X k_ml_X12_88 (run_Mo_refuse  hc8) s_92 rfl (room_ok (Nat.le_of_ble_eq_true rfl) (Nat.le_of_ble_eq_true rfl)) ⟨Nat.le_refl _, Nat.le_refl _⟩ _ rfl (Nat.le_of_ble_eq_true rfl) dX12_meet_23 ?_
      show Go V Γ M_X12_meet (Zm V Γ 2 fin) 26 [(0, .ref (V.2.2.1 + 92)), (1, .int p1), (2, .int p2)] [.int r9] σ10
      cases h
      exact g_iret (pc := 26) X rfl rfl (hr _ _ hA) dX12_meet_26
    · replace h := if_f c40 h
      refine g_iload_n (pc := 16) X 1 rfl dX12_meet_16 ?_
      refine g_iload_n (pc := 17) X 2 rfl dX12_meet_17 ?_
      refine g_icmp_ne (pc := 18) (tgt := 27) X dX12_meet_18 rfl (fun c39 => ?_) (fun c39 => ?_)
      · replace h := if_f c39 h
        refine g_iconst (v := 0) (pc := 27) X rfl dX12_meet_27 ?_
        refine g_istore_n (pc := 28) X [(3, .int 0), (0, .ref (V.2.2.1 + 92)), (1, .int p1), (2, .int p2)] rfl (Nat.le_of_ble_eq_true rfl) rfl dX12_meet_28 ?_
        refine g_sub [1, 2, 3, 0] rfl ?_
        exact tl_Mo_meet_L29 X  hr h hA
      · replace h := if_t c39 h
        refine g_aload_n (pc := 21) X 0 rfl dX12_meet_21 ?_
        refine g_iconst (v := 1) (pc := 22) X rfl dX12_meet_22 ?_
        obtain ⟨r37, σ38, hc36, h⟩ := bd2_e h
        refine g_callV (pc := 23) X k_ml_X12_88 (run_Mo_refuse  hc36) s_92 rfl (room_ok (Nat.le_of_ble_eq_true rfl) (Nat.le_of_ble_eq_true rfl)) ⟨Nat.le_refl _, Nat.le_refl _⟩ _ rfl (Nat.le_of_ble_eq_true rfl) dX12_meet_23 ?_
        show Go V Γ M_X12_meet (Zm V Γ 2 fin) 26 [(0, .ref (V.2.2.1 + 92)), (1, .int p1), (2, .int p2)] [.int r37] σ38
        cases h
        exact g_iret (pc := 26) X rfl rfl (hr _ _ hA) dX12_meet_26
set_option maxRecDepth 100000 in
theorem run_Mo_meet {V : Ev} {σ : St} {p1 : Int32} {p2 : Int32} {o : (Int32 × St)}   (h : Mo_meet σ p1 p2 = some o) : Rs V 2 M_X12_meet [.ref (V.2.2.1 + 92), .int p1, .int p2] σ (some (.int o.1), o.2) := by
  refine Rs.of (by decide +kernel) (Nat.le_of_ble_eq_true rfl) (fun Γ X => ?_)
  exact tm_Mo_meet X (A := fun o1 => o1 = o)  (fun _ _ e => by rw [← e]) h rfl
theorem dX12_thickNow_0 : decode cX12_thickNow 0 = .ok (.iconst 0, 1) := by decide +kernel
theorem dX12_thickNow_1 : decode cX12_thickNow 1 = .ok (.istore_n 1, 1) := by decide +kernel
theorem dX12_thickNow_2 : decode cX12_thickNow 2 = .ok (.iconst 0, 1) := by decide +kernel
theorem dX12_thickNow_3 : decode cX12_thickNow 3 = .ok (.istore_n 2, 1) := by decide +kernel
theorem dX12_thickNow_4 : decode cX12_thickNow 4 = .ok (.iload_n 2, 1) := by decide +kernel
theorem dX12_thickNow_5 : decode cX12_thickNow 5 = .ok (.aload_n 0, 1) := by decide +kernel
theorem dX12_thickNow_6 : decode cX12_thickNow 6 = .ok (.getfield 253, 3) := by decide +kernel
theorem dX12_thickNow_9 : decode cX12_thickNow 9 = .ok (.if_icmp .ge 23, 3) := by decide +kernel
theorem dX12_thickNow_12 : decode cX12_thickNow 12 = .ok (.iload_n 1, 1) := by decide +kernel
theorem dX12_thickNow_13 : decode cX12_thickNow 13 = .ok (.aload_n 0, 1) := by decide +kernel
theorem dX12_thickNow_14 : decode cX12_thickNow 14 = .ok (.getfield 47, 3) := by decide +kernel
theorem dX12_thickNow_17 : decode cX12_thickNow 17 = .ok (.iload_n 2, 1) := by decide +kernel
theorem dX12_thickNow_18 : decode cX12_thickNow 18 = .ok (.iaload, 1) := by decide +kernel
theorem dX12_thickNow_19 : decode cX12_thickNow 19 = .ok (.invokestatic 333, 3) := by decide +kernel
theorem dX12_thickNow_22 : decode cX12_thickNow 22 = .ok (.invokestatic 313, 3) := by decide +kernel
theorem dX12_thickNow_25 : decode cX12_thickNow 25 = .ok (.istore_n 1, 1) := by decide +kernel
theorem dX12_thickNow_26 : decode cX12_thickNow 26 = .ok (.iinc 2 1, 3) := by decide +kernel
theorem dX12_thickNow_29 : decode cX12_thickNow 29 = .ok (.goto (-25), 3) := by decide +kernel
theorem dX12_thickNow_32 : decode cX12_thickNow 32 = .ok (.iload_n 1, 1) := by decide +kernel
theorem dX12_thickNow_33 : decode cX12_thickNow 33 = .ok (.ireturn, 1) := by decide +kernel
noncomputable def Mo_thickNow_L4 (σ : St) (x1 : Int32) (x2 : Int32) : Option ((Int32 × Int32) ⊕ Int32) :=
  if (σ.1 92 23) ≤ x2 then (some (.inr x1)) else (chk (ix x2 5040) (bd (Mo_bits (σ.1 101 (tn x2))) (fun r3 => bnd ((jmax x1 r3)) (fun v4 => bnd (x2 + 1) (fun v5 => some (.inl (v4, v5)))))))
set_option maxRecDepth 100000 in
set_option maxHeartbeats 4000000 in
theorem tb_Mo_thickNow_L4 {V : Ev} {Γ : Cn} {fin : Option Value × St} {σ : St} {x1 : Int32} {x2 : Int32} {o : ((Int32 × Int32) ⊕ Int32)} (X : Cx V Γ M_X12_thickNow) {A : ((Int32 × Int32) ⊕ Int32) → Prop}  (hb4 : ∀ (x1 : Int32) (x2 : Int32), A (.inl (x1, x2)) → Go V Γ M_X12_thickNow (Zm V Γ 1 fin) 4 [(0, .ref (V.2.2.1 + 92)), (1, .int x1), (2, .int x2)] [] σ) (hx4 : ∀ (x1 : Int32), A (.inr x1) → Go V Γ M_X12_thickNow (Zm V Γ 1 fin) 32 [(1, .int x1)] [] σ) (h : Mo_thickNow_L4 σ x1 x2 = some o) (hA : A o) : Go V Γ M_X12_thickNow (Zm V Γ 1 fin) 4 [(0, .ref (V.2.2.1 + 92)), (1, .int x1), (2, .int x2)] [] σ := by
  unfold Mo_thickNow_L4 at h
  refine g_iload_n (pc := 4) X 2 rfl dX12_thickNow_4 ?_
  refine g_aload_n (pc := 5) X 0 rfl dX12_thickNow_5 ?_
  refine g_getI (pc := 6) X k_fl_X12_253 s_92 rfl dX12_thickNow_6 ?_
  refine g_icmp_ge (pc := 9) (tgt := 32) X dX12_thickNow_9 rfl (fun c6 => ?_) (fun c6 => ?_)
  · replace h := if_t c6 h
    refine g_sub [1] rfl ?_
    cases h
    exact hx4 _ hA
  · replace h := if_f c6 h
    refine g_iload_n (pc := 12) X 1 rfl dX12_thickNow_12 ?_
    refine g_aload_n (pc := 13) X 0 rfl dX12_thickNow_13 ?_
    refine g_getR (r := 101) (pc := 14) X k_fl_X12_47 s_92 rfl dX12_thickNow_14 ?_
    refine g_iload_n (pc := 17) X 2 rfl dX12_thickNow_17 ?_
    obtain ⟨c1, h⟩ := chk_e h
    refine g_iald (pc := 18) X s_101 c1 dX12_thickNow_18 ?_
    obtain ⟨r3, hc2, h⟩ := bd_e h
    refine g_callS (pc := 19) X k_ml_X12_333 (run_Mo_bits  hc2) rfl (room_ok (Nat.le_of_ble_eq_true rfl) (Nat.le_of_ble_eq_true rfl)) ⟨Nat.le_refl _, Nat.le_refl _⟩ _ rfl (Nat.le_of_ble_eq_true rfl) dX12_thickNow_19 ?_
    show Go V Γ M_X12_thickNow (Zm V Γ 1 fin) 22 [(0, .ref (V.2.2.1 + 92)), (1, .int x1), (2, .int x2)] [.int r3, .int x1] σ
    refine g_max (pc := 22) X k_ml_X12_313 (Nat.le_of_ble_eq_true rfl) (Nat.le_of_ble_eq_true rfl) (Nat.le_refl _) (Nat.le_refl _) dX12_thickNow_22 ?_
    obtain ⟨v4, e_v4, h⟩ := bnd_e h
    refine g_nmI e_v4 ?_
    refine g_istore_n (pc := 25) X [(1, .int v4), (0, .ref (V.2.2.1 + 92)), (2, .int x2)] rfl (Nat.le_of_ble_eq_true rfl) rfl dX12_thickNow_25 ?_
    obtain ⟨v5, e_v5, h⟩ := bnd_e h
    refine g_iinc (pc := 26) (v := v5) X [(2, .int v5), (1, .int v4), (0, .ref (V.2.2.1 + 92))] 2 rfl (by rw [e_v5]; rfl) (Nat.le_of_ble_eq_true rfl) rfl dX12_thickNow_26 ?_
    refine g_goto (pc := 29) (tgt := 4) X dX12_thickNow_29 rfl ?_
    refine g_sub [2, 1, 0] rfl ?_
    cases h
    exact hb4 _ _ hA
set_option maxRecDepth 100000 in
theorem tl_Mo_thickNow_L4 {V : Ev} {Γ : Cn} {fin : Option Value × St} {σ : St} {x1 : Int32} {x2 : Int32} (X : Cx V Γ M_X12_thickNow)  {y1 : Int32} {n : Nat} (h : iter (fun s : (Int32 × Int32) => Mo_thickNow_L4 σ s.1 s.2) n (x1, x2) = some y1) (hK : Go V Γ M_X12_thickNow (Zm V Γ 1 fin) 32 [(1, .int y1)] [] σ) : Go V Γ M_X12_thickNow (Zm V Γ 1 fin) 4 [(0, .ref (V.2.2.1 + 92)), (1, .int x1), (2, .int x2)] [] σ := by
  refine iter_go (G := (fun s : (Int32 × Int32) => Go V Γ M_X12_thickNow (Zm V Γ 1 fin) 4 [(0, .ref (V.2.2.1 + 92)), (1, .int s.1), (2, .int s.2)] [] σ)) (fun s o ho hS => ?_) n (x1, x2) h
  exact tb_Mo_thickNow_L4 X  (fun _ _ h9 => h9) (fun _ he => by cases he; exact hK) ho hS
noncomputable def Mo_thickNow (σ : St) : Option Int32 :=
  bd (iter (fun s : (Int32 × Int32) => Mo_thickNow_L4 σ s.1 s.2) FUEL (0, 0)) (fun v7 => some v7)
set_option maxRecDepth 100000 in
set_option maxHeartbeats 4000000 in
theorem tm_Mo_thickNow {V : Ev} {Γ : Cn} {fin : Option Value × St} {σ : St} {o : Int32} (X : Cx V Γ M_X12_thickNow) {A : Int32 → Prop}  (hr : ∀ (r : Int32), A r → (some (.int r), σ) = fin) (h : Mo_thickNow σ = some o) (hA : A o) : Go V Γ M_X12_thickNow (Zm V Γ 1 fin) 0 [(0, .ref (V.2.2.1 + 92))] [] σ := by
  unfold Mo_thickNow at h
  refine g_iconst (v := 0) (pc := 0) X rfl dX12_thickNow_0 ?_
  refine g_istore_n (pc := 1) X [(1, .int 0), (0, .ref (V.2.2.1 + 92))] rfl (Nat.le_of_ble_eq_true rfl) rfl dX12_thickNow_1 ?_
  refine g_iconst (v := 0) (pc := 2) X rfl dX12_thickNow_2 ?_
  refine g_istore_n (pc := 3) X [(2, .int 0), (1, .int 0), (0, .ref (V.2.2.1 + 92))] rfl (Nat.le_of_ble_eq_true rfl) rfl dX12_thickNow_3 ?_
  refine g_sub [2, 1, 0] rfl ?_
  obtain ⟨v7, hi8, h⟩ := bd_e h
  refine tl_Mo_thickNow_L4 X  hi8 ?_
  refine g_iload_n (pc := 32) X 0 rfl dX12_thickNow_32 ?_
  cases h
  exact g_iret (pc := 33) X rfl rfl (hr _ hA) dX12_thickNow_33
set_option maxRecDepth 100000 in
theorem run_Mo_thickNow {V : Ev} {σ : St} {o : Int32}   (h : Mo_thickNow σ = some o) : Rs V 1 M_X12_thickNow [.ref (V.2.2.1 + 92)] σ (some (.int o), σ) := by
  refine Rs.of (by decide +kernel) (Nat.le_of_ble_eq_true rfl) (fun Γ X => ?_)
  exact tm_Mo_thickNow X (A := fun o1 => o1 = o)  (fun _ e => by rw [e]) h rfl
theorem dX12_thick_0 : decode cX12_thick 0 = .ok (.aload_n 0, 1) := by decide +kernel
theorem dX12_thick_1 : decode cX12_thick 1 = .ok (.invokevirtual 274, 3) := by decide +kernel
theorem dX12_thick_4 : decode cX12_thick 4 = .ok (.ifCond .eq 14, 3) := by decide +kernel
theorem dX12_thick_7 : decode cX12_thick 7 = .ok (.aload_n 0, 1) := by decide +kernel
theorem dX12_thick_8 : decode cX12_thick 8 = .ok (.aload_n 0, 1) := by decide +kernel
theorem dX12_thick_9 : decode cX12_thick 9 = .ok (.invokevirtual 339, 3) := by decide +kernel
theorem dX12_thick_12 : decode cX12_thick 12 = .ok (.invokevirtual 92, 3) := by decide +kernel
theorem dX12_thick_15 : decode cX12_thick 15 = .ok (.goto 9, 3) := by decide +kernel
theorem dX12_thick_18 : decode cX12_thick 18 = .ok (.aload_n 0, 1) := by decide +kernel
theorem dX12_thick_19 : decode cX12_thick 19 = .ok (.bipush 7, 2) := by decide +kernel
theorem dX12_thick_21 : decode cX12_thick 21 = .ok (.invokevirtual 88, 3) := by decide +kernel
theorem dX12_thick_24 : decode cX12_thick 24 = .ok (.ireturn, 1) := by decide +kernel
noncomputable def Mo_thick (σ : St) : Option (Int32 × St) :=
  bd2 (Mo_laysNow σ) (fun r2 σ3 => if r2 = 0 then (bd2 (Mo_refuse σ3 7) (fun r5 σ6 => some (r5, σ6))) else (bd (Mo_thickNow σ3) (fun r8 => bd2 (Mo_gives σ3 r8) (fun r10 σ11 => some (r10, σ11)))))
set_option maxRecDepth 100000 in
set_option maxHeartbeats 4000000 in
theorem tm_Mo_thick {V : Ev} {Γ : Cn} {fin : Option Value × St} {σ : St} {o : (Int32 × St)} (X : Cx V Γ M_X12_thick) {A : (Int32 × St) → Prop}  (hr : ∀ (r : Int32) (σ9 : St), A (r, σ9) → (some (.int r), σ9) = fin) (h : Mo_thick σ = some o) (hA : A o) : Go V Γ M_X12_thick (Zm V Γ 5 fin) 0 [(0, .ref (V.2.2.1 + 92))] [] σ := by
  unfold Mo_thick at h
  refine g_aload_n (pc := 0) X 0 rfl dX12_thick_0 ?_
  obtain ⟨r2, σ3, hc1, h⟩ := bd2_e h
  refine g_callV (pc := 1) X k_ml_X12_274 (run_Mo_laysNow  hc1) s_92 rfl (room_ok (Nat.le_of_ble_eq_true rfl) (Nat.le_of_ble_eq_true rfl)) ⟨Nat.le_refl _, Nat.le_refl _⟩ _ rfl (Nat.le_of_ble_eq_true rfl) dX12_thick_1 ?_
  show Go V Γ M_X12_thick (Zm V Γ 5 fin) 4 [(0, .ref (V.2.2.1 + 92))] [.int r2] σ3
  refine g_if_eq (pc := 4) (tgt := 18) X dX12_thick_4 rfl (fun c12 => ?_) (fun c12 => ?_)
  · replace h := if_t c12 h
    refine g_aload_n (pc := 18) X 0 rfl dX12_thick_18 ?_
    refine g_bipush (v := 7) (pc := 19) X (by decide) dX12_thick_19 ?_
    obtain ⟨r5, σ6, hc4, h⟩ := bd2_e h
    refine g_callV (pc := 21) X k_ml_X12_88 (run_Mo_refuse  hc4) s_92 rfl (room_ok (Nat.le_of_ble_eq_true rfl) (Nat.le_of_ble_eq_true rfl)) ⟨Nat.le_refl _, Nat.le_refl _⟩ _ rfl (Nat.le_of_ble_eq_true rfl) dX12_thick_21 ?_
    show Go V Γ M_X12_thick (Zm V Γ 5 fin) 24 [(0, .ref (V.2.2.1 + 92))] [.int r5] σ6
    cases h
    exact g_iret (pc := 24) X rfl rfl (hr _ _ hA) dX12_thick_24
  · replace h := if_f c12 h
    refine g_aload_n (pc := 7) X 0 rfl dX12_thick_7 ?_
    refine g_aload_n (pc := 8) X 0 rfl dX12_thick_8 ?_
    obtain ⟨r8, hc7, h⟩ := bd_e h
    refine g_callV (pc := 9) X k_ml_X12_339 (run_Mo_thickNow  hc7) s_92 rfl (room_ok (Nat.le_of_ble_eq_true rfl) (Nat.le_of_ble_eq_true rfl)) ⟨Nat.le_refl _, Nat.le_refl _⟩ _ rfl (Nat.le_of_ble_eq_true rfl) dX12_thick_9 ?_
    show Go V Γ M_X12_thick (Zm V Γ 5 fin) 12 [(0, .ref (V.2.2.1 + 92))] [.int r8, .ref (V.2.2.1 + 92)] σ3
    obtain ⟨r10, σ11, hc9, h⟩ := bd2_e h
    refine g_callV (pc := 12) X k_ml_X12_92 (run_Mo_gives  hc9) s_92 rfl (room_ok (Nat.le_of_ble_eq_true rfl) (Nat.le_of_ble_eq_true rfl)) ⟨Nat.le_refl _, Nat.le_refl _⟩ _ rfl (Nat.le_of_ble_eq_true rfl) dX12_thick_12 ?_
    show Go V Γ M_X12_thick (Zm V Γ 5 fin) 15 [(0, .ref (V.2.2.1 + 92))] [.int r10] σ11
    refine g_goto (pc := 15) (tgt := 24) X dX12_thick_15 rfl ?_
    cases h
    exact g_iret (pc := 24) X rfl rfl (hr _ _ hA) dX12_thick_24
set_option maxRecDepth 100000 in
theorem run_Mo_thick {V : Ev} {σ : St} {o : (Int32 × St)}   (h : Mo_thick σ = some o) : Rs V 5 M_X12_thick [.ref (V.2.2.1 + 92)] σ (some (.int o.1), o.2) := by
  refine Rs.of (by decide +kernel) (Nat.le_of_ble_eq_true rfl) (fun Γ X => ?_)
  exact tm_Mo_thick X (A := fun o1 => o1 = o)  (fun _ _ e => by rw [← e]) h rfl
theorem dX12_ask_0 : decode cX12_ask 0 = .ok (.aload_n 0, 1) := by decide +kernel
theorem dX12_ask_1 : decode cX12_ask 1 = .ok (.invokevirtual 274, 3) := by decide +kernel
theorem dX12_ask_4 : decode cX12_ask 4 = .ok (.ifCond .ne 10, 3) := by decide +kernel
theorem dX12_ask_7 : decode cX12_ask 7 = .ok (.aload_n 0, 1) := by decide +kernel
theorem dX12_ask_8 : decode cX12_ask 8 = .ok (.bipush 7, 2) := by decide +kernel
theorem dX12_ask_10 : decode cX12_ask 10 = .ok (.invokevirtual 88, 3) := by decide +kernel
theorem dX12_ask_13 : decode cX12_ask 13 = .ok (.ireturn, 1) := by decide +kernel
theorem dX12_ask_14 : decode cX12_ask 14 = .ok (.aload_n 0, 1) := by decide +kernel
theorem dX12_ask_15 : decode cX12_ask 15 = .ok (.invokevirtual 259, 3) := by decide +kernel
theorem dX12_ask_18 : decode cX12_ask 18 = .ok (.ifCond .ne 10, 3) := by decide +kernel
theorem dX12_ask_21 : decode cX12_ask 21 = .ok (.aload_n 0, 1) := by decide +kernel
theorem dX12_ask_22 : decode cX12_ask 22 = .ok (.bipush 6, 2) := by decide +kernel
theorem dX12_ask_24 : decode cX12_ask 24 = .ok (.invokevirtual 88, 3) := by decide +kernel
theorem dX12_ask_27 : decode cX12_ask 27 = .ok (.ireturn, 1) := by decide +kernel
theorem dX12_ask_28 : decode cX12_ask 28 = .ok (.iconst 0, 1) := by decide +kernel
theorem dX12_ask_29 : decode cX12_ask 29 = .ok (.istore_n 1, 1) := by decide +kernel
theorem dX12_ask_30 : decode cX12_ask 30 = .ok (.aload_n 0, 1) := by decide +kernel
theorem dX12_ask_31 : decode cX12_ask 31 = .ok (.getfield 47, 3) := by decide +kernel
theorem dX12_ask_34 : decode cX12_ask 34 = .ok (.iload_n 1, 1) := by decide +kernel
theorem dX12_ask_35 : decode cX12_ask 35 = .ok (.iaload, 1) := by decide +kernel
theorem dX12_ask_36 : decode cX12_ask 36 = .ok (.invokestatic 333, 3) := by decide +kernel
theorem dX12_ask_39 : decode cX12_ask 39 = .ok (.aload_n 0, 1) := by decide +kernel
theorem dX12_ask_40 : decode cX12_ask 40 = .ok (.invokevirtual 339, 3) := by decide +kernel
theorem dX12_ask_43 : decode cX12_ask 43 = .ok (.if_icmp .ge 9, 3) := by decide +kernel
theorem dX12_ask_46 : decode cX12_ask 46 = .ok (.iinc 1 1, 3) := by decide +kernel
theorem dX12_ask_49 : decode cX12_ask 49 = .ok (.goto (-19), 3) := by decide +kernel
theorem dX12_ask_52 : decode cX12_ask 52 = .ok (.aload_n 0, 1) := by decide +kernel
theorem dX12_ask_53 : decode cX12_ask 53 = .ok (.iload_n 1, 1) := by decide +kernel
theorem dX12_ask_54 : decode cX12_ask 54 = .ok (.invokevirtual 92, 3) := by decide +kernel
theorem dX12_ask_57 : decode cX12_ask 57 = .ok (.ireturn, 1) := by decide +kernel
noncomputable def Mo_ask_L30 (σ : St) (x1 : Int32) : Option (Int32 ⊕ Int32) :=
  chk (ix x1 5040) (bd (Mo_bits (σ.1 101 (tn x1))) (fun r8 => bd (Mo_thickNow σ) (fun r10 => if r10 ≤ r8 then (some (.inr x1)) else (bnd (x1 + 1) (fun v11 => some (.inl v11))))))
set_option maxRecDepth 100000 in
set_option maxHeartbeats 4000000 in
theorem tb_Mo_ask_L30 {V : Ev} {Γ : Cn} {fin : Option Value × St} {σ : St} {x1 : Int32} {o : (Int32 ⊕ Int32)} (X : Cx V Γ M_X12_ask) {A : (Int32 ⊕ Int32) → Prop}  (hb30 : ∀ (x1 : Int32), A (.inl x1) → Go V Γ M_X12_ask (Zm V Γ 5 fin) 30 [(0, .ref (V.2.2.1 + 92)), (1, .int x1)] [] σ) (hx30 : ∀ (x1 : Int32), A (.inr x1) → Go V Γ M_X12_ask (Zm V Γ 5 fin) 52 [(0, .ref (V.2.2.1 + 92)), (1, .int x1)] [] σ) (h : Mo_ask_L30 σ x1 = some o) (hA : A o) : Go V Γ M_X12_ask (Zm V Γ 5 fin) 30 [(0, .ref (V.2.2.1 + 92)), (1, .int x1)] [] σ := by
  unfold Mo_ask_L30 at h
  refine g_aload_n (pc := 30) X 0 rfl dX12_ask_30 ?_
  refine g_getR (r := 101) (pc := 31) X k_fl_X12_47 s_92 rfl dX12_ask_31 ?_
  refine g_iload_n (pc := 34) X 1 rfl dX12_ask_34 ?_
  obtain ⟨c6, h⟩ := chk_e h
  refine g_iald (pc := 35) X s_101 c6 dX12_ask_35 ?_
  obtain ⟨r8, hc7, h⟩ := bd_e h
  refine g_callS (pc := 36) X k_ml_X12_333 (run_Mo_bits  hc7) rfl (room_ok (Nat.le_of_ble_eq_true rfl) (Nat.le_of_ble_eq_true rfl)) ⟨Nat.le_refl _, Nat.le_refl _⟩ _ rfl (Nat.le_of_ble_eq_true rfl) dX12_ask_36 ?_
  show Go V Γ M_X12_ask (Zm V Γ 5 fin) 39 [(0, .ref (V.2.2.1 + 92)), (1, .int x1)] [.int r8] σ
  refine g_aload_n (pc := 39) X 0 rfl dX12_ask_39 ?_
  obtain ⟨r10, hc9, h⟩ := bd_e h
  refine g_callV (pc := 40) X k_ml_X12_339 (run_Mo_thickNow  hc9) s_92 rfl (room_ok (Nat.le_of_ble_eq_true rfl) (Nat.le_of_ble_eq_true rfl)) ⟨Nat.le_refl _, Nat.le_refl _⟩ _ rfl (Nat.le_of_ble_eq_true rfl) dX12_ask_40 ?_
  show Go V Γ M_X12_ask (Zm V Γ 5 fin) 43 [(0, .ref (V.2.2.1 + 92)), (1, .int x1)] [.int r10, .int r8] σ
  refine g_icmp_ge (pc := 43) (tgt := 52) X dX12_ask_43 rfl (fun c12 => ?_) (fun c12 => ?_)
  · replace h := if_t c12 h
    refine g_sub [0, 1] rfl ?_
    cases h
    exact hx30 _ hA
  · replace h := if_f c12 h
    obtain ⟨v11, e_v11, h⟩ := bnd_e h
    refine g_iinc (pc := 46) (v := v11) X [(1, .int v11), (0, .ref (V.2.2.1 + 92))] 1 rfl (by rw [e_v11]; rfl) (Nat.le_of_ble_eq_true rfl) rfl dX12_ask_46 ?_
    refine g_goto (pc := 49) (tgt := 30) X dX12_ask_49 rfl ?_
    refine g_sub [1, 0] rfl ?_
    cases h
    exact hb30 _ hA
set_option maxRecDepth 100000 in
theorem tl_Mo_ask_L30 {V : Ev} {Γ : Cn} {fin : Option Value × St} {σ : St} {x1 : Int32} (X : Cx V Γ M_X12_ask)  {y1 : Int32} {n : Nat} (h : iter (fun s : Int32 => Mo_ask_L30 σ s) n x1 = some y1) (hK : Go V Γ M_X12_ask (Zm V Γ 5 fin) 52 [(0, .ref (V.2.2.1 + 92)), (1, .int y1)] [] σ) : Go V Γ M_X12_ask (Zm V Γ 5 fin) 30 [(0, .ref (V.2.2.1 + 92)), (1, .int x1)] [] σ := by
  refine iter_go (G := (fun s : Int32 => Go V Γ M_X12_ask (Zm V Γ 5 fin) 30 [(0, .ref (V.2.2.1 + 92)), (1, .int s)] [] σ)) (fun s o ho hS => ?_) n x1 h
  exact tb_Mo_ask_L30 X  (fun _ h9 => h9) (fun _ he => by cases he; exact hK) ho hS
noncomputable def Mo_ask (σ : St) : Option (Int32 × St) :=
  bd2 (Mo_laysNow σ) (fun r2 σ3 => if r2 = 0 then (bd2 (Mo_refuse σ3 7) (fun r23 σ24 => some (r23, σ24))) else (bd (Mo_onSet σ3) (fun r5 => if r5 = 0 then (bd2 (Mo_refuse σ3 6) (fun r19 σ20 => some (r19, σ20))) else (bd (iter (fun s : Int32 => Mo_ask_L30 σ3 s) FUEL 0) (fun v13 => bd2 (Mo_gives σ3 v13) (fun r16 σ17 => some (r16, σ17)))))))
set_option maxRecDepth 100000 in
set_option maxHeartbeats 4000000 in
theorem tm_Mo_ask {V : Ev} {Γ : Cn} {fin : Option Value × St} {σ : St} {o : (Int32 × St)} (X : Cx V Γ M_X12_ask) {A : (Int32 × St) → Prop}  (hr : ∀ (r : Int32) (σ9 : St), A (r, σ9) → (some (.int r), σ9) = fin) (h : Mo_ask σ = some o) (hA : A o) : Go V Γ M_X12_ask (Zm V Γ 5 fin) 0 [(0, .ref (V.2.2.1 + 92))] [] σ := by
  unfold Mo_ask at h
  refine g_aload_n (pc := 0) X 0 rfl dX12_ask_0 ?_
  obtain ⟨r2, σ3, hc1, h⟩ := bd2_e h
  refine g_callV (pc := 1) X k_ml_X12_274 (run_Mo_laysNow  hc1) s_92 rfl (room_ok (Nat.le_of_ble_eq_true rfl) (Nat.le_of_ble_eq_true rfl)) ⟨Nat.le_refl _, Nat.le_refl _⟩ _ rfl (Nat.le_of_ble_eq_true rfl) dX12_ask_1 ?_
  show Go V Γ M_X12_ask (Zm V Γ 5 fin) 4 [(0, .ref (V.2.2.1 + 92))] [.int r2] σ3
  refine g_if_ne (pc := 4) (tgt := 14) X dX12_ask_4 rfl (fun c25 => ?_) (fun c25 => ?_)
  · replace h := if_f c25 h
    refine g_aload_n (pc := 14) X 0 rfl dX12_ask_14 ?_
    obtain ⟨r5, hc4, h⟩ := bd_e h
    refine g_callV (pc := 15) X k_ml_X12_259 (run_Mo_onSet  hc4) s_92 rfl (room_ok (Nat.le_of_ble_eq_true rfl) (Nat.le_of_ble_eq_true rfl)) ⟨Nat.le_refl _, Nat.le_refl _⟩ _ rfl (Nat.le_of_ble_eq_true rfl) dX12_ask_15 ?_
    show Go V Γ M_X12_ask (Zm V Γ 5 fin) 18 [(0, .ref (V.2.2.1 + 92))] [.int r5] σ3
    refine g_if_ne (pc := 18) (tgt := 28) X dX12_ask_18 rfl (fun c21 => ?_) (fun c21 => ?_)
    · replace h := if_f c21 h
      refine g_iconst (v := 0) (pc := 28) X rfl dX12_ask_28 ?_
      refine g_istore_n (pc := 29) X [(1, .int 0), (0, .ref (V.2.2.1 + 92))] rfl (Nat.le_of_ble_eq_true rfl) rfl dX12_ask_29 ?_
      refine g_sub [1, 0] rfl ?_
      obtain ⟨v13, hi14, h⟩ := bd_e h
      refine tl_Mo_ask_L30 X  hi14 ?_
      refine g_aload_n (pc := 52) X 0 rfl dX12_ask_52 ?_
      refine g_iload_n (pc := 53) X 1 rfl dX12_ask_53 ?_
      obtain ⟨r16, σ17, hc15, h⟩ := bd2_e h
      refine g_callV (pc := 54) X k_ml_X12_92 (run_Mo_gives  hc15) s_92 rfl (room_ok (Nat.le_of_ble_eq_true rfl) (Nat.le_of_ble_eq_true rfl)) ⟨Nat.le_refl _, Nat.le_refl _⟩ _ rfl (Nat.le_of_ble_eq_true rfl) dX12_ask_54 ?_
      show Go V Γ M_X12_ask (Zm V Γ 5 fin) 57 [(0, .ref (V.2.2.1 + 92)), (1, .int v13)] [.int r16] σ17
      cases h
      exact g_iret (pc := 57) X rfl rfl (hr _ _ hA) dX12_ask_57
    · replace h := if_t c21 h
      refine g_aload_n (pc := 21) X 0 rfl dX12_ask_21 ?_
      refine g_bipush (v := 6) (pc := 22) X (by decide) dX12_ask_22 ?_
      obtain ⟨r19, σ20, hc18, h⟩ := bd2_e h
      refine g_callV (pc := 24) X k_ml_X12_88 (run_Mo_refuse  hc18) s_92 rfl (room_ok (Nat.le_of_ble_eq_true rfl) (Nat.le_of_ble_eq_true rfl)) ⟨Nat.le_refl _, Nat.le_refl _⟩ _ rfl (Nat.le_of_ble_eq_true rfl) dX12_ask_24 ?_
      show Go V Γ M_X12_ask (Zm V Γ 5 fin) 27 [(0, .ref (V.2.2.1 + 92))] [.int r19] σ20
      cases h
      exact g_iret (pc := 27) X rfl rfl (hr _ _ hA) dX12_ask_27
  · replace h := if_t c25 h
    refine g_aload_n (pc := 7) X 0 rfl dX12_ask_7 ?_
    refine g_bipush (v := 7) (pc := 8) X (by decide) dX12_ask_8 ?_
    obtain ⟨r23, σ24, hc22, h⟩ := bd2_e h
    refine g_callV (pc := 10) X k_ml_X12_88 (run_Mo_refuse  hc22) s_92 rfl (room_ok (Nat.le_of_ble_eq_true rfl) (Nat.le_of_ble_eq_true rfl)) ⟨Nat.le_refl _, Nat.le_refl _⟩ _ rfl (Nat.le_of_ble_eq_true rfl) dX12_ask_10 ?_
    show Go V Γ M_X12_ask (Zm V Γ 5 fin) 13 [(0, .ref (V.2.2.1 + 92))] [.int r23] σ24
    cases h
    exact g_iret (pc := 13) X rfl rfl (hr _ _ hA) dX12_ask_13
set_option maxRecDepth 100000 in
theorem run_Mo_ask {V : Ev} {σ : St} {o : (Int32 × St)}   (h : Mo_ask σ = some o) : Rs V 5 M_X12_ask [.ref (V.2.2.1 + 92)] σ (some (.int o.1), o.2) := by
  refine Rs.of (by decide +kernel) (Nat.le_of_ble_eq_true rfl) (fun Γ X => ?_)
  exact tm_Mo_ask X (A := fun o1 => o1 = o)  (fun _ _ e => by rw [← e]) h rfl
theorem dX12_isLikeBy_0 : decode cX12_isLikeBy 0 = .ok (.iconst 0, 1) := by decide +kernel
theorem dX12_isLikeBy_1 : decode cX12_isLikeBy 1 = .ok (.istore_n 2, 1) := by decide +kernel
theorem dX12_isLikeBy_2 : decode cX12_isLikeBy 2 = .ok (.iload_n 2, 1) := by decide +kernel
theorem dX12_isLikeBy_3 : decode cX12_isLikeBy 3 = .ok (.aload_n 0, 1) := by decide +kernel
theorem dX12_isLikeBy_4 : decode cX12_isLikeBy 4 = .ok (.getfield 253, 3) := by decide +kernel
theorem dX12_isLikeBy_7 : decode cX12_isLikeBy 7 = .ok (.if_icmp .ge 49, 3) := by decide +kernel
theorem dX12_isLikeBy_10 : decode cX12_isLikeBy 10 = .ok (.aload_n 0, 1) := by decide +kernel
theorem dX12_isLikeBy_11 : decode cX12_isLikeBy 11 = .ok (.getfield 47, 3) := by decide +kernel
theorem dX12_isLikeBy_14 : decode cX12_isLikeBy 14 = .ok (.iload_n 2, 1) := by decide +kernel
theorem dX12_isLikeBy_15 : decode cX12_isLikeBy 15 = .ok (.iaload, 1) := by decide +kernel
theorem dX12_isLikeBy_16 : decode cX12_isLikeBy 16 = .ok (.ifCond .ne 7, 3) := by decide +kernel
theorem dX12_isLikeBy_19 : decode cX12_isLikeBy 19 = .ok (.iconst 1, 1) := by decide +kernel
theorem dX12_isLikeBy_20 : decode cX12_isLikeBy 20 = .ok (.goto 4, 3) := by decide +kernel
theorem dX12_isLikeBy_23 : decode cX12_isLikeBy 23 = .ok (.iconst 0, 1) := by decide +kernel
theorem dX12_isLikeBy_24 : decode cX12_isLikeBy 24 = .ok (.aload_n 0, 1) := by decide +kernel
theorem dX12_isLikeBy_25 : decode cX12_isLikeBy 25 = .ok (.getfield 47, 3) := by decide +kernel
theorem dX12_isLikeBy_28 : decode cX12_isLikeBy 28 = .ok (.iload_n 2, 1) := by decide +kernel
theorem dX12_isLikeBy_29 : decode cX12_isLikeBy 29 = .ok (.iload_n 1, 1) := by decide +kernel
theorem dX12_isLikeBy_30 : decode cX12_isLikeBy 30 = .ok (.iadd, 1) := by decide +kernel
theorem dX12_isLikeBy_31 : decode cX12_isLikeBy 31 = .ok (.aload_n 0, 1) := by decide +kernel
theorem dX12_isLikeBy_32 : decode cX12_isLikeBy 32 = .ok (.getfield 253, 3) := by decide +kernel
theorem dX12_isLikeBy_35 : decode cX12_isLikeBy 35 = .ok (.irem, 1) := by decide +kernel
theorem dX12_isLikeBy_36 : decode cX12_isLikeBy 36 = .ok (.iaload, 1) := by decide +kernel
theorem dX12_isLikeBy_37 : decode cX12_isLikeBy 37 = .ok (.ifCond .ne 7, 3) := by decide +kernel
theorem dX12_isLikeBy_40 : decode cX12_isLikeBy 40 = .ok (.iconst 1, 1) := by decide +kernel
theorem dX12_isLikeBy_41 : decode cX12_isLikeBy 41 = .ok (.goto 4, 3) := by decide +kernel
theorem dX12_isLikeBy_44 : decode cX12_isLikeBy 44 = .ok (.iconst 0, 1) := by decide +kernel
theorem dX12_isLikeBy_45 : decode cX12_isLikeBy 45 = .ok (.if_icmp .eq 5, 3) := by decide +kernel
theorem dX12_isLikeBy_48 : decode cX12_isLikeBy 48 = .ok (.iconst 0, 1) := by decide +kernel
theorem dX12_isLikeBy_49 : decode cX12_isLikeBy 49 = .ok (.ireturn, 1) := by decide +kernel
theorem dX12_isLikeBy_50 : decode cX12_isLikeBy 50 = .ok (.iinc 2 1, 3) := by decide +kernel
theorem dX12_isLikeBy_53 : decode cX12_isLikeBy 53 = .ok (.goto (-51), 3) := by decide +kernel
theorem dX12_isLikeBy_56 : decode cX12_isLikeBy 56 = .ok (.iconst 1, 1) := by decide +kernel
theorem dX12_isLikeBy_57 : decode cX12_isLikeBy 57 = .ok (.ireturn, 1) := by decide +kernel
noncomputable def Mo_isLikeBy_J24_2 (σ : St) (l1 : Int32) (l2 : Int32) (s0 : Int32) : Option ((Int32 ⊕ Int32)) :=
  chk (nzI (σ.1 92 23)) (chk (ix (jrem (l2 + l1) (σ.1 92 23)) 5040) (if (σ.1 101 (tn (jrem (l2 + l1) (σ.1 92 23)))) = 0 then (if s0 = 1 then (bnd (l2 + 1) (fun v6 => some (.inl v6))) else (some (.inr 0))) else (if s0 = 0 then (bnd (l2 + 1) (fun v4 => some (.inl v4))) else (some (.inr 0)))))
set_option maxRecDepth 100000 in
set_option maxHeartbeats 4000000 in
theorem tj_Mo_isLikeBy_J24_2 {V : Ev} {Γ : Cn} {fin : Option Value × St} {σ : St} {l1 : Int32} {l2 : Int32} {s0 : Int32} {o : (Int32 ⊕ Int32)} (X : Cx V Γ M_X12_isLikeBy) {A : (Int32 ⊕ Int32) → Prop}  (hr : ∀ (r : Int32), A (.inr r) → (some (.int r), σ) = fin) (hb2 : ∀ (x2 : Int32), A (.inl x2) → Go V Γ M_X12_isLikeBy (Zm V Γ 0 fin) 2 [(0, .ref (V.2.2.1 + 92)), (1, .int l1), (2, .int x2)] [] σ) (h : Mo_isLikeBy_J24_2 σ l1 l2 s0 = some o) (hA : A o) : Go V Γ M_X12_isLikeBy (Zm V Γ 0 fin) 24 [(0, .ref (V.2.2.1 + 92)), (1, .int l1), (2, .int l2)] [.int s0] σ := by
  unfold Mo_isLikeBy_J24_2 at h
  refine g_aload_n (pc := 24) X 0 rfl dX12_isLikeBy_24 ?_
  refine g_getR (r := 101) (pc := 25) X k_fl_X12_47 s_92 rfl dX12_isLikeBy_25 ?_
  refine g_iload_n (pc := 28) X 2 rfl dX12_isLikeBy_28 ?_
  refine g_iload_n (pc := 29) X 1 rfl dX12_isLikeBy_29 ?_
  refine g_iadd (pc := 30) X dX12_isLikeBy_30 ?_
  refine g_aload_n (pc := 31) X 0 rfl dX12_isLikeBy_31 ?_
  refine g_getI (pc := 32) X k_fl_X12_253 s_92 rfl dX12_isLikeBy_32 ?_
  obtain ⟨c2, h⟩ := chk_e h
  refine g_irem (pc := 35) X (nzI_e c2) dX12_isLikeBy_35 ?_
  obtain ⟨c3, h⟩ := chk_e h
  refine g_iald (pc := 36) X s_101 c3 dX12_isLikeBy_36 ?_
  refine g_if_ne (pc := 37) (tgt := 44) X dX12_isLikeBy_37 rfl (fun c8 => ?_) (fun c8 => ?_)
  · replace h := if_f c8 h
    refine g_iconst (v := 0) (pc := 44) X rfl dX12_isLikeBy_44 ?_
    refine g_icmp_eq (pc := 45) (tgt := 50) X dX12_isLikeBy_45 rfl (fun c5 => ?_) (fun c5 => ?_)
    · replace h := if_t c5 h
      obtain ⟨v4, e_v4, h⟩ := bnd_e h
      refine g_iinc (pc := 50) (v := v4) X [(2, .int v4), (0, .ref (V.2.2.1 + 92)), (1, .int l1)] 2 rfl (by rw [e_v4]; rfl) (Nat.le_of_ble_eq_true rfl) rfl dX12_isLikeBy_50 ?_
      refine g_goto (pc := 53) (tgt := 2) X dX12_isLikeBy_53 rfl ?_
      refine g_sub [1, 2, 0] rfl ?_
      cases h
      exact hb2 _ hA
    · replace h := if_f c5 h
      refine g_iconst (v := 0) (pc := 48) X rfl dX12_isLikeBy_48 ?_
      cases h
      exact g_iret (pc := 49) X rfl nz0.1 (hr _ hA) dX12_isLikeBy_49
  · replace h := if_t c8 h
    refine g_iconst (v := 1) (pc := 40) X rfl dX12_isLikeBy_40 ?_
    refine g_goto (pc := 41) (tgt := 45) X dX12_isLikeBy_41 rfl ?_
    refine g_icmp_eq (pc := 45) (tgt := 50) X dX12_isLikeBy_45 rfl (fun c7 => ?_) (fun c7 => ?_)
    · replace h := if_t c7 h
      obtain ⟨v6, e_v6, h⟩ := bnd_e h
      refine g_iinc (pc := 50) (v := v6) X [(2, .int v6), (0, .ref (V.2.2.1 + 92)), (1, .int l1)] 2 rfl (by rw [e_v6]; rfl) (Nat.le_of_ble_eq_true rfl) rfl dX12_isLikeBy_50 ?_
      refine g_goto (pc := 53) (tgt := 2) X dX12_isLikeBy_53 rfl ?_
      refine g_sub [1, 2, 0] rfl ?_
      cases h
      exact hb2 _ hA
    · replace h := if_f c7 h
      refine g_iconst (v := 0) (pc := 48) X rfl dX12_isLikeBy_48 ?_
      cases h
      exact g_iret (pc := 49) X rfl nz0.1 (hr _ hA) dX12_isLikeBy_49
noncomputable def Mo_isLikeBy_L2 (l1 : Int32) (σ : St) (x2 : Int32) : Option (Int32 ⊕ Int32) :=
  if (σ.1 92 23) ≤ x2 then (some (.inr 1)) else (chk (ix x2 5040) (if (σ.1 101 (tn x2)) = 0 then (Mo_isLikeBy_J24_2 σ l1 x2 1) else (Mo_isLikeBy_J24_2 σ l1 x2 0)))
set_option maxRecDepth 100000 in
set_option maxHeartbeats 4000000 in
theorem tb_Mo_isLikeBy_L2 {V : Ev} {Γ : Cn} {fin : Option Value × St} {l1 : Int32} {σ : St} {x2 : Int32} {o : (Int32 ⊕ Int32)} (X : Cx V Γ M_X12_isLikeBy) {A : (Int32 ⊕ Int32) → Prop}  (hr : ∀ (r : Int32), A (.inr r) → (some (.int r), σ) = fin) (hb2 : ∀ (x2 : Int32), A (.inl x2) → Go V Γ M_X12_isLikeBy (Zm V Γ 0 fin) 2 [(0, .ref (V.2.2.1 + 92)), (1, .int l1), (2, .int x2)] [] σ) (h : Mo_isLikeBy_L2 l1 σ x2 = some o) (hA : A o) : Go V Γ M_X12_isLikeBy (Zm V Γ 0 fin) 2 [(0, .ref (V.2.2.1 + 92)), (1, .int l1), (2, .int x2)] [] σ := by
  unfold Mo_isLikeBy_L2 at h
  refine g_iload_n (pc := 2) X 2 rfl dX12_isLikeBy_2 ?_
  refine g_aload_n (pc := 3) X 0 rfl dX12_isLikeBy_3 ?_
  refine g_getI (pc := 4) X k_fl_X12_253 s_92 rfl dX12_isLikeBy_4 ?_
  refine g_icmp_ge (pc := 7) (tgt := 56) X dX12_isLikeBy_7 rfl (fun c10 => ?_) (fun c10 => ?_)
  · replace h := if_t c10 h
    refine g_iconst (v := 1) (pc := 56) X rfl dX12_isLikeBy_56 ?_
    cases h
    exact g_iret (pc := 57) X rfl nz1.1 (hr _ hA) dX12_isLikeBy_57
  · replace h := if_f c10 h
    refine g_aload_n (pc := 10) X 0 rfl dX12_isLikeBy_10 ?_
    refine g_getR (r := 101) (pc := 11) X k_fl_X12_47 s_92 rfl dX12_isLikeBy_11 ?_
    refine g_iload_n (pc := 14) X 2 rfl dX12_isLikeBy_14 ?_
    obtain ⟨c1, h⟩ := chk_e h
    refine g_iald (pc := 15) X s_101 c1 dX12_isLikeBy_15 ?_
    refine g_if_ne (pc := 16) (tgt := 23) X dX12_isLikeBy_16 rfl (fun c9 => ?_) (fun c9 => ?_)
    · replace h := if_f c9 h
      refine g_iconst (v := 0) (pc := 23) X rfl dX12_isLikeBy_23 ?_
      refine g_sub [0, 1, 2] rfl ?_
      exact tj_Mo_isLikeBy_J24_2 X  hr hb2 h hA
    · replace h := if_t c9 h
      refine g_iconst (v := 1) (pc := 19) X rfl dX12_isLikeBy_19 ?_
      refine g_goto (pc := 20) (tgt := 24) X dX12_isLikeBy_20 rfl ?_
      refine g_sub [0, 1, 2] rfl ?_
      exact tj_Mo_isLikeBy_J24_2 X  hr hb2 h hA
set_option maxRecDepth 100000 in
theorem tl_Mo_isLikeBy_L2 {V : Ev} {Γ : Cn} {fin : Option Value × St} {l1 : Int32} {σ : St} {x2 : Int32} (X : Cx V Γ M_X12_isLikeBy)  {e : Int32} {A : Int32 → Prop} (hr : ∀ (r : Int32), A r → (some (.int r), σ) = fin) {n : Nat} (h : iter (fun s : Int32 => Mo_isLikeBy_L2 l1 σ s) n x2 = some e) (hA : A e) : Go V Γ M_X12_isLikeBy (Zm V Γ 0 fin) 2 [(0, .ref (V.2.2.1 + 92)), (1, .int l1), (2, .int x2)] [] σ := by
  refine iter_go (G := (fun s : Int32 => Go V Γ M_X12_isLikeBy (Zm V Γ 0 fin) 2 [(0, .ref (V.2.2.1 + 92)), (1, .int l1), (2, .int s)] [] σ)) (fun s o ho hS => ?_) n x2 h
  exact tb_Mo_isLikeBy_L2 X  (fun z0 he => hr z0 (by rw [he]; exact hA)) (fun _ h9 => h9) ho hS
noncomputable def Mo_isLikeBy (σ : St) (p1 : Int32) : Option Int32 :=
  iter (fun s : Int32 => Mo_isLikeBy_L2 p1 σ s) FUEL 0
set_option maxRecDepth 100000 in
set_option maxHeartbeats 4000000 in
theorem tm_Mo_isLikeBy {V : Ev} {Γ : Cn} {fin : Option Value × St} {σ : St} {p1 : Int32} {o : Int32} (X : Cx V Γ M_X12_isLikeBy) {A : Int32 → Prop}  (hr : ∀ (r : Int32), A r → (some (.int r), σ) = fin) (h : Mo_isLikeBy σ p1 = some o) (hA : A o) : Go V Γ M_X12_isLikeBy (Zm V Γ 0 fin) 0 [(0, .ref (V.2.2.1 + 92)), (1, .int p1)] [] σ := by
  unfold Mo_isLikeBy at h
  refine g_iconst (v := 0) (pc := 0) X rfl dX12_isLikeBy_0 ?_
  refine g_istore_n (pc := 1) X [(2, .int 0), (0, .ref (V.2.2.1 + 92)), (1, .int p1)] rfl (Nat.le_of_ble_eq_true rfl) rfl dX12_isLikeBy_1 ?_
  refine g_sub [1, 2, 0] rfl ?_
  exact tl_Mo_isLikeBy_L2 X  hr h hA
set_option maxRecDepth 100000 in
theorem run_Mo_isLikeBy {V : Ev} {σ : St} {p1 : Int32} {o : Int32}   (h : Mo_isLikeBy σ p1 = some o) : Rs V 0 M_X12_isLikeBy [.ref (V.2.2.1 + 92), .int p1] σ (some (.int o), σ) := by
  refine Rs.of (by decide +kernel) (Nat.le_of_ble_eq_true rfl) (fun Γ X => ?_)
  exact tm_Mo_isLikeBy X (A := fun o1 => o1 = o)  (fun _ e => by rw [e]) h rfl
theorem dX12_turnsBy_0 : decode cX12_turnsBy 0 = .ok (.aload_n 0, 1) := by decide +kernel
theorem dX12_turnsBy_1 : decode cX12_turnsBy 1 = .ok (.invokevirtual 274, 3) := by decide +kernel
theorem dX12_turnsBy_4 : decode cX12_turnsBy 4 = .ok (.ifCond .ne 10, 3) := by decide +kernel
theorem dX12_turnsBy_7 : decode cX12_turnsBy 7 = .ok (.aload_n 0, 1) := by decide +kernel
theorem dX12_turnsBy_8 : decode cX12_turnsBy 8 = .ok (.bipush 7, 2) := by decide +kernel
theorem dX12_turnsBy_10 : decode cX12_turnsBy 10 = .ok (.invokevirtual 88, 3) := by decide +kernel
theorem dX12_turnsBy_13 : decode cX12_turnsBy 13 = .ok (.ireturn, 1) := by decide +kernel
theorem dX12_turnsBy_14 : decode cX12_turnsBy 14 = .ok (.iconst 1, 1) := by decide +kernel
theorem dX12_turnsBy_15 : decode cX12_turnsBy 15 = .ok (.istore_n 1, 1) := by decide +kernel
theorem dX12_turnsBy_16 : decode cX12_turnsBy 16 = .ok (.aload_n 0, 1) := by decide +kernel
theorem dX12_turnsBy_17 : decode cX12_turnsBy 17 = .ok (.iload_n 1, 1) := by decide +kernel
theorem dX12_turnsBy_18 : decode cX12_turnsBy 18 = .ok (.invokevirtual 342, 3) := by decide +kernel
theorem dX12_turnsBy_21 : decode cX12_turnsBy 21 = .ok (.ifCond .ne 9, 3) := by decide +kernel
theorem dX12_turnsBy_24 : decode cX12_turnsBy 24 = .ok (.iinc 1 1, 3) := by decide +kernel
theorem dX12_turnsBy_27 : decode cX12_turnsBy 27 = .ok (.goto (-11), 3) := by decide +kernel
theorem dX12_turnsBy_30 : decode cX12_turnsBy 30 = .ok (.aload_n 0, 1) := by decide +kernel
theorem dX12_turnsBy_31 : decode cX12_turnsBy 31 = .ok (.iload_n 1, 1) := by decide +kernel
theorem dX12_turnsBy_32 : decode cX12_turnsBy 32 = .ok (.invokevirtual 92, 3) := by decide +kernel
theorem dX12_turnsBy_35 : decode cX12_turnsBy 35 = .ok (.ireturn, 1) := by decide +kernel
noncomputable def Mo_turnsBy_L16 (σ : St) (x1 : Int32) : Option (Int32 ⊕ Int32) :=
  bd (Mo_isLikeBy σ x1) (fun r5 => if r5 = 0 then (bnd (x1 + 1) (fun v6 => some (.inl v6))) else (some (.inr x1)))
set_option maxRecDepth 100000 in
set_option maxHeartbeats 4000000 in
theorem tb_Mo_turnsBy_L16 {V : Ev} {Γ : Cn} {fin : Option Value × St} {σ : St} {x1 : Int32} {o : (Int32 ⊕ Int32)} (X : Cx V Γ M_X12_turnsBy) {A : (Int32 ⊕ Int32) → Prop}  (hb16 : ∀ (x1 : Int32), A (.inl x1) → Go V Γ M_X12_turnsBy (Zm V Γ 5 fin) 16 [(0, .ref (V.2.2.1 + 92)), (1, .int x1)] [] σ) (hx16 : ∀ (x1 : Int32), A (.inr x1) → Go V Γ M_X12_turnsBy (Zm V Γ 5 fin) 30 [(0, .ref (V.2.2.1 + 92)), (1, .int x1)] [] σ) (h : Mo_turnsBy_L16 σ x1 = some o) (hA : A o) : Go V Γ M_X12_turnsBy (Zm V Γ 5 fin) 16 [(0, .ref (V.2.2.1 + 92)), (1, .int x1)] [] σ := by
  unfold Mo_turnsBy_L16 at h
  refine g_aload_n (pc := 16) X 0 rfl dX12_turnsBy_16 ?_
  refine g_iload_n (pc := 17) X 1 rfl dX12_turnsBy_17 ?_
  obtain ⟨r5, hc4, h⟩ := bd_e h
  refine g_callV (pc := 18) X k_ml_X12_342 (run_Mo_isLikeBy  hc4) s_92 rfl (room_ok (Nat.le_of_ble_eq_true rfl) (Nat.le_of_ble_eq_true rfl)) ⟨Nat.le_refl _, Nat.le_refl _⟩ _ rfl (Nat.le_of_ble_eq_true rfl) dX12_turnsBy_18 ?_
  show Go V Γ M_X12_turnsBy (Zm V Γ 5 fin) 21 [(0, .ref (V.2.2.1 + 92)), (1, .int x1)] [.int r5] σ
  refine g_if_ne (pc := 21) (tgt := 30) X dX12_turnsBy_21 rfl (fun c7 => ?_) (fun c7 => ?_)
  · replace h := if_f c7 h
    refine g_sub [0, 1] rfl ?_
    cases h
    exact hx16 _ hA
  · replace h := if_t c7 h
    obtain ⟨v6, e_v6, h⟩ := bnd_e h
    refine g_iinc (pc := 24) (v := v6) X [(1, .int v6), (0, .ref (V.2.2.1 + 92))] 1 rfl (by rw [e_v6]; rfl) (Nat.le_of_ble_eq_true rfl) rfl dX12_turnsBy_24 ?_
    refine g_goto (pc := 27) (tgt := 16) X dX12_turnsBy_27 rfl ?_
    refine g_sub [1, 0] rfl ?_
    cases h
    exact hb16 _ hA
set_option maxRecDepth 100000 in
theorem tl_Mo_turnsBy_L16 {V : Ev} {Γ : Cn} {fin : Option Value × St} {σ : St} {x1 : Int32} (X : Cx V Γ M_X12_turnsBy)  {y1 : Int32} {n : Nat} (h : iter (fun s : Int32 => Mo_turnsBy_L16 σ s) n x1 = some y1) (hK : Go V Γ M_X12_turnsBy (Zm V Γ 5 fin) 30 [(0, .ref (V.2.2.1 + 92)), (1, .int y1)] [] σ) : Go V Γ M_X12_turnsBy (Zm V Γ 5 fin) 16 [(0, .ref (V.2.2.1 + 92)), (1, .int x1)] [] σ := by
  refine iter_go (G := (fun s : Int32 => Go V Γ M_X12_turnsBy (Zm V Γ 5 fin) 16 [(0, .ref (V.2.2.1 + 92)), (1, .int s)] [] σ)) (fun s o ho hS => ?_) n x1 h
  exact tb_Mo_turnsBy_L16 X  (fun _ h9 => h9) (fun _ he => by cases he; exact hK) ho hS
noncomputable def Mo_turnsBy (σ : St) : Option (Int32 × St) :=
  bd2 (Mo_laysNow σ) (fun r2 σ3 => if r2 = 0 then (bd2 (Mo_refuse σ3 7) (fun r14 σ15 => some (r14, σ15))) else (bd (iter (fun s : Int32 => Mo_turnsBy_L16 σ3 s) FUEL 1) (fun v8 => bd2 (Mo_gives σ3 v8) (fun r11 σ12 => some (r11, σ12)))))
set_option maxRecDepth 100000 in
set_option maxHeartbeats 4000000 in
theorem tm_Mo_turnsBy {V : Ev} {Γ : Cn} {fin : Option Value × St} {σ : St} {o : (Int32 × St)} (X : Cx V Γ M_X12_turnsBy) {A : (Int32 × St) → Prop}  (hr : ∀ (r : Int32) (σ9 : St), A (r, σ9) → (some (.int r), σ9) = fin) (h : Mo_turnsBy σ = some o) (hA : A o) : Go V Γ M_X12_turnsBy (Zm V Γ 5 fin) 0 [(0, .ref (V.2.2.1 + 92))] [] σ := by
  unfold Mo_turnsBy at h
  refine g_aload_n (pc := 0) X 0 rfl dX12_turnsBy_0 ?_
  obtain ⟨r2, σ3, hc1, h⟩ := bd2_e h
  refine g_callV (pc := 1) X k_ml_X12_274 (run_Mo_laysNow  hc1) s_92 rfl (room_ok (Nat.le_of_ble_eq_true rfl) (Nat.le_of_ble_eq_true rfl)) ⟨Nat.le_refl _, Nat.le_refl _⟩ _ rfl (Nat.le_of_ble_eq_true rfl) dX12_turnsBy_1 ?_
  show Go V Γ M_X12_turnsBy (Zm V Γ 5 fin) 4 [(0, .ref (V.2.2.1 + 92))] [.int r2] σ3
  refine g_if_ne (pc := 4) (tgt := 14) X dX12_turnsBy_4 rfl (fun c16 => ?_) (fun c16 => ?_)
  · replace h := if_f c16 h
    refine g_iconst (v := 1) (pc := 14) X rfl dX12_turnsBy_14 ?_
    refine g_istore_n (pc := 15) X [(1, .int 1), (0, .ref (V.2.2.1 + 92))] rfl (Nat.le_of_ble_eq_true rfl) rfl dX12_turnsBy_15 ?_
    refine g_sub [1, 0] rfl ?_
    obtain ⟨v8, hi9, h⟩ := bd_e h
    refine tl_Mo_turnsBy_L16 X  hi9 ?_
    refine g_aload_n (pc := 30) X 0 rfl dX12_turnsBy_30 ?_
    refine g_iload_n (pc := 31) X 1 rfl dX12_turnsBy_31 ?_
    obtain ⟨r11, σ12, hc10, h⟩ := bd2_e h
    refine g_callV (pc := 32) X k_ml_X12_92 (run_Mo_gives  hc10) s_92 rfl (room_ok (Nat.le_of_ble_eq_true rfl) (Nat.le_of_ble_eq_true rfl)) ⟨Nat.le_refl _, Nat.le_refl _⟩ _ rfl (Nat.le_of_ble_eq_true rfl) dX12_turnsBy_32 ?_
    show Go V Γ M_X12_turnsBy (Zm V Γ 5 fin) 35 [(0, .ref (V.2.2.1 + 92)), (1, .int v8)] [.int r11] σ12
    cases h
    exact g_iret (pc := 35) X rfl rfl (hr _ _ hA) dX12_turnsBy_35
  · replace h := if_t c16 h
    refine g_aload_n (pc := 7) X 0 rfl dX12_turnsBy_7 ?_
    refine g_bipush (v := 7) (pc := 8) X (by decide) dX12_turnsBy_8 ?_
    obtain ⟨r14, σ15, hc13, h⟩ := bd2_e h
    refine g_callV (pc := 10) X k_ml_X12_88 (run_Mo_refuse  hc13) s_92 rfl (room_ok (Nat.le_of_ble_eq_true rfl) (Nat.le_of_ble_eq_true rfl)) ⟨Nat.le_refl _, Nat.le_refl _⟩ _ rfl (Nat.le_of_ble_eq_true rfl) dX12_turnsBy_10 ?_
    show Go V Γ M_X12_turnsBy (Zm V Γ 5 fin) 13 [(0, .ref (V.2.2.1 + 92))] [.int r14] σ15
    cases h
    exact g_iret (pc := 13) X rfl rfl (hr _ _ hA) dX12_turnsBy_13
set_option maxRecDepth 100000 in
theorem run_Mo_turnsBy {V : Ev} {σ : St} {o : (Int32 × St)}   (h : Mo_turnsBy σ = some o) : Rs V 5 M_X12_turnsBy [.ref (V.2.2.1 + 92)] σ (some (.int o.1), o.2) := by
  refine Rs.of (by decide +kernel) (Nat.le_of_ble_eq_true rfl) (fun Γ X => ?_)
  exact tm_Mo_turnsBy X (A := fun o1 => o1 = o)  (fun _ _ e => by rw [← e]) h rfl
theorem dX12_kindOf_0 : decode cX12_kindOf 0 = .ok (.iconst 0, 1) := by decide +kernel
theorem dX12_kindOf_1 : decode cX12_kindOf 1 = .ok (.istore_n 3, 1) := by decide +kernel
theorem dX12_kindOf_2 : decode cX12_kindOf 2 = .ok (.iconst 0, 1) := by decide +kernel
theorem dX12_kindOf_3 : decode cX12_kindOf 3 = .ok (.istore 4, 2) := by decide +kernel
theorem dX12_kindOf_5 : decode cX12_kindOf 5 = .ok (.iload 4, 2) := by decide +kernel
theorem dX12_kindOf_7 : decode cX12_kindOf 7 = .ok (.aload_n 0, 1) := by decide +kernel
theorem dX12_kindOf_8 : decode cX12_kindOf 8 = .ok (.getfield 7, 3) := by decide +kernel
theorem dX12_kindOf_11 : decode cX12_kindOf 11 = .ok (.iconst 0, 1) := by decide +kernel
theorem dX12_kindOf_12 : decode cX12_kindOf 12 = .ok (.iaload, 1) := by decide +kernel
theorem dX12_kindOf_13 : decode cX12_kindOf 13 = .ok (.if_icmp .ge 58, 3) := by decide +kernel
theorem dX12_kindOf_16 : decode cX12_kindOf 16 = .ok (.aload_n 0, 1) := by decide +kernel
theorem dX12_kindOf_17 : decode cX12_kindOf 17 = .ok (.iload 4, 2) := by decide +kernel
theorem dX12_kindOf_19 : decode cX12_kindOf 19 = .ok (.invokevirtual 238, 3) := by decide +kernel
theorem dX12_kindOf_22 : decode cX12_kindOf 22 = .ok (.ifCond .eq 43, 3) := by decide +kernel
theorem dX12_kindOf_25 : decode cX12_kindOf 25 = .ok (.iload_n 1, 1) := by decide +kernel
theorem dX12_kindOf_26 : decode cX12_kindOf 26 = .ok (.aload_n 0, 1) := by decide +kernel
theorem dX12_kindOf_27 : decode cX12_kindOf 27 = .ok (.iload 4, 2) := by decide +kernel
theorem dX12_kindOf_29 : decode cX12_kindOf 29 = .ok (.invokevirtual 256, 3) := by decide +kernel
theorem dX12_kindOf_32 : decode cX12_kindOf 32 = .ok (.isub, 1) := by decide +kernel
theorem dX12_kindOf_33 : decode cX12_kindOf 33 = .ok (.iload_n 2, 1) := by decide +kernel
theorem dX12_kindOf_34 : decode cX12_kindOf 34 = .ok (.aload_n 0, 1) := by decide +kernel
theorem dX12_kindOf_35 : decode cX12_kindOf 35 = .ok (.iload 4, 2) := by decide +kernel
theorem dX12_kindOf_37 : decode cX12_kindOf 37 = .ok (.invokevirtual 244, 3) := by decide +kernel
theorem dX12_kindOf_40 : decode cX12_kindOf 40 = .ok (.invokestatic 247, 3) := by decide +kernel
theorem dX12_kindOf_43 : decode cX12_kindOf 43 = .ok (.irem, 1) := by decide +kernel
theorem dX12_kindOf_44 : decode cX12_kindOf 44 = .ok (.ifCond .eq 6, 3) := by decide +kernel
theorem dX12_kindOf_47 : decode cX12_kindOf 47 = .ok (.goto 18, 3) := by decide +kernel
theorem dX12_kindOf_50 : decode cX12_kindOf 50 = .ok (.iload_n 2, 1) := by decide +kernel
theorem dX12_kindOf_51 : decode cX12_kindOf 51 = .ok (.aload_n 0, 1) := by decide +kernel
theorem dX12_kindOf_52 : decode cX12_kindOf 52 = .ok (.iload 4, 2) := by decide +kernel
theorem dX12_kindOf_54 : decode cX12_kindOf 54 = .ok (.invokevirtual 244, 3) := by decide +kernel
theorem dX12_kindOf_57 : decode cX12_kindOf 57 = .ok (.irem, 1) := by decide +kernel
theorem dX12_kindOf_58 : decode cX12_kindOf 58 = .ok (.ifCond .ne 5, 3) := by decide +kernel
theorem dX12_kindOf_61 : decode cX12_kindOf 61 = .ok (.iconst 0, 1) := by decide +kernel
theorem dX12_kindOf_62 : decode cX12_kindOf 62 = .ok (.ireturn, 1) := by decide +kernel
theorem dX12_kindOf_63 : decode cX12_kindOf 63 = .ok (.iconst 1, 1) := by decide +kernel
theorem dX12_kindOf_64 : decode cX12_kindOf 64 = .ok (.istore_n 3, 1) := by decide +kernel
theorem dX12_kindOf_65 : decode cX12_kindOf 65 = .ok (.iinc 4 1, 3) := by decide +kernel
theorem dX12_kindOf_68 : decode cX12_kindOf 68 = .ok (.goto (-63), 3) := by decide +kernel
theorem dX12_kindOf_71 : decode cX12_kindOf 71 = .ok (.iload_n 3, 1) := by decide +kernel
theorem dX12_kindOf_72 : decode cX12_kindOf 72 = .ok (.ifCond .eq 7, 3) := by decide +kernel
theorem dX12_kindOf_75 : decode cX12_kindOf 75 = .ok (.iconst 2, 1) := by decide +kernel
theorem dX12_kindOf_76 : decode cX12_kindOf 76 = .ok (.goto 4, 3) := by decide +kernel
theorem dX12_kindOf_79 : decode cX12_kindOf 79 = .ok (.iconst 1, 1) := by decide +kernel
theorem dX12_kindOf_80 : decode cX12_kindOf 80 = .ok (.ireturn, 1) := by decide +kernel
noncomputable def Mo_kindOf_L5 (l1 : Int32) (l2 : Int32) (σ : St) (x3 : Int32) (x4 : Int32) : Option ((Int32 × Int32) ⊕ Int32) :=
  chk (ix 0 2060) (if (σ.1 93 (tn 0)) ≤ x4 then (if x3 = 0 then (some (.inr 1)) else (some (.inr 2))) else (bd (Mo_isOn σ x4) (fun r4 => if r4 = 0 then (bnd (x4 + 1) (fun v5 => some (.inl (x3, v5)))) else (bd (Mo_restOf σ x4) (fun r7 => bd (Mo_modulusOf σ x4) (fun r9 => bd (Mo_common l2 r9) (fun r11 => chk (nzI r11) (if (jrem (l1 - r7) r11) = 0 then (bd (Mo_modulusOf σ x4) (fun r14 => chk (nzI r14) (if (jrem l2 r14) = 0 then (some (.inr 0)) else (bnd (x4 + 1) (fun v16 => some (.inl (1, v16))))))) else (bnd (x4 + 1) (fun v18 => some (.inl (x3, v18))))))))))))
set_option maxRecDepth 100000 in
set_option maxHeartbeats 4000000 in
theorem tb_Mo_kindOf_L5 {V : Ev} {Γ : Cn} {fin : Option Value × St} {l1 : Int32} {l2 : Int32} {σ : St} {x3 : Int32} {x4 : Int32} {o : ((Int32 × Int32) ⊕ Int32)} (X : Cx V Γ M_X12_kindOf) {A : ((Int32 × Int32) ⊕ Int32) → Prop}  (hr : ∀ (r : Int32), A (.inr r) → (some (.int r), σ) = fin) (hb5 : ∀ (x3 : Int32) (x4 : Int32), A (.inl (x3, x4)) → Go V Γ M_X12_kindOf (Zm V Γ 2 fin) 5 [(0, .ref (V.2.2.1 + 92)), (1, .int l1), (2, .int l2), (3, .int x3), (4, .int x4)] [] σ) (h : Mo_kindOf_L5 l1 l2 σ x3 x4 = some o) (hA : A o) : Go V Γ M_X12_kindOf (Zm V Γ 2 fin) 5 [(0, .ref (V.2.2.1 + 92)), (1, .int l1), (2, .int l2), (3, .int x3), (4, .int x4)] [] σ := by
  unfold Mo_kindOf_L5 at h
  refine g_iload (pc := 5) X 4 rfl dX12_kindOf_5 ?_
  refine g_aload_n (pc := 7) X 0 rfl dX12_kindOf_7 ?_
  refine g_getR (r := 93) (pc := 8) X k_fl_X12_7 s_92 rfl dX12_kindOf_8 ?_
  refine g_iconst (v := 0) (pc := 11) X rfl dX12_kindOf_11 ?_
  obtain ⟨c1, h⟩ := chk_e h
  refine g_iald (pc := 12) X s_93 c1 dX12_kindOf_12 ?_
  refine g_icmp_ge (pc := 13) (tgt := 71) X dX12_kindOf_13 rfl (fun c21 => ?_) (fun c21 => ?_)
  · replace h := if_t c21 h
    refine g_iload_n (pc := 71) X 3 rfl dX12_kindOf_71 ?_
    refine g_if_eq (pc := 72) (tgt := 79) X dX12_kindOf_72 rfl (fun c2 => ?_) (fun c2 => ?_)
    · replace h := if_t c2 h
      refine g_iconst (v := 1) (pc := 79) X rfl dX12_kindOf_79 ?_
      cases h
      exact g_iret (pc := 80) X rfl rfl (hr _ hA) dX12_kindOf_80
    · replace h := if_f c2 h
      refine g_iconst (v := 2) (pc := 75) X rfl dX12_kindOf_75 ?_
      refine g_goto (pc := 76) (tgt := 80) X dX12_kindOf_76 rfl ?_
      cases h
      exact g_iret (pc := 80) X rfl rfl (hr _ hA) dX12_kindOf_80
  · replace h := if_f c21 h
    refine g_aload_n (pc := 16) X 0 rfl dX12_kindOf_16 ?_
    refine g_iload (pc := 17) X 4 rfl dX12_kindOf_17 ?_
    obtain ⟨r4, hc3, h⟩ := bd_e h
    refine g_callV (pc := 19) X k_ml_X12_238 (run_Mo_isOn  hc3) s_92 rfl (room_ok (Nat.le_of_ble_eq_true rfl) (Nat.le_of_ble_eq_true rfl)) ⟨Nat.le_refl _, Nat.le_refl _⟩ _ rfl (Nat.le_of_ble_eq_true rfl) dX12_kindOf_19 ?_
    show Go V Γ M_X12_kindOf (Zm V Γ 2 fin) 22 [(0, .ref (V.2.2.1 + 92)), (1, .int l1), (2, .int l2), (3, .int x3), (4, .int x4)] [.int r4] σ
    refine g_if_eq (pc := 22) (tgt := 65) X dX12_kindOf_22 rfl (fun c20 => ?_) (fun c20 => ?_)
    · replace h := if_t c20 h
      obtain ⟨v5, e_v5, h⟩ := bnd_e h
      refine g_iinc (pc := 65) (v := v5) X [(4, .int v5), (0, .ref (V.2.2.1 + 92)), (1, .int l1), (2, .int l2), (3, .int x3)] 4 rfl (by rw [e_v5]; rfl) (Nat.le_of_ble_eq_true rfl) rfl dX12_kindOf_65 ?_
      refine g_goto (pc := 68) (tgt := 5) X dX12_kindOf_68 rfl ?_
      refine g_sub [1, 2, 3, 4, 0] rfl ?_
      cases h
      exact hb5 _ _ hA
    · replace h := if_f c20 h
      refine g_iload_n (pc := 25) X 1 rfl dX12_kindOf_25 ?_
      refine g_aload_n (pc := 26) X 0 rfl dX12_kindOf_26 ?_
      refine g_iload (pc := 27) X 4 rfl dX12_kindOf_27 ?_
      obtain ⟨r7, hc6, h⟩ := bd_e h
      refine g_callV (pc := 29) X k_ml_X12_256 (run_Mo_restOf  hc6) s_92 rfl (room_ok (Nat.le_of_ble_eq_true rfl) (Nat.le_of_ble_eq_true rfl)) ⟨Nat.le_refl _, Nat.le_refl _⟩ _ rfl (Nat.le_of_ble_eq_true rfl) dX12_kindOf_29 ?_
      show Go V Γ M_X12_kindOf (Zm V Γ 2 fin) 32 [(0, .ref (V.2.2.1 + 92)), (1, .int l1), (2, .int l2), (3, .int x3), (4, .int x4)] [.int r7, .int l1] σ
      refine g_isub (pc := 32) X dX12_kindOf_32 ?_
      refine g_iload_n (pc := 33) X 2 rfl dX12_kindOf_33 ?_
      refine g_aload_n (pc := 34) X 0 rfl dX12_kindOf_34 ?_
      refine g_iload (pc := 35) X 4 rfl dX12_kindOf_35 ?_
      obtain ⟨r9, hc8, h⟩ := bd_e h
      refine g_callV (pc := 37) X k_ml_X12_244 (run_Mo_modulusOf  hc8) s_92 rfl (room_ok (Nat.le_of_ble_eq_true rfl) (Nat.le_of_ble_eq_true rfl)) ⟨Nat.le_refl _, Nat.le_refl _⟩ _ rfl (Nat.le_of_ble_eq_true rfl) dX12_kindOf_37 ?_
      show Go V Γ M_X12_kindOf (Zm V Γ 2 fin) 40 [(0, .ref (V.2.2.1 + 92)), (1, .int l1), (2, .int l2), (3, .int x3), (4, .int x4)] [.int r9, .int l2, .int (l1 - r7)] σ
      obtain ⟨r11, hc10, h⟩ := bd_e h
      refine g_callS (pc := 40) X k_ml_X12_247 (run_Mo_common  hc10) rfl (room_ok (Nat.le_of_ble_eq_true rfl) (Nat.le_of_ble_eq_true rfl)) ⟨Nat.le_refl _, Nat.le_refl _⟩ _ rfl (Nat.le_of_ble_eq_true rfl) dX12_kindOf_40 ?_
      show Go V Γ M_X12_kindOf (Zm V Γ 2 fin) 43 [(0, .ref (V.2.2.1 + 92)), (1, .int l1), (2, .int l2), (3, .int x3), (4, .int x4)] [.int r11, .int (l1 - r7)] σ
      obtain ⟨c12, h⟩ := chk_e h
      refine g_irem (pc := 43) X (nzI_e c12) dX12_kindOf_43 ?_
      refine g_if_eq (pc := 44) (tgt := 50) X dX12_kindOf_44 rfl (fun c19 => ?_) (fun c19 => ?_)
      · replace h := if_t c19 h
        refine g_iload_n (pc := 50) X 2 rfl dX12_kindOf_50 ?_
        refine g_aload_n (pc := 51) X 0 rfl dX12_kindOf_51 ?_
        refine g_iload (pc := 52) X 4 rfl dX12_kindOf_52 ?_
        obtain ⟨r14, hc13, h⟩ := bd_e h
        refine g_callV (pc := 54) X k_ml_X12_244 (run_Mo_modulusOf  hc13) s_92 rfl (room_ok (Nat.le_of_ble_eq_true rfl) (Nat.le_of_ble_eq_true rfl)) ⟨Nat.le_refl _, Nat.le_refl _⟩ _ rfl (Nat.le_of_ble_eq_true rfl) dX12_kindOf_54 ?_
        show Go V Γ M_X12_kindOf (Zm V Γ 2 fin) 57 [(0, .ref (V.2.2.1 + 92)), (1, .int l1), (2, .int l2), (3, .int x3), (4, .int x4)] [.int r14, .int l2] σ
        obtain ⟨c15, h⟩ := chk_e h
        refine g_irem (pc := 57) X (nzI_e c15) dX12_kindOf_57 ?_
        refine g_if_ne (pc := 58) (tgt := 63) X dX12_kindOf_58 rfl (fun c17 => ?_) (fun c17 => ?_)
        · replace h := if_f c17 h
          refine g_iconst (v := 1) (pc := 63) X rfl dX12_kindOf_63 ?_
          refine g_istore_n (pc := 64) X [(3, .int 1), (0, .ref (V.2.2.1 + 92)), (1, .int l1), (2, .int l2), (4, .int x4)] rfl (Nat.le_of_ble_eq_true rfl) rfl dX12_kindOf_64 ?_
          obtain ⟨v16, e_v16, h⟩ := bnd_e h
          refine g_iinc (pc := 65) (v := v16) X [(4, .int v16), (3, .int 1), (0, .ref (V.2.2.1 + 92)), (1, .int l1), (2, .int l2)] 4 rfl (by rw [e_v16]; rfl) (Nat.le_of_ble_eq_true rfl) rfl dX12_kindOf_65 ?_
          refine g_goto (pc := 68) (tgt := 5) X dX12_kindOf_68 rfl ?_
          refine g_sub [2, 3, 4, 1, 0] rfl ?_
          cases h
          exact hb5 _ _ hA
        · replace h := if_t c17 h
          refine g_iconst (v := 0) (pc := 61) X rfl dX12_kindOf_61 ?_
          cases h
          exact g_iret (pc := 62) X rfl rfl (hr _ hA) dX12_kindOf_62
      · replace h := if_f c19 h
        refine g_goto (pc := 47) (tgt := 65) X dX12_kindOf_47 rfl ?_
        obtain ⟨v18, e_v18, h⟩ := bnd_e h
        refine g_iinc (pc := 65) (v := v18) X [(4, .int v18), (0, .ref (V.2.2.1 + 92)), (1, .int l1), (2, .int l2), (3, .int x3)] 4 rfl (by rw [e_v18]; rfl) (Nat.le_of_ble_eq_true rfl) rfl dX12_kindOf_65 ?_
        refine g_goto (pc := 68) (tgt := 5) X dX12_kindOf_68 rfl ?_
        refine g_sub [1, 2, 3, 4, 0] rfl ?_
        cases h
        exact hb5 _ _ hA
set_option maxRecDepth 100000 in
theorem tl_Mo_kindOf_L5 {V : Ev} {Γ : Cn} {fin : Option Value × St} {l1 : Int32} {l2 : Int32} {σ : St} {x3 : Int32} {x4 : Int32} (X : Cx V Γ M_X12_kindOf)  {e : Int32} {A : Int32 → Prop} (hr : ∀ (r : Int32), A r → (some (.int r), σ) = fin) {n : Nat} (h : iter (fun s : (Int32 × Int32) => Mo_kindOf_L5 l1 l2 σ s.1 s.2) n (x3, x4) = some e) (hA : A e) : Go V Γ M_X12_kindOf (Zm V Γ 2 fin) 5 [(0, .ref (V.2.2.1 + 92)), (1, .int l1), (2, .int l2), (3, .int x3), (4, .int x4)] [] σ := by
  refine iter_go (G := (fun s : (Int32 × Int32) => Go V Γ M_X12_kindOf (Zm V Γ 2 fin) 5 [(0, .ref (V.2.2.1 + 92)), (1, .int l1), (2, .int l2), (3, .int s.1), (4, .int s.2)] [] σ)) (fun s o ho hS => ?_) n (x3, x4) h
  exact tb_Mo_kindOf_L5 X  (fun z0 he => hr z0 (by rw [he]; exact hA)) (fun _ _ h9 => h9) ho hS
noncomputable def Mo_kindOf (σ : St) (p1 : Int32) (p2 : Int32) : Option Int32 :=
  iter (fun s : (Int32 × Int32) => Mo_kindOf_L5 p1 p2 σ s.1 s.2) FUEL (0, 0)
set_option maxRecDepth 100000 in
set_option maxHeartbeats 4000000 in
theorem tm_Mo_kindOf {V : Ev} {Γ : Cn} {fin : Option Value × St} {σ : St} {p1 : Int32} {p2 : Int32} {o : Int32} (X : Cx V Γ M_X12_kindOf) {A : Int32 → Prop}  (hr : ∀ (r : Int32), A r → (some (.int r), σ) = fin) (h : Mo_kindOf σ p1 p2 = some o) (hA : A o) : Go V Γ M_X12_kindOf (Zm V Γ 2 fin) 0 [(0, .ref (V.2.2.1 + 92)), (1, .int p1), (2, .int p2)] [] σ := by
  unfold Mo_kindOf at h
  refine g_iconst (v := 0) (pc := 0) X rfl dX12_kindOf_0 ?_
  refine g_istore_n (pc := 1) X [(3, .int 0), (0, .ref (V.2.2.1 + 92)), (1, .int p1), (2, .int p2)] rfl (Nat.le_of_ble_eq_true rfl) rfl dX12_kindOf_1 ?_
  refine g_iconst (v := 0) (pc := 2) X rfl dX12_kindOf_2 ?_
  refine g_istore (pc := 3) X [(4, .int 0), (3, .int 0), (0, .ref (V.2.2.1 + 92)), (1, .int p1), (2, .int p2)] (Nat.le_of_ble_eq_true rfl) rfl dX12_kindOf_3 ?_
  refine g_sub [2, 3, 4, 1, 0] rfl ?_
  exact tl_Mo_kindOf_L5 X  hr h hA
set_option maxRecDepth 100000 in
theorem run_Mo_kindOf {V : Ev} {σ : St} {p1 : Int32} {p2 : Int32} {o : Int32}   (h : Mo_kindOf σ p1 p2 = some o) : Rs V 2 M_X12_kindOf [.ref (V.2.2.1 + 92), .int p1, .int p2] σ (some (.int o), σ) := by
  refine Rs.of (by decide +kernel) (Nat.le_of_ble_eq_true rfl) (fun Γ X => ?_)
  exact tm_Mo_kindOf X (A := fun o1 => o1 = o)  (fun _ e => by rw [e]) h rfl
