theorem dX7_placeOfBit_0 : decode cX7_placeOfBit 0 = .ok (.lload_n 0, 1) := by decide +kernel
theorem dX7_placeOfBit_1 : decode cX7_placeOfBit 1 = .ok (.lstore_n 3, 1) := by decide +kernel
theorem dX7_placeOfBit_2 : decode cX7_placeOfBit 2 = .ok (.iconst 0, 1) := by decide +kernel
theorem dX7_placeOfBit_3 : decode cX7_placeOfBit 3 = .ok (.istore 5, 2) := by decide +kernel
theorem dX7_placeOfBit_5 : decode cX7_placeOfBit 5 = .ok (.iload 5, 2) := by decide +kernel
theorem dX7_placeOfBit_7 : decode cX7_placeOfBit 7 = .ok (.iload_n 2, 1) := by decide +kernel
theorem dX7_placeOfBit_8 : decode cX7_placeOfBit 8 = .ok (.if_icmp .ge 15, 3) := by decide +kernel
theorem dX7_placeOfBit_11 : decode cX7_placeOfBit 11 = .ok (.lload_n 3, 1) := by decide +kernel
theorem dX7_placeOfBit_12 : decode cX7_placeOfBit 12 = .ok (.lload_n 3, 1) := by decide +kernel
theorem dX7_placeOfBit_13 : decode cX7_placeOfBit 13 = .ok (.lconst 1, 1) := by decide +kernel
theorem dX7_placeOfBit_14 : decode cX7_placeOfBit 14 = .ok (.lsub, 1) := by decide +kernel
theorem dX7_placeOfBit_15 : decode cX7_placeOfBit 15 = .ok (.land, 1) := by decide +kernel
theorem dX7_placeOfBit_16 : decode cX7_placeOfBit 16 = .ok (.lstore_n 3, 1) := by decide +kernel
theorem dX7_placeOfBit_17 : decode cX7_placeOfBit 17 = .ok (.iinc 5 1, 3) := by decide +kernel
theorem dX7_placeOfBit_20 : decode cX7_placeOfBit 20 = .ok (.goto (-15), 3) := by decide +kernel
theorem dX7_placeOfBit_23 : decode cX7_placeOfBit 23 = .ok (.lload_n 3, 1) := by decide +kernel
theorem dX7_placeOfBit_24 : decode cX7_placeOfBit 24 = .ok (.lload_n 3, 1) := by decide +kernel
theorem dX7_placeOfBit_25 : decode cX7_placeOfBit 25 = .ok (.lneg, 1) := by decide +kernel
theorem dX7_placeOfBit_26 : decode cX7_placeOfBit 26 = .ok (.land, 1) := by decide +kernel
theorem dX7_placeOfBit_27 : decode cX7_placeOfBit 27 = .ok (.lconst 1, 1) := by decide +kernel
theorem dX7_placeOfBit_28 : decode cX7_placeOfBit 28 = .ok (.lsub, 1) := by decide +kernel
theorem dX7_placeOfBit_29 : decode cX7_placeOfBit 29 = .ok (.invokestatic 78, 3) := by decide +kernel
theorem dX7_placeOfBit_32 : decode cX7_placeOfBit 32 = .ok (.ireturn, 1) := by decide +kernel
noncomputable def Si_placeOfBit_L5 (l2 : Int32) (x3 : Int64) (x5 : Int32) : Option ((Int64 × Int32) ⊕ Int64) :=
  if l2 ≤ x5 then (some (.inr x3)) else (bnd ((x3 &&& (x3 - 1))) (fun v1 => bnd (x5 + 1) (fun v2 => some (.inl (v1, v2)))))
set_option maxRecDepth 100000 in
set_option maxHeartbeats 4000000 in
theorem tb_Si_placeOfBit_L5 {V : Ev} {Γ : Cn} {fin : Option Value × St} {σ : St} {l2 : Int32} {x3 : Int64} {x5 : Int32} {o : ((Int64 × Int32) ⊕ Int64)} (X : Cx V Γ M_X7_placeOfBit) {A : ((Int64 × Int32) ⊕ Int64) → Prop}  (hb5 : ∀ (x3 : Int64) (x5 : Int32), A (.inl (x3, x5)) → Go V Γ M_X7_placeOfBit (Zm V Γ 1 fin) 5 [(2, .int l2), (3, .long x3), (5, .int x5)] [] σ) (hx5 : ∀ (x3 : Int64), A (.inr x3) → Go V Γ M_X7_placeOfBit (Zm V Γ 1 fin) 23 [(3, .long x3)] [] σ) (h : Si_placeOfBit_L5 l2 x3 x5 = some o) (hA : A o) : Go V Γ M_X7_placeOfBit (Zm V Γ 1 fin) 5 [(2, .int l2), (3, .long x3), (5, .int x5)] [] σ := by
  unfold Si_placeOfBit_L5 at h
  refine g_iload (pc := 5) X 2 rfl dX7_placeOfBit_5 ?_
  refine g_iload_n (pc := 7) X 0 rfl dX7_placeOfBit_7 ?_
  refine g_icmp_ge (pc := 8) (tgt := 23) X dX7_placeOfBit_8 rfl (fun c3 => ?_) (fun c3 => ?_)
  · replace h := if_t c3 h
    refine g_sub [1] rfl ?_
    cases h
    exact hx5 _ hA
  · replace h := if_f c3 h
    refine g_lload_n (pc := 11) X 1 rfl dX7_placeOfBit_11 ?_
    refine g_lload_n (pc := 12) X 1 rfl dX7_placeOfBit_12 ?_
    refine g_lconst (v := 1) (pc := 13) X rfl dX7_placeOfBit_13 ?_
    refine g_lsub (pc := 14) X dX7_placeOfBit_14 ?_
    refine g_land (pc := 15) X dX7_placeOfBit_15 ?_
    obtain ⟨v1, e_v1, h⟩ := bnd_e h
    refine g_nmL e_v1 ?_
    refine g_lstore_n (pc := 16) X [(3, .long v1), (2, .int l2), (5, .int x5)] rfl (Nat.le_of_ble_eq_true rfl) rfl dX7_placeOfBit_16 ?_
    obtain ⟨v2, e_v2, h⟩ := bnd_e h
    refine g_iinc (pc := 17) (v := v2) X [(5, .int v2), (3, .long v1), (2, .int l2)] 2 rfl (by rw [e_v2]; rfl) (Nat.le_of_ble_eq_true rfl) rfl dX7_placeOfBit_17 ?_
    refine g_goto (pc := 20) (tgt := 5) X dX7_placeOfBit_20 rfl ?_
    refine g_sub [2, 1, 0] rfl ?_
    cases h
    exact hb5 _ _ hA
set_option maxRecDepth 100000 in
theorem tl_Si_placeOfBit_L5 {V : Ev} {Γ : Cn} {fin : Option Value × St} {l2 : Int32} {σ : St} {x3 : Int64} {x5 : Int32} (X : Cx V Γ M_X7_placeOfBit)  {y3 : Int64} {n : Nat} (h : iter (fun s : (Int64 × Int32) => Si_placeOfBit_L5 l2 s.1 s.2) n (x3, x5) = some y3) (hK : Go V Γ M_X7_placeOfBit (Zm V Γ 1 fin) 23 [(3, .long y3)] [] σ) : Go V Γ M_X7_placeOfBit (Zm V Γ 1 fin) 5 [(2, .int l2), (3, .long x3), (5, .int x5)] [] σ := by
  refine iter_go (G := (fun s : (Int64 × Int32) => Go V Γ M_X7_placeOfBit (Zm V Γ 1 fin) 5 [(2, .int l2), (3, .long s.1), (5, .int s.2)] [] σ)) (fun s o ho hS => ?_) n (x3, x5) h
  exact tb_Si_placeOfBit_L5 X  (fun _ _ h9 => h9) (fun _ he => by cases he; exact hK) ho hS
noncomputable def Si_placeOfBit (p0 : Int64) (p1 : Int32) : Option Int32 :=
  bd (iter (fun s : (Int64 × Int32) => Si_placeOfBit_L5 p1 s.1 s.2) FUEL (p0, 0)) (fun v4 => bd (JL_bitCount_95d88 ((v4 &&& (-v4)) - 1)) (fun r7 => some r7))
set_option maxRecDepth 100000 in
set_option maxHeartbeats 4000000 in
theorem tm_Si_placeOfBit {V : Ev} {Γ : Cn} {fin : Option Value × St} {σ : St} {p0 : Int64} {p1 : Int32} {o : Int32} (X : Cx V Γ M_X7_placeOfBit) {A : Int32 → Prop}  (hr : ∀ (r : Int32), A r → (some (.int r), σ) = fin) (h : Si_placeOfBit p0 p1 = some o) (hA : A o) : Go V Γ M_X7_placeOfBit (Zm V Γ 1 fin) 0 [(0, .long p0), (2, .int p1)] [] σ := by
  unfold Si_placeOfBit at h
  refine g_lload_n (pc := 0) X 0 rfl dX7_placeOfBit_0 ?_
  refine g_lstore_n (pc := 1) X [(3, .long p0), (0, .long p0), (2, .int p1)] rfl (Nat.le_of_ble_eq_true rfl) rfl dX7_placeOfBit_1 ?_
  refine g_iconst (v := 0) (pc := 2) X rfl dX7_placeOfBit_2 ?_
  refine g_istore (pc := 3) X [(5, .int 0), (3, .long p0), (0, .long p0), (2, .int p1)] (Nat.le_of_ble_eq_true rfl) rfl dX7_placeOfBit_3 ?_
  refine g_sub [3, 1, 0] rfl ?_
  obtain ⟨v4, hi5, h⟩ := bd_e h
  refine tl_Si_placeOfBit_L5 X  hi5 ?_
  refine g_lload_n (pc := 23) X 0 rfl dX7_placeOfBit_23 ?_
  refine g_lload_n (pc := 24) X 0 rfl dX7_placeOfBit_24 ?_
  refine g_lneg (pc := 25) X dX7_placeOfBit_25 ?_
  refine g_land (pc := 26) X dX7_placeOfBit_26 ?_
  refine g_lconst (v := 1) (pc := 27) X rfl dX7_placeOfBit_27 ?_
  refine g_lsub (pc := 28) X dX7_placeOfBit_28 ?_
  obtain ⟨r7, hc6, h⟩ := bd_e h
  refine g_callS (pc := 29) X k_ml_X7_78 (run_JL_bitCount_95d88  hc6) rfl (room_ok (Nat.le_of_ble_eq_true rfl) (Nat.le_of_ble_eq_true rfl)) ⟨Nat.le_refl _, Nat.le_refl _⟩ _ rfl (Nat.le_of_ble_eq_true rfl) dX7_placeOfBit_29 ?_
  show Go V Γ M_X7_placeOfBit (Zm V Γ 1 fin) 32 [(3, .long v4)] [.int r7] σ
  cases h
  exact g_iret (pc := 32) X rfl rfl (hr _ hA) dX7_placeOfBit_32
set_option maxRecDepth 100000 in
theorem run_Si_placeOfBit {V : Ev} {σ : St} {p0 : Int64} {p1 : Int32} {o : Int32}   (h : Si_placeOfBit p0 p1 = some o) : Rs V 1 M_X7_placeOfBit [.long p0, .int p1] σ (some (.int o), σ) := by
  refine Rs.of (by decide +kernel) (Nat.le_of_ble_eq_true rfl) (fun Γ X => ?_)
  exact tm_Si_placeOfBit X (A := fun o1 => o1 = o)  (fun _ e => by rw [e]) h rfl
theorem dX7_findGap_0 : decode cX7_findGap 0 = .ok (.iconst 0, 1) := by decide +kernel
theorem dX7_findGap_1 : decode cX7_findGap 1 = .ok (.istore_n 2, 1) := by decide +kernel
theorem dX7_findGap_2 : decode cX7_findGap 2 = .ok (.iconst 0, 1) := by decide +kernel
theorem dX7_findGap_3 : decode cX7_findGap 3 = .ok (.istore_n 3, 1) := by decide +kernel
theorem dX7_findGap_4 : decode cX7_findGap 4 = .ok (.iload_n 3, 1) := by decide +kernel
theorem dX7_findGap_5 : decode cX7_findGap 5 = .ok (.aload_n 0, 1) := by decide +kernel
theorem dX7_findGap_6 : decode cX7_findGap 6 = .ok (.getfield 25, 3) := by decide +kernel
theorem dX7_findGap_9 : decode cX7_findGap 9 = .ok (.if_icmp .ge 53, 3) := by decide +kernel
theorem dX7_findGap_12 : decode cX7_findGap 12 = .ok (.iload_n 1, 1) := by decide +kernel
theorem dX7_findGap_13 : decode cX7_findGap 13 = .ok (.ifCond .lt 49, 3) := by decide +kernel
theorem dX7_findGap_16 : decode cX7_findGap 16 = .ok (.aload_n 0, 1) := by decide +kernel
theorem dX7_findGap_17 : decode cX7_findGap 17 = .ok (.iload_n 3, 1) := by decide +kernel
theorem dX7_findGap_18 : decode cX7_findGap 18 = .ok (.invokevirtual 75, 3) := by decide +kernel
theorem dX7_findGap_21 : decode cX7_findGap 21 = .ok (.invokestatic 78, 3) := by decide +kernel
theorem dX7_findGap_24 : decode cX7_findGap 24 = .ok (.istore 4, 2) := by decide +kernel
theorem dX7_findGap_26 : decode cX7_findGap 26 = .ok (.iload_n 1, 1) := by decide +kernel
theorem dX7_findGap_27 : decode cX7_findGap 27 = .ok (.iload_n 2, 1) := by decide +kernel
theorem dX7_findGap_28 : decode cX7_findGap 28 = .ok (.iload 4, 2) := by decide +kernel
theorem dX7_findGap_30 : decode cX7_findGap 30 = .ok (.iadd, 1) := by decide +kernel
theorem dX7_findGap_31 : decode cX7_findGap 31 = .ok (.if_icmp .ge 20, 3) := by decide +kernel
theorem dX7_findGap_34 : decode cX7_findGap 34 = .ok (.iload_n 3, 1) := by decide +kernel
theorem dX7_findGap_35 : decode cX7_findGap 35 = .ok (.bipush 64, 2) := by decide +kernel
theorem dX7_findGap_37 : decode cX7_findGap 37 = .ok (.imul, 1) := by decide +kernel
theorem dX7_findGap_38 : decode cX7_findGap 38 = .ok (.aload_n 0, 1) := by decide +kernel
theorem dX7_findGap_39 : decode cX7_findGap 39 = .ok (.iload_n 3, 1) := by decide +kernel
theorem dX7_findGap_40 : decode cX7_findGap 40 = .ok (.invokevirtual 75, 3) := by decide +kernel
theorem dX7_findGap_43 : decode cX7_findGap 43 = .ok (.iload_n 1, 1) := by decide +kernel
theorem dX7_findGap_44 : decode cX7_findGap 44 = .ok (.iload_n 2, 1) := by decide +kernel
theorem dX7_findGap_45 : decode cX7_findGap 45 = .ok (.isub, 1) := by decide +kernel
theorem dX7_findGap_46 : decode cX7_findGap 46 = .ok (.invokestatic 84, 3) := by decide +kernel
theorem dX7_findGap_49 : decode cX7_findGap 49 = .ok (.iadd, 1) := by decide +kernel
theorem dX7_findGap_50 : decode cX7_findGap 50 = .ok (.ireturn, 1) := by decide +kernel
theorem dX7_findGap_51 : decode cX7_findGap 51 = .ok (.iload_n 2, 1) := by decide +kernel
theorem dX7_findGap_52 : decode cX7_findGap 52 = .ok (.iload 4, 2) := by decide +kernel
theorem dX7_findGap_54 : decode cX7_findGap 54 = .ok (.iadd, 1) := by decide +kernel
theorem dX7_findGap_55 : decode cX7_findGap 55 = .ok (.istore_n 2, 1) := by decide +kernel
theorem dX7_findGap_56 : decode cX7_findGap 56 = .ok (.iinc 3 1, 3) := by decide +kernel
theorem dX7_findGap_59 : decode cX7_findGap 59 = .ok (.goto (-55), 3) := by decide +kernel
theorem dX7_findGap_62 : decode cX7_findGap 62 = .ok (.iconst (-1), 1) := by decide +kernel
theorem dX7_findGap_63 : decode cX7_findGap 63 = .ok (.ireturn, 1) := by decide +kernel
noncomputable def Si_findGap_L4 (l1 : Int32) (σ : St) (x2 : Int32) (x3 : Int32) : Option ((Int32 × Int32) ⊕ Int32) :=
  if (σ.1 31 4) ≤ x3 then (some (.inr (-1))) else (if l1 < 0 then (some (.inr (-1))) else (bd (Si_openIn σ x3) (fun r2 => bd (JL_bitCount_95d88 r2) (fun r4 => if (x2 + r4) ≤ l1 then (bnd ((x2 + r4)) (fun v5 => bnd (x3 + 1) (fun v6 => some (.inl (v5, v6))))) else (bd (Si_openIn σ x3) (fun r8 => bd (Si_placeOfBit r8 (l1 - x2)) (fun r10 => some (.inr ((x3 * 64) + r10)))))))))
set_option maxRecDepth 100000 in
set_option maxHeartbeats 4000000 in
theorem tb_Si_findGap_L4 {V : Ev} {Γ : Cn} {fin : Option Value × St} {l1 : Int32} {σ : St} {x2 : Int32} {x3 : Int32} {o : ((Int32 × Int32) ⊕ Int32)} (X : Cx V Γ M_X7_findGap) {A : ((Int32 × Int32) ⊕ Int32) → Prop}  (hr : ∀ (r : Int32), A (.inr r) → (some (.int r), σ) = fin) (hb4 : ∀ (x2 : Int32) (x3 : Int32), A (.inl (x2, x3)) → Go V Γ M_X7_findGap (Zm V Γ 3 fin) 4 [(0, .ref (V.2.2.1 + 31)), (1, .int l1), (2, .int x2), (3, .int x3)] [] σ) (h : Si_findGap_L4 l1 σ x2 x3 = some o) (hA : A o) : Go V Γ M_X7_findGap (Zm V Γ 3 fin) 4 [(0, .ref (V.2.2.1 + 31)), (1, .int l1), (2, .int x2), (3, .int x3)] [] σ := by
  unfold Si_findGap_L4 at h
  refine g_iload_n (pc := 4) X 3 rfl dX7_findGap_4 ?_
  refine g_aload_n (pc := 5) X 0 rfl dX7_findGap_5 ?_
  refine g_getI (pc := 6) X k_fl_X7_25 s_31 rfl dX7_findGap_6 ?_
  refine g_icmp_ge (pc := 9) (tgt := 62) X dX7_findGap_9 rfl (fun c13 => ?_) (fun c13 => ?_)
  · replace h := if_t c13 h
    refine g_iconst (v := (-1)) (pc := 62) X rfl dX7_findGap_62 ?_
    cases h
    exact g_iret (pc := 63) X rfl rfl (hr _ hA) dX7_findGap_63
  · replace h := if_f c13 h
    refine g_iload_n (pc := 12) X 1 rfl dX7_findGap_12 ?_
    refine g_if_lt (pc := 13) (tgt := 62) X dX7_findGap_13 rfl (fun c12 => ?_) (fun c12 => ?_)
    · replace h := if_t c12 h
      refine g_iconst (v := (-1)) (pc := 62) X rfl dX7_findGap_62 ?_
      cases h
      exact g_iret (pc := 63) X rfl rfl (hr _ hA) dX7_findGap_63
    · replace h := if_f c12 h
      refine g_aload_n (pc := 16) X 0 rfl dX7_findGap_16 ?_
      refine g_iload_n (pc := 17) X 3 rfl dX7_findGap_17 ?_
      obtain ⟨r2, hc1, h⟩ := bd_e h
      refine g_callV (pc := 18) X k_ml_X7_75 (run_Si_openIn  hc1) s_31 rfl (room_ok (Nat.le_of_ble_eq_true rfl) (Nat.le_of_ble_eq_true rfl)) ⟨Nat.le_refl _, Nat.le_refl _⟩ _ rfl (Nat.le_of_ble_eq_true rfl) dX7_findGap_18 ?_
      show Go V Γ M_X7_findGap (Zm V Γ 3 fin) 21 [(0, .ref (V.2.2.1 + 31)), (1, .int l1), (2, .int x2), (3, .int x3)] [.long r2] σ
      obtain ⟨r4, hc3, h⟩ := bd_e h
      refine g_callS (pc := 21) X k_ml_X7_78 (run_JL_bitCount_95d88  hc3) rfl (room_ok (Nat.le_of_ble_eq_true rfl) (Nat.le_of_ble_eq_true rfl)) ⟨Nat.le_refl _, Nat.le_refl _⟩ _ rfl (Nat.le_of_ble_eq_true rfl) dX7_findGap_21 ?_
      show Go V Γ M_X7_findGap (Zm V Γ 3 fin) 24 [(0, .ref (V.2.2.1 + 31)), (1, .int l1), (2, .int x2), (3, .int x3)] [.int r4] σ
      refine g_istore (pc := 24) X [(4, .int r4), (0, .ref (V.2.2.1 + 31)), (1, .int l1), (2, .int x2), (3, .int x3)] (Nat.le_of_ble_eq_true rfl) rfl dX7_findGap_24 ?_
      refine g_iload_n (pc := 26) X 2 rfl dX7_findGap_26 ?_
      refine g_iload_n (pc := 27) X 3 rfl dX7_findGap_27 ?_
      refine g_iload (pc := 28) X 0 rfl dX7_findGap_28 ?_
      refine g_iadd (pc := 30) X dX7_findGap_30 ?_
      refine g_icmp_ge (pc := 31) (tgt := 51) X dX7_findGap_31 rfl (fun c11 => ?_) (fun c11 => ?_)
      · replace h := if_t c11 h
        refine g_iload_n (pc := 51) X 3 rfl dX7_findGap_51 ?_
        refine g_iload (pc := 52) X 0 rfl dX7_findGap_52 ?_
        refine g_iadd (pc := 54) X dX7_findGap_54 ?_
        obtain ⟨v5, e_v5, h⟩ := bnd_e h
        refine g_nmI e_v5 ?_
        refine g_istore_n (pc := 55) X [(2, .int v5), (4, .int r4), (0, .ref (V.2.2.1 + 31)), (1, .int l1), (3, .int x3)] rfl (Nat.le_of_ble_eq_true rfl) rfl dX7_findGap_55 ?_
        obtain ⟨v6, e_v6, h⟩ := bnd_e h
        refine g_iinc (pc := 56) (v := v6) X [(3, .int v6), (2, .int v5), (4, .int r4), (0, .ref (V.2.2.1 + 31)), (1, .int l1)] 4 rfl (by rw [e_v6]; rfl) (Nat.le_of_ble_eq_true rfl) rfl dX7_findGap_56 ?_
        refine g_goto (pc := 59) (tgt := 4) X dX7_findGap_59 rfl ?_
        refine g_sub [3, 4, 1, 0] rfl ?_
        cases h
        exact hb4 _ _ hA
      · replace h := if_f c11 h
        refine g_iload_n (pc := 34) X 4 rfl dX7_findGap_34 ?_
        refine g_bipush (v := 64) (pc := 35) X (by decide) dX7_findGap_35 ?_
        refine g_imul (pc := 37) X dX7_findGap_37 ?_
        refine g_aload_n (pc := 38) X 1 rfl dX7_findGap_38 ?_
        refine g_iload_n (pc := 39) X 4 rfl dX7_findGap_39 ?_
        obtain ⟨r8, hc7, h⟩ := bd_e h
        refine g_callV (pc := 40) X k_ml_X7_75 (run_Si_openIn  hc7) s_31 rfl (room_ok (Nat.le_of_ble_eq_true rfl) (Nat.le_of_ble_eq_true rfl)) ⟨Nat.le_refl _, Nat.le_refl _⟩ _ rfl (Nat.le_of_ble_eq_true rfl) dX7_findGap_40 ?_
        show Go V Γ M_X7_findGap (Zm V Γ 3 fin) 43 [(4, .int r4), (0, .ref (V.2.2.1 + 31)), (1, .int l1), (2, .int x2), (3, .int x3)] [.long r8, .int (x3 * 64)] σ
        refine g_iload_n (pc := 43) X 2 rfl dX7_findGap_43 ?_
        refine g_iload_n (pc := 44) X 3 rfl dX7_findGap_44 ?_
        refine g_isub (pc := 45) X dX7_findGap_45 ?_
        obtain ⟨r10, hc9, h⟩ := bd_e h
        refine g_callS (pc := 46) X k_ml_X7_84 (run_Si_placeOfBit  hc9) rfl (room_ok (Nat.le_of_ble_eq_true rfl) (Nat.le_of_ble_eq_true rfl)) ⟨Nat.le_refl _, Nat.le_refl _⟩ _ rfl (Nat.le_of_ble_eq_true rfl) dX7_findGap_46 ?_
        show Go V Γ M_X7_findGap (Zm V Γ 3 fin) 49 [(4, .int r4), (0, .ref (V.2.2.1 + 31)), (1, .int l1), (2, .int x2), (3, .int x3)] [.int r10, .int (x3 * 64)] σ
        refine g_iadd (pc := 49) X dX7_findGap_49 ?_
        cases h
        exact g_iret (pc := 50) X rfl rfl (hr _ hA) dX7_findGap_50
set_option maxRecDepth 100000 in
theorem tl_Si_findGap_L4 {V : Ev} {Γ : Cn} {fin : Option Value × St} {l1 : Int32} {σ : St} {x2 : Int32} {x3 : Int32} (X : Cx V Γ M_X7_findGap)  {e : Int32} {A : Int32 → Prop} (hr : ∀ (r : Int32), A r → (some (.int r), σ) = fin) {n : Nat} (h : iter (fun s : (Int32 × Int32) => Si_findGap_L4 l1 σ s.1 s.2) n (x2, x3) = some e) (hA : A e) : Go V Γ M_X7_findGap (Zm V Γ 3 fin) 4 [(0, .ref (V.2.2.1 + 31)), (1, .int l1), (2, .int x2), (3, .int x3)] [] σ := by
  refine iter_go (G := (fun s : (Int32 × Int32) => Go V Γ M_X7_findGap (Zm V Γ 3 fin) 4 [(0, .ref (V.2.2.1 + 31)), (1, .int l1), (2, .int s.1), (3, .int s.2)] [] σ)) (fun s o ho hS => ?_) n (x2, x3) h
  exact tb_Si_findGap_L4 X  (fun z0 he => hr z0 (by rw [he]; exact hA)) (fun _ _ h9 => h9) ho hS
noncomputable def Si_findGap (σ : St) (p1 : Int32) : Option Int32 :=
  iter (fun s : (Int32 × Int32) => Si_findGap_L4 p1 σ s.1 s.2) FUEL (0, 0)
set_option maxRecDepth 100000 in
set_option maxHeartbeats 4000000 in
theorem tm_Si_findGap {V : Ev} {Γ : Cn} {fin : Option Value × St} {σ : St} {p1 : Int32} {o : Int32} (X : Cx V Γ M_X7_findGap) {A : Int32 → Prop}  (hr : ∀ (r : Int32), A r → (some (.int r), σ) = fin) (h : Si_findGap σ p1 = some o) (hA : A o) : Go V Γ M_X7_findGap (Zm V Γ 3 fin) 0 [(0, .ref (V.2.2.1 + 31)), (1, .int p1)] [] σ := by
  unfold Si_findGap at h
  refine g_iconst (v := 0) (pc := 0) X rfl dX7_findGap_0 ?_
  refine g_istore_n (pc := 1) X [(2, .int 0), (0, .ref (V.2.2.1 + 31)), (1, .int p1)] rfl (Nat.le_of_ble_eq_true rfl) rfl dX7_findGap_1 ?_
  refine g_iconst (v := 0) (pc := 2) X rfl dX7_findGap_2 ?_
  refine g_istore_n (pc := 3) X [(3, .int 0), (2, .int 0), (0, .ref (V.2.2.1 + 31)), (1, .int p1)] rfl (Nat.le_of_ble_eq_true rfl) rfl dX7_findGap_3 ?_
  refine g_sub [2, 3, 1, 0] rfl ?_
  exact tl_Si_findGap_L4 X  hr h hA
set_option maxRecDepth 100000 in
theorem run_Si_findGap {V : Ev} {σ : St} {p1 : Int32} {o : Int32}   (h : Si_findGap σ p1 = some o) : Rs V 3 M_X7_findGap [.ref (V.2.2.1 + 31), .int p1] σ (some (.int o), σ) := by
  refine Rs.of (by decide +kernel) (Nat.le_of_ble_eq_true rfl) (fun Γ X => ?_)
  exact tm_Si_findGap X (A := fun o1 => o1 = o)  (fun _ e => by rw [e]) h rfl
theorem dX7_countOnlyBy_0 : decode cX7_countOnlyBy 0 = .ok (.aload_n 1, 1) := by decide +kernel
theorem dX7_countOnlyBy_1 : decode cX7_countOnlyBy 1 = .ok (.getfield 50, 3) := by decide +kernel
theorem dX7_countOnlyBy_4 : decode cX7_countOnlyBy 4 = .ok (.iload_n 2, 1) := by decide +kernel
theorem dX7_countOnlyBy_5 : decode cX7_countOnlyBy 5 = .ok (.iaload, 1) := by decide +kernel
theorem dX7_countOnlyBy_6 : decode cX7_countOnlyBy 6 = .ok (.istore_n 3, 1) := by decide +kernel
theorem dX7_countOnlyBy_7 : decode cX7_countOnlyBy 7 = .ok (.iload_n 3, 1) := by decide +kernel
theorem dX7_countOnlyBy_8 : decode cX7_countOnlyBy 8 = .ok (.invokestatic 61, 3) := by decide +kernel
theorem dX7_countOnlyBy_11 : decode cX7_countOnlyBy 11 = .ok (.lstore 4, 2) := by decide +kernel
theorem dX7_countOnlyBy_13 : decode cX7_countOnlyBy 13 = .ok (.iconst 0, 1) := by decide +kernel
theorem dX7_countOnlyBy_14 : decode cX7_countOnlyBy 14 = .ok (.istore 6, 2) := by decide +kernel
theorem dX7_countOnlyBy_16 : decode cX7_countOnlyBy 16 = .ok (.iconst 0, 1) := by decide +kernel
theorem dX7_countOnlyBy_17 : decode cX7_countOnlyBy 17 = .ok (.istore 7, 2) := by decide +kernel
theorem dX7_countOnlyBy_19 : decode cX7_countOnlyBy 19 = .ok (.iload 7, 2) := by decide +kernel
theorem dX7_countOnlyBy_21 : decode cX7_countOnlyBy 21 = .ok (.aload_n 0, 1) := by decide +kernel
theorem dX7_countOnlyBy_22 : decode cX7_countOnlyBy 22 = .ok (.getfield 25, 3) := by decide +kernel
theorem dX7_countOnlyBy_25 : decode cX7_countOnlyBy 25 = .ok (.if_icmp .ge 57, 3) := by decide +kernel
theorem dX7_countOnlyBy_28 : decode cX7_countOnlyBy 28 = .ok (.lload 4, 2) := by decide +kernel
theorem dX7_countOnlyBy_30 : decode cX7_countOnlyBy 30 = .ok (.iload_n 3, 1) := by decide +kernel
theorem dX7_countOnlyBy_31 : decode cX7_countOnlyBy 31 = .ok (.aload_n 1, 1) := by decide +kernel
theorem dX7_countOnlyBy_32 : decode cX7_countOnlyBy 32 = .ok (.getfield 54, 3) := by decide +kernel
theorem dX7_countOnlyBy_35 : decode cX7_countOnlyBy 35 = .ok (.iload_n 2, 1) := by decide +kernel
theorem dX7_countOnlyBy_36 : decode cX7_countOnlyBy 36 = .ok (.iaload, 1) := by decide +kernel
theorem dX7_countOnlyBy_37 : decode cX7_countOnlyBy 37 = .ok (.iload 7, 2) := by decide +kernel
theorem dX7_countOnlyBy_39 : decode cX7_countOnlyBy 39 = .ok (.invokestatic 88, 3) := by decide +kernel
theorem dX7_countOnlyBy_42 : decode cX7_countOnlyBy 42 = .ok (.aload_n 0, 1) := by decide +kernel
theorem dX7_countOnlyBy_43 : decode cX7_countOnlyBy 43 = .ok (.getfield 21, 3) := by decide +kernel
theorem dX7_countOnlyBy_46 : decode cX7_countOnlyBy 46 = .ok (.iload 7, 2) := by decide +kernel
theorem dX7_countOnlyBy_48 : decode cX7_countOnlyBy 48 = .ok (.invokestatic 71, 3) := by decide +kernel
theorem dX7_countOnlyBy_51 : decode cX7_countOnlyBy 51 = .ok (.land, 1) := by decide +kernel
theorem dX7_countOnlyBy_52 : decode cX7_countOnlyBy 52 = .ok (.lstore 8, 2) := by decide +kernel
theorem dX7_countOnlyBy_54 : decode cX7_countOnlyBy 54 = .ok (.iload 6, 2) := by decide +kernel
theorem dX7_countOnlyBy_56 : decode cX7_countOnlyBy 56 = .ok (.lload 8, 2) := by decide +kernel
theorem dX7_countOnlyBy_58 : decode cX7_countOnlyBy 58 = .ok (.aload_n 0, 1) := by decide +kernel
theorem dX7_countOnlyBy_59 : decode cX7_countOnlyBy 59 = .ok (.getfield 15, 3) := by decide +kernel
theorem dX7_countOnlyBy_62 : decode cX7_countOnlyBy 62 = .ok (.iload 7, 2) := by decide +kernel
theorem dX7_countOnlyBy_64 : decode cX7_countOnlyBy 64 = .ok (.laload, 1) := by decide +kernel
theorem dX7_countOnlyBy_65 : decode cX7_countOnlyBy 65 = .ok (.ldc2_w 69, 3) := by decide +kernel
theorem dX7_countOnlyBy_68 : decode cX7_countOnlyBy 68 = .ok (.lxor, 1) := by decide +kernel
theorem dX7_countOnlyBy_69 : decode cX7_countOnlyBy 69 = .ok (.land, 1) := by decide +kernel
theorem dX7_countOnlyBy_70 : decode cX7_countOnlyBy 70 = .ok (.invokestatic 78, 3) := by decide +kernel
theorem dX7_countOnlyBy_73 : decode cX7_countOnlyBy 73 = .ok (.iadd, 1) := by decide +kernel
theorem dX7_countOnlyBy_74 : decode cX7_countOnlyBy 74 = .ok (.istore 6, 2) := by decide +kernel
theorem dX7_countOnlyBy_76 : decode cX7_countOnlyBy 76 = .ok (.iinc 7 1, 3) := by decide +kernel
theorem dX7_countOnlyBy_79 : decode cX7_countOnlyBy 79 = .ok (.goto (-60), 3) := by decide +kernel
theorem dX7_countOnlyBy_82 : decode cX7_countOnlyBy 82 = .ok (.iload 6, 2) := by decide +kernel
theorem dX7_countOnlyBy_84 : decode cX7_countOnlyBy 84 = .ok (.ireturn, 1) := by decide +kernel
noncomputable def Si_countOnlyBy_L19 (l1 : Nat) (l2 : Int32) (l3 : Int32) (l4 : Int64) (σ : St) (x6 : Int32) (x7 : Int32) : Option ((Int32 × Int32) ⊕ Int32) :=
  if (σ.1 31 4) ≤ x7 then (some (.inr x6)) else (chk (ix l2 12) (bd (RC_wordOf l4 l3 (σ.1 (l1 + 1) (tn l2)) x7) (fun r7 => bd (RC_insideOf (σ.1 31 3) x7) (fun r9 => bnd ((r7 &&& r9)) (fun v10 => chk (ix x7 79) (bd (JL_bitCount_95d88 (v10 &&& ((σ.2 33 (tn x7)) ^^^ (-1)))) (fun r13 => bnd ((x6 + r13)) (fun v14 => bnd (x7 + 1) (fun v15 => some (.inl (v14, v15)))))))))))
set_option maxRecDepth 100000 in
set_option maxHeartbeats 4000000 in
theorem tb_Si_countOnlyBy_L19 {V : Ev} {Γ : Cn} {fin : Option Value × St} {l1 : Nat} {l2 : Int32} {l3 : Int32} {l4 : Int64} {σ : St} {x6 : Int32} {x7 : Int32} {o : ((Int32 × Int32) ⊕ Int32)} (X : Cx V Γ M_X7_countOnlyBy) {A : ((Int32 × Int32) ⊕ Int32) → Prop} (k_l1 : okCl l1) (hb19 : ∀ (x6 : Int32) (x7 : Int32), A (.inl (x6, x7)) → Go V Γ M_X7_countOnlyBy (Zm V Γ 2 fin) 19 [(0, .ref (V.2.2.1 + 31)), (1, .ref (V.2.2.1 + l1)), (2, .int l2), (3, .int l3), (4, .long l4), (6, .int x6), (7, .int x7)] [] σ) (hx19 : ∀ (x6 : Int32), A (.inr x6) → Go V Γ M_X7_countOnlyBy (Zm V Γ 2 fin) 82 [(6, .int x6)] [] σ) (h : Si_countOnlyBy_L19 l1 l2 l3 l4 σ x6 x7 = some o) (hA : A o) : Go V Γ M_X7_countOnlyBy (Zm V Γ 2 fin) 19 [(0, .ref (V.2.2.1 + 31)), (1, .ref (V.2.2.1 + l1)), (2, .int l2), (3, .int l3), (4, .long l4), (6, .int x6), (7, .int x7)] [] σ := by
  unfold Si_countOnlyBy_L19 at h
  refine g_iload (pc := 19) X 6 rfl dX7_countOnlyBy_19 ?_
  refine g_aload_n (pc := 21) X 0 rfl dX7_countOnlyBy_21 ?_
  refine g_getI (pc := 22) X k_fl_X7_25 s_31 rfl dX7_countOnlyBy_22 ?_
  refine g_icmp_ge (pc := 25) (tgt := 82) X dX7_countOnlyBy_25 rfl (fun c16 => ?_) (fun c16 => ?_)
  · replace h := if_t c16 h
    refine g_sub [5] rfl ?_
    cases h
    exact hx19 _ hA
  · replace h := if_f c16 h
    refine g_lload (pc := 28) X 4 rfl dX7_countOnlyBy_28 ?_
    refine g_iload_n (pc := 30) X 3 rfl dX7_countOnlyBy_30 ?_
    refine g_aload_n (pc := 31) X 1 rfl dX7_countOnlyBy_31 ?_
    refine g_getR (r := (l1 + 1)) (pc := 32) X k_fl_X7_54 (sCl_0 k_l1) rfl dX7_countOnlyBy_32 ?_
    refine g_iload_n (pc := 35) X 2 rfl dX7_countOnlyBy_35 ?_
    obtain ⟨c5, h⟩ := chk_e h
    refine g_iald (pc := 36) X (sCl_1 k_l1) c5 dX7_countOnlyBy_36 ?_
    refine g_iload (pc := 37) X 6 rfl dX7_countOnlyBy_37 ?_
    obtain ⟨r7, hc6, h⟩ := bd_e h
    refine g_callS (pc := 39) X k_ml_X7_88 (run_RC_wordOf  hc6) rfl (room_ok (Nat.le_of_ble_eq_true rfl) (Nat.le_of_ble_eq_true rfl)) ⟨Nat.le_refl _, Nat.le_refl _⟩ _ rfl (Nat.le_of_ble_eq_true rfl) dX7_countOnlyBy_39 ?_
    show Go V Γ M_X7_countOnlyBy (Zm V Γ 2 fin) 42 [(0, .ref (V.2.2.1 + 31)), (1, .ref (V.2.2.1 + l1)), (2, .int l2), (3, .int l3), (4, .long l4), (6, .int x6), (7, .int x7)] [.long r7] σ
    refine g_aload_n (pc := 42) X 0 rfl dX7_countOnlyBy_42 ?_
    refine g_getI (pc := 43) X k_fl_X7_21 s_31 rfl dX7_countOnlyBy_43 ?_
    refine g_iload (pc := 46) X 6 rfl dX7_countOnlyBy_46 ?_
    obtain ⟨r9, hc8, h⟩ := bd_e h
    refine g_callS (pc := 48) X k_ml_X7_71 (run_RC_insideOf  hc8) rfl (room_ok (Nat.le_of_ble_eq_true rfl) (Nat.le_of_ble_eq_true rfl)) ⟨Nat.le_refl _, Nat.le_refl _⟩ _ rfl (Nat.le_of_ble_eq_true rfl) dX7_countOnlyBy_48 ?_
    show Go V Γ M_X7_countOnlyBy (Zm V Γ 2 fin) 51 [(0, .ref (V.2.2.1 + 31)), (1, .ref (V.2.2.1 + l1)), (2, .int l2), (3, .int l3), (4, .long l4), (6, .int x6), (7, .int x7)] [.long r9, .long r7] σ
    refine g_land (pc := 51) X dX7_countOnlyBy_51 ?_
    obtain ⟨v10, e_v10, h⟩ := bnd_e h
    refine g_nmL e_v10 ?_
    refine g_lstore (pc := 52) X [(8, .long v10), (0, .ref (V.2.2.1 + 31)), (1, .ref (V.2.2.1 + l1)), (2, .int l2), (3, .int l3), (4, .long l4), (6, .int x6), (7, .int x7)] (Nat.le_of_ble_eq_true rfl) rfl dX7_countOnlyBy_52 ?_
    refine g_iload (pc := 54) X 6 rfl dX7_countOnlyBy_54 ?_
    refine g_lload (pc := 56) X 0 rfl dX7_countOnlyBy_56 ?_
    refine g_aload_n (pc := 58) X 1 rfl dX7_countOnlyBy_58 ?_
    refine g_getR (r := 33) (pc := 59) X k_fl_X7_15 s_31 rfl dX7_countOnlyBy_59 ?_
    refine g_iload (pc := 62) X 7 rfl dX7_countOnlyBy_62 ?_
    obtain ⟨c11, h⟩ := chk_e h
    refine g_lald (pc := 64) X s_33 c11 dX7_countOnlyBy_64 ?_
    refine g_ldc2 (v := (-1)) (pc := 65) X k_constl_X7_69 dX7_countOnlyBy_65 ?_
    refine g_lxor (pc := 68) X dX7_countOnlyBy_68 ?_
    refine g_land (pc := 69) X dX7_countOnlyBy_69 ?_
    obtain ⟨r13, hc12, h⟩ := bd_e h
    refine g_callS (pc := 70) X k_ml_X7_78 (run_JL_bitCount_95d88  hc12) rfl (room_ok (Nat.le_of_ble_eq_true rfl) (Nat.le_of_ble_eq_true rfl)) ⟨Nat.le_refl _, Nat.le_refl _⟩ _ rfl (Nat.le_of_ble_eq_true rfl) dX7_countOnlyBy_70 ?_
    show Go V Γ M_X7_countOnlyBy (Zm V Γ 2 fin) 73 [(8, .long v10), (0, .ref (V.2.2.1 + 31)), (1, .ref (V.2.2.1 + l1)), (2, .int l2), (3, .int l3), (4, .long l4), (6, .int x6), (7, .int x7)] [.int r13, .int x6] σ
    refine g_iadd (pc := 73) X dX7_countOnlyBy_73 ?_
    obtain ⟨v14, e_v14, h⟩ := bnd_e h
    refine g_nmI e_v14 ?_
    refine g_istore (pc := 74) X [(6, .int v14), (8, .long v10), (0, .ref (V.2.2.1 + 31)), (1, .ref (V.2.2.1 + l1)), (2, .int l2), (3, .int l3), (4, .long l4), (7, .int x7)] (Nat.le_of_ble_eq_true rfl) rfl dX7_countOnlyBy_74 ?_
    obtain ⟨v15, e_v15, h⟩ := bnd_e h
    refine g_iinc (pc := 76) (v := v15) X [(7, .int v15), (6, .int v14), (8, .long v10), (0, .ref (V.2.2.1 + 31)), (1, .ref (V.2.2.1 + l1)), (2, .int l2), (3, .int l3), (4, .long l4)] 7 rfl (by rw [e_v15]; rfl) (Nat.le_of_ble_eq_true rfl) rfl dX7_countOnlyBy_76 ?_
    refine g_goto (pc := 79) (tgt := 19) X dX7_countOnlyBy_79 rfl ?_
    refine g_sub [3, 4, 5, 6, 7, 1, 0] rfl ?_
    cases h
    exact hb19 _ _ hA
set_option maxRecDepth 100000 in
theorem tl_Si_countOnlyBy_L19 {V : Ev} {Γ : Cn} {fin : Option Value × St} {l1 : Nat} {l2 : Int32} {l3 : Int32} {l4 : Int64} {σ : St} {x6 : Int32} {x7 : Int32} (X : Cx V Γ M_X7_countOnlyBy) (k_l1 : okCl l1) {y6 : Int32} {n : Nat} (h : iter (fun s : (Int32 × Int32) => Si_countOnlyBy_L19 l1 l2 l3 l4 σ s.1 s.2) n (x6, x7) = some y6) (hK : Go V Γ M_X7_countOnlyBy (Zm V Γ 2 fin) 82 [(6, .int y6)] [] σ) : Go V Γ M_X7_countOnlyBy (Zm V Γ 2 fin) 19 [(0, .ref (V.2.2.1 + 31)), (1, .ref (V.2.2.1 + l1)), (2, .int l2), (3, .int l3), (4, .long l4), (6, .int x6), (7, .int x7)] [] σ := by
  refine iter_go (G := (fun s : (Int32 × Int32) => Go V Γ M_X7_countOnlyBy (Zm V Γ 2 fin) 19 [(0, .ref (V.2.2.1 + 31)), (1, .ref (V.2.2.1 + l1)), (2, .int l2), (3, .int l3), (4, .long l4), (6, .int s.1), (7, .int s.2)] [] σ)) (fun s o ho hS => ?_) n (x6, x7) h
  exact tb_Si_countOnlyBy_L19 X k_l1 (fun _ _ h9 => h9) (fun _ he => by cases he; exact hK) ho hS
noncomputable def Si_countOnlyBy (σ : St) (a1 : Nat) (p2 : Int32) : Option Int32 :=
  chk (ix p2 12) (bnd ((σ.1 (a1 + 2) (tn p2))) (fun v2 => bd (RC_combOf v2) (fun r4 => bd (iter (fun s : (Int32 × Int32) => Si_countOnlyBy_L19 a1 p2 v2 r4 σ s.1 s.2) FUEL (0, 0)) (fun v17 => some v17))))
set_option maxRecDepth 100000 in
set_option maxHeartbeats 4000000 in
theorem tm_Si_countOnlyBy {V : Ev} {Γ : Cn} {fin : Option Value × St} {σ : St} {a1 : Nat} {p2 : Int32} {o : Int32} (X : Cx V Γ M_X7_countOnlyBy) {A : Int32 → Prop} (k1 : okCl a1) (hr : ∀ (r : Int32), A r → (some (.int r), σ) = fin) (h : Si_countOnlyBy σ a1 p2 = some o) (hA : A o) : Go V Γ M_X7_countOnlyBy (Zm V Γ 2 fin) 0 [(0, .ref (V.2.2.1 + 31)), (1, .ref (V.2.2.1 + a1)), (2, .int p2)] [] σ := by
  unfold Si_countOnlyBy at h
  refine g_aload_n (pc := 0) X 1 rfl dX7_countOnlyBy_0 ?_
  refine g_getR (r := (a1 + 2)) (pc := 1) X k_fl_X7_50 (sCl_0 k1) rfl dX7_countOnlyBy_1 ?_
  refine g_iload_n (pc := 4) X 2 rfl dX7_countOnlyBy_4 ?_
  obtain ⟨c1, h⟩ := chk_e h
  refine g_iald (pc := 5) X (sCl_2 k1) c1 dX7_countOnlyBy_5 ?_
  obtain ⟨v2, e_v2, h⟩ := bnd_e h
  refine g_nmI e_v2 ?_
  refine g_istore_n (pc := 6) X [(3, .int v2), (0, .ref (V.2.2.1 + 31)), (1, .ref (V.2.2.1 + a1)), (2, .int p2)] rfl (Nat.le_of_ble_eq_true rfl) rfl dX7_countOnlyBy_6 ?_
  refine g_iload_n (pc := 7) X 0 rfl dX7_countOnlyBy_7 ?_
  obtain ⟨r4, hc3, h⟩ := bd_e h
  refine g_callS (pc := 8) X k_ml_X7_61 (run_RC_combOf  hc3) rfl (room_ok (Nat.le_of_ble_eq_true rfl) (Nat.le_of_ble_eq_true rfl)) ⟨Nat.le_refl _, Nat.le_refl _⟩ _ rfl (Nat.le_of_ble_eq_true rfl) dX7_countOnlyBy_8 ?_
  show Go V Γ M_X7_countOnlyBy (Zm V Γ 2 fin) 11 [(3, .int v2), (0, .ref (V.2.2.1 + 31)), (1, .ref (V.2.2.1 + a1)), (2, .int p2)] [.long r4] σ
  refine g_lstore (pc := 11) X [(4, .long r4), (3, .int v2), (0, .ref (V.2.2.1 + 31)), (1, .ref (V.2.2.1 + a1)), (2, .int p2)] (Nat.le_of_ble_eq_true rfl) rfl dX7_countOnlyBy_11 ?_
  refine g_iconst (v := 0) (pc := 13) X rfl dX7_countOnlyBy_13 ?_
  refine g_istore (pc := 14) X [(6, .int 0), (4, .long r4), (3, .int v2), (0, .ref (V.2.2.1 + 31)), (1, .ref (V.2.2.1 + a1)), (2, .int p2)] (Nat.le_of_ble_eq_true rfl) rfl dX7_countOnlyBy_14 ?_
  refine g_iconst (v := 0) (pc := 16) X rfl dX7_countOnlyBy_16 ?_
  refine g_istore (pc := 17) X [(7, .int 0), (6, .int 0), (4, .long r4), (3, .int v2), (0, .ref (V.2.2.1 + 31)), (1, .ref (V.2.2.1 + a1)), (2, .int p2)] (Nat.le_of_ble_eq_true rfl) rfl dX7_countOnlyBy_17 ?_
  refine g_sub [4, 5, 6, 3, 2, 1, 0] rfl ?_
  obtain ⟨v17, hi18, h⟩ := bd_e h
  refine tl_Si_countOnlyBy_L19 X k1 hi18 ?_
  refine g_iload (pc := 82) X 0 rfl dX7_countOnlyBy_82 ?_
  cases h
  exact g_iret (pc := 84) X rfl rfl (hr _ hA) dX7_countOnlyBy_84
set_option maxRecDepth 100000 in
theorem run_Si_countOnlyBy {V : Ev} {σ : St} {a1 : Nat} {p2 : Int32} {o : Int32} (k1 : okCl a1)  (h : Si_countOnlyBy σ a1 p2 = some o) : Rs V 2 M_X7_countOnlyBy [.ref (V.2.2.1 + 31), .ref (V.2.2.1 + a1), .int p2] σ (some (.int o), σ) := by
  refine Rs.of (by decide +kernel) (Nat.le_of_ble_eq_true rfl) (fun Γ X => ?_)
  exact tm_Si_countOnlyBy X (A := fun o1 => o1 = o) k1 (fun _ e => by rw [e]) h rfl
theorem dX7_needlessOf_0 : decode cX7_needlessOf 0 = .ok (.iconst 0, 1) := by decide +kernel
theorem dX7_needlessOf_1 : decode cX7_needlessOf 1 = .ok (.istore_n 2, 1) := by decide +kernel
theorem dX7_needlessOf_2 : decode cX7_needlessOf 2 = .ok (.iconst 0, 1) := by decide +kernel
theorem dX7_needlessOf_3 : decode cX7_needlessOf 3 = .ok (.istore_n 3, 1) := by decide +kernel
theorem dX7_needlessOf_4 : decode cX7_needlessOf 4 = .ok (.iload_n 3, 1) := by decide +kernel
theorem dX7_needlessOf_5 : decode cX7_needlessOf 5 = .ok (.aload_n 1, 1) := by decide +kernel
theorem dX7_needlessOf_6 : decode cX7_needlessOf 6 = .ok (.getfield 43, 3) := by decide +kernel
theorem dX7_needlessOf_9 : decode cX7_needlessOf 9 = .ok (.if_icmp .ge 32, 3) := by decide +kernel
theorem dX7_needlessOf_12 : decode cX7_needlessOf 12 = .ok (.aload_n 1, 1) := by decide +kernel
theorem dX7_needlessOf_13 : decode cX7_needlessOf 13 = .ok (.iload_n 3, 1) := by decide +kernel
theorem dX7_needlessOf_14 : decode cX7_needlessOf 14 = .ok (.invokevirtual 92, 3) := by decide +kernel
theorem dX7_needlessOf_17 : decode cX7_needlessOf 17 = .ok (.ifCond .eq 18, 3) := by decide +kernel
theorem dX7_needlessOf_20 : decode cX7_needlessOf 20 = .ok (.aload_n 0, 1) := by decide +kernel
theorem dX7_needlessOf_21 : decode cX7_needlessOf 21 = .ok (.aload_n 1, 1) := by decide +kernel
theorem dX7_needlessOf_22 : decode cX7_needlessOf 22 = .ok (.iload_n 3, 1) := by decide +kernel
theorem dX7_needlessOf_23 : decode cX7_needlessOf 23 = .ok (.invokevirtual 96, 3) := by decide +kernel
theorem dX7_needlessOf_26 : decode cX7_needlessOf 26 = .ok (.ifCond .ne 9, 3) := by decide +kernel
theorem dX7_needlessOf_29 : decode cX7_needlessOf 29 = .ok (.iload_n 2, 1) := by decide +kernel
theorem dX7_needlessOf_30 : decode cX7_needlessOf 30 = .ok (.iconst 1, 1) := by decide +kernel
theorem dX7_needlessOf_31 : decode cX7_needlessOf 31 = .ok (.iload_n 3, 1) := by decide +kernel
theorem dX7_needlessOf_32 : decode cX7_needlessOf 32 = .ok (.ishl, 1) := by decide +kernel
theorem dX7_needlessOf_33 : decode cX7_needlessOf 33 = .ok (.ior, 1) := by decide +kernel
theorem dX7_needlessOf_34 : decode cX7_needlessOf 34 = .ok (.istore_n 2, 1) := by decide +kernel
theorem dX7_needlessOf_35 : decode cX7_needlessOf 35 = .ok (.iinc 3 1, 3) := by decide +kernel
theorem dX7_needlessOf_38 : decode cX7_needlessOf 38 = .ok (.goto (-34), 3) := by decide +kernel
theorem dX7_needlessOf_41 : decode cX7_needlessOf 41 = .ok (.iload_n 2, 1) := by decide +kernel
theorem dX7_needlessOf_42 : decode cX7_needlessOf 42 = .ok (.ireturn, 1) := by decide +kernel
noncomputable def Si_needlessOf_L4 (l1 : Nat) (σ : St) (x2 : Int32) (x3 : Int32) : Option ((Int32 × Int32) ⊕ Int32) :=
  if (σ.1 l1 3) ≤ x3 then (some (.inr x2)) else (bd (Cl_isOn σ l1 x3) (fun r2 => if r2 = 0 then (bnd (x3 + 1) (fun v3 => some (.inl (x2, v3)))) else (bd (Si_countOnlyBy σ l1 x3) (fun r5 => if r5 = 0 then (bnd ((x2 ||| (1 <<< (x3 &&& 31)))) (fun v7 => bnd (x3 + 1) (fun v8 => some (.inl (v7, v8))))) else (bnd (x3 + 1) (fun v6 => some (.inl (x2, v6))))))))
set_option maxRecDepth 100000 in
set_option maxHeartbeats 4000000 in
theorem tb_Si_needlessOf_L4 {V : Ev} {Γ : Cn} {fin : Option Value × St} {l1 : Nat} {σ : St} {x2 : Int32} {x3 : Int32} {o : ((Int32 × Int32) ⊕ Int32)} (X : Cx V Γ M_X7_needlessOf) {A : ((Int32 × Int32) ⊕ Int32) → Prop} (k_l1 : okCl l1) (hb4 : ∀ (x2 : Int32) (x3 : Int32), A (.inl (x2, x3)) → Go V Γ M_X7_needlessOf (Zm V Γ 3 fin) 4 [(0, .ref (V.2.2.1 + 31)), (1, .ref (V.2.2.1 + l1)), (2, .int x2), (3, .int x3)] [] σ) (hx4 : ∀ (x2 : Int32), A (.inr x2) → Go V Γ M_X7_needlessOf (Zm V Γ 3 fin) 41 [(2, .int x2)] [] σ) (h : Si_needlessOf_L4 l1 σ x2 x3 = some o) (hA : A o) : Go V Γ M_X7_needlessOf (Zm V Γ 3 fin) 4 [(0, .ref (V.2.2.1 + 31)), (1, .ref (V.2.2.1 + l1)), (2, .int x2), (3, .int x3)] [] σ := by
  unfold Si_needlessOf_L4 at h
  refine g_iload_n (pc := 4) X 3 rfl dX7_needlessOf_4 ?_
  refine g_aload_n (pc := 5) X 1 rfl dX7_needlessOf_5 ?_
  refine g_getI (pc := 6) X k_fl_X7_43 (sCl_0 k_l1) rfl dX7_needlessOf_6 ?_
  refine g_icmp_ge (pc := 9) (tgt := 41) X dX7_needlessOf_9 rfl (fun c11 => ?_) (fun c11 => ?_)
  · replace h := if_t c11 h
    refine g_sub [2] rfl ?_
    cases h
    exact hx4 _ hA
  · replace h := if_f c11 h
    refine g_aload_n (pc := 12) X 1 rfl dX7_needlessOf_12 ?_
    refine g_iload_n (pc := 13) X 3 rfl dX7_needlessOf_13 ?_
    obtain ⟨r2, hc1, h⟩ := bd_e h
    refine g_callV (pc := 14) X k_ml_X7_92 (run_Cl_isOn k_l1 hc1) (sCl_0 k_l1) rfl (room_ok (Nat.le_of_ble_eq_true rfl) (Nat.le_of_ble_eq_true rfl)) ⟨Nat.le_refl _, Nat.le_refl _⟩ _ rfl (Nat.le_of_ble_eq_true rfl) dX7_needlessOf_14 ?_
    show Go V Γ M_X7_needlessOf (Zm V Γ 3 fin) 17 [(0, .ref (V.2.2.1 + 31)), (1, .ref (V.2.2.1 + l1)), (2, .int x2), (3, .int x3)] [.int r2] σ
    refine g_if_eq (pc := 17) (tgt := 35) X dX7_needlessOf_17 rfl (fun c10 => ?_) (fun c10 => ?_)
    · replace h := if_t c10 h
      obtain ⟨v3, e_v3, h⟩ := bnd_e h
      refine g_iinc (pc := 35) (v := v3) X [(3, .int v3), (0, .ref (V.2.2.1 + 31)), (1, .ref (V.2.2.1 + l1)), (2, .int x2)] 3 rfl (by rw [e_v3]; rfl) (Nat.le_of_ble_eq_true rfl) rfl dX7_needlessOf_35 ?_
      refine g_goto (pc := 38) (tgt := 4) X dX7_needlessOf_38 rfl ?_
      refine g_sub [1, 2, 3, 0] rfl ?_
      cases h
      exact hb4 _ _ hA
    · replace h := if_f c10 h
      refine g_aload_n (pc := 20) X 0 rfl dX7_needlessOf_20 ?_
      refine g_aload_n (pc := 21) X 1 rfl dX7_needlessOf_21 ?_
      refine g_iload_n (pc := 22) X 3 rfl dX7_needlessOf_22 ?_
      obtain ⟨r5, hc4, h⟩ := bd_e h
      refine g_callV (pc := 23) X k_ml_X7_96 (run_Si_countOnlyBy k_l1 hc4) s_31 rfl (room_ok (Nat.le_of_ble_eq_true rfl) (Nat.le_of_ble_eq_true rfl)) ⟨Nat.le_refl _, Nat.le_refl _⟩ _ rfl (Nat.le_of_ble_eq_true rfl) dX7_needlessOf_23 ?_
      show Go V Γ M_X7_needlessOf (Zm V Γ 3 fin) 26 [(0, .ref (V.2.2.1 + 31)), (1, .ref (V.2.2.1 + l1)), (2, .int x2), (3, .int x3)] [.int r5] σ
      refine g_if_ne (pc := 26) (tgt := 35) X dX7_needlessOf_26 rfl (fun c9 => ?_) (fun c9 => ?_)
      · replace h := if_f c9 h
        obtain ⟨v6, e_v6, h⟩ := bnd_e h
        refine g_iinc (pc := 35) (v := v6) X [(3, .int v6), (0, .ref (V.2.2.1 + 31)), (1, .ref (V.2.2.1 + l1)), (2, .int x2)] 3 rfl (by rw [e_v6]; rfl) (Nat.le_of_ble_eq_true rfl) rfl dX7_needlessOf_35 ?_
        refine g_goto (pc := 38) (tgt := 4) X dX7_needlessOf_38 rfl ?_
        refine g_sub [1, 2, 3, 0] rfl ?_
        cases h
        exact hb4 _ _ hA
      · replace h := if_t c9 h
        refine g_iload_n (pc := 29) X 2 rfl dX7_needlessOf_29 ?_
        refine g_iconst (v := 1) (pc := 30) X rfl dX7_needlessOf_30 ?_
        refine g_iload_n (pc := 31) X 3 rfl dX7_needlessOf_31 ?_
        refine g_ishl (pc := 32) X dX7_needlessOf_32 ?_
        refine g_ior (pc := 33) X dX7_needlessOf_33 ?_
        obtain ⟨v7, e_v7, h⟩ := bnd_e h
        refine g_nmI e_v7 ?_
        refine g_istore_n (pc := 34) X [(2, .int v7), (0, .ref (V.2.2.1 + 31)), (1, .ref (V.2.2.1 + l1)), (3, .int x3)] rfl (Nat.le_of_ble_eq_true rfl) rfl dX7_needlessOf_34 ?_
        obtain ⟨v8, e_v8, h⟩ := bnd_e h
        refine g_iinc (pc := 35) (v := v8) X [(3, .int v8), (2, .int v7), (0, .ref (V.2.2.1 + 31)), (1, .ref (V.2.2.1 + l1))] 3 rfl (by rw [e_v8]; rfl) (Nat.le_of_ble_eq_true rfl) rfl dX7_needlessOf_35 ?_
        refine g_goto (pc := 38) (tgt := 4) X dX7_needlessOf_38 rfl ?_
        refine g_sub [2, 3, 1, 0] rfl ?_
        cases h
        exact hb4 _ _ hA
set_option maxRecDepth 100000 in
theorem tl_Si_needlessOf_L4 {V : Ev} {Γ : Cn} {fin : Option Value × St} {l1 : Nat} {σ : St} {x2 : Int32} {x3 : Int32} (X : Cx V Γ M_X7_needlessOf) (k_l1 : okCl l1) {y2 : Int32} {n : Nat} (h : iter (fun s : (Int32 × Int32) => Si_needlessOf_L4 l1 σ s.1 s.2) n (x2, x3) = some y2) (hK : Go V Γ M_X7_needlessOf (Zm V Γ 3 fin) 41 [(2, .int y2)] [] σ) : Go V Γ M_X7_needlessOf (Zm V Γ 3 fin) 4 [(0, .ref (V.2.2.1 + 31)), (1, .ref (V.2.2.1 + l1)), (2, .int x2), (3, .int x3)] [] σ := by
  refine iter_go (G := (fun s : (Int32 × Int32) => Go V Γ M_X7_needlessOf (Zm V Γ 3 fin) 4 [(0, .ref (V.2.2.1 + 31)), (1, .ref (V.2.2.1 + l1)), (2, .int s.1), (3, .int s.2)] [] σ)) (fun s o ho hS => ?_) n (x2, x3) h
  exact tb_Si_needlessOf_L4 X k_l1 (fun _ _ h9 => h9) (fun _ he => by cases he; exact hK) ho hS
noncomputable def Si_needlessOf (σ : St) (a1 : Nat) : Option Int32 :=
  bd (iter (fun s : (Int32 × Int32) => Si_needlessOf_L4 a1 σ s.1 s.2) FUEL (0, 0)) (fun v12 => some v12)
set_option maxRecDepth 100000 in
set_option maxHeartbeats 4000000 in
theorem tm_Si_needlessOf {V : Ev} {Γ : Cn} {fin : Option Value × St} {σ : St} {a1 : Nat} {o : Int32} (X : Cx V Γ M_X7_needlessOf) {A : Int32 → Prop} (k1 : okCl a1) (hr : ∀ (r : Int32), A r → (some (.int r), σ) = fin) (h : Si_needlessOf σ a1 = some o) (hA : A o) : Go V Γ M_X7_needlessOf (Zm V Γ 3 fin) 0 [(0, .ref (V.2.2.1 + 31)), (1, .ref (V.2.2.1 + a1))] [] σ := by
  unfold Si_needlessOf at h
  refine g_iconst (v := 0) (pc := 0) X rfl dX7_needlessOf_0 ?_
  refine g_istore_n (pc := 1) X [(2, .int 0), (0, .ref (V.2.2.1 + 31)), (1, .ref (V.2.2.1 + a1))] rfl (Nat.le_of_ble_eq_true rfl) rfl dX7_needlessOf_1 ?_
  refine g_iconst (v := 0) (pc := 2) X rfl dX7_needlessOf_2 ?_
  refine g_istore_n (pc := 3) X [(3, .int 0), (2, .int 0), (0, .ref (V.2.2.1 + 31)), (1, .ref (V.2.2.1 + a1))] rfl (Nat.le_of_ble_eq_true rfl) rfl dX7_needlessOf_3 ?_
  refine g_sub [2, 3, 1, 0] rfl ?_
  obtain ⟨v12, hi13, h⟩ := bd_e h
  refine tl_Si_needlessOf_L4 X k1 hi13 ?_
  refine g_iload_n (pc := 41) X 0 rfl dX7_needlessOf_41 ?_
  cases h
  exact g_iret (pc := 42) X rfl rfl (hr _ hA) dX7_needlessOf_42
set_option maxRecDepth 100000 in
theorem run_Si_needlessOf {V : Ev} {σ : St} {a1 : Nat} {o : Int32} (k1 : okCl a1)  (h : Si_needlessOf σ a1 = some o) : Rs V 3 M_X7_needlessOf [.ref (V.2.2.1 + 31), .ref (V.2.2.1 + a1)] σ (some (.int o), σ) := by
  refine Rs.of (by decide +kernel) (Nat.le_of_ble_eq_true rfl) (fun Γ X => ?_)
  exact tm_Si_needlessOf X (A := fun o1 => o1 = o) k1 (fun _ e => by rw [e]) h rfl
theorem dX7_thickestNumber_0 : decode cX7_thickestNumber 0 = .ok (.iconst 0, 1) := by decide +kernel
theorem dX7_thickestNumber_1 : decode cX7_thickestNumber 1 = .ok (.istore_n 2, 1) := by decide +kernel
theorem dX7_thickestNumber_2 : decode cX7_thickestNumber 2 = .ok (.iconst 0, 1) := by decide +kernel
theorem dX7_thickestNumber_3 : decode cX7_thickestNumber 3 = .ok (.istore_n 3, 1) := by decide +kernel
theorem dX7_thickestNumber_4 : decode cX7_thickestNumber 4 = .ok (.iconst 0, 1) := by decide +kernel
theorem dX7_thickestNumber_5 : decode cX7_thickestNumber 5 = .ok (.istore 4, 2) := by decide +kernel
theorem dX7_thickestNumber_7 : decode cX7_thickestNumber 7 = .ok (.iload 4, 2) := by decide +kernel
theorem dX7_thickestNumber_9 : decode cX7_thickestNumber 9 = .ok (.aload_n 0, 1) := by decide +kernel
theorem dX7_thickestNumber_10 : decode cX7_thickestNumber 10 = .ok (.getfield 21, 3) := by decide +kernel
theorem dX7_thickestNumber_13 : decode cX7_thickestNumber 13 = .ok (.if_icmp .ge 32, 3) := by decide +kernel
theorem dX7_thickestNumber_16 : decode cX7_thickestNumber 16 = .ok (.aload_n 1, 1) := by decide +kernel
theorem dX7_thickestNumber_17 : decode cX7_thickestNumber 17 = .ok (.iload 4, 2) := by decide +kernel
theorem dX7_thickestNumber_19 : decode cX7_thickestNumber 19 = .ok (.invokevirtual 100, 3) := by decide +kernel
theorem dX7_thickestNumber_22 : decode cX7_thickestNumber 22 = .ok (.invokestatic 103, 3) := by decide +kernel
theorem dX7_thickestNumber_25 : decode cX7_thickestNumber 25 = .ok (.istore 5, 2) := by decide +kernel
theorem dX7_thickestNumber_27 : decode cX7_thickestNumber 27 = .ok (.iload 5, 2) := by decide +kernel
theorem dX7_thickestNumber_29 : decode cX7_thickestNumber 29 = .ok (.iload_n 3, 1) := by decide +kernel
theorem dX7_thickestNumber_30 : decode cX7_thickestNumber 30 = .ok (.if_icmp .le 9, 3) := by decide +kernel
theorem dX7_thickestNumber_33 : decode cX7_thickestNumber 33 = .ok (.iload 5, 2) := by decide +kernel
theorem dX7_thickestNumber_35 : decode cX7_thickestNumber 35 = .ok (.istore_n 3, 1) := by decide +kernel
theorem dX7_thickestNumber_36 : decode cX7_thickestNumber 36 = .ok (.iload 4, 2) := by decide +kernel
theorem dX7_thickestNumber_38 : decode cX7_thickestNumber 38 = .ok (.istore_n 2, 1) := by decide +kernel
theorem dX7_thickestNumber_39 : decode cX7_thickestNumber 39 = .ok (.iinc 4 1, 3) := by decide +kernel
theorem dX7_thickestNumber_42 : decode cX7_thickestNumber 42 = .ok (.goto (-35), 3) := by decide +kernel
theorem dX7_thickestNumber_45 : decode cX7_thickestNumber 45 = .ok (.iload_n 2, 1) := by decide +kernel
theorem dX7_thickestNumber_46 : decode cX7_thickestNumber 46 = .ok (.ireturn, 1) := by decide +kernel
noncomputable def Si_thickestNumber_L7 (l1 : Nat) (σ : St) (x2 : Int32) (x3 : Int32) (x4 : Int32) : Option ((Int32 × Int32 × Int32) ⊕ Int32) :=
  if (σ.1 31 3) ≤ x4 then (some (.inr x2)) else (bd (Cl_catchers σ l1 x4) (fun r2 => bd (JI_bitCount_0f7a4 r2) (fun r4 => if r4 ≤ x3 then (bnd (x4 + 1) (fun v5 => some (.inl (x2, x3, v5)))) else (bnd (x4 + 1) (fun v6 => some (.inl (x4, r4, v6)))))))
set_option maxRecDepth 100000 in
set_option maxHeartbeats 4000000 in
theorem tb_Si_thickestNumber_L7 {V : Ev} {Γ : Cn} {fin : Option Value × St} {l1 : Nat} {σ : St} {x2 : Int32} {x3 : Int32} {x4 : Int32} {o : ((Int32 × Int32 × Int32) ⊕ Int32)} (X : Cx V Γ M_X7_thickestNumber) {A : ((Int32 × Int32 × Int32) ⊕ Int32) → Prop} (k_l1 : okCl l1) (hb7 : ∀ (x2 : Int32) (x3 : Int32) (x4 : Int32), A (.inl (x2, x3, x4)) → Go V Γ M_X7_thickestNumber (Zm V Γ 3 fin) 7 [(0, .ref (V.2.2.1 + 31)), (1, .ref (V.2.2.1 + l1)), (2, .int x2), (3, .int x3), (4, .int x4)] [] σ) (hx7 : ∀ (x2 : Int32), A (.inr x2) → Go V Γ M_X7_thickestNumber (Zm V Γ 3 fin) 45 [(2, .int x2)] [] σ) (h : Si_thickestNumber_L7 l1 σ x2 x3 x4 = some o) (hA : A o) : Go V Γ M_X7_thickestNumber (Zm V Γ 3 fin) 7 [(0, .ref (V.2.2.1 + 31)), (1, .ref (V.2.2.1 + l1)), (2, .int x2), (3, .int x3), (4, .int x4)] [] σ := by
  unfold Si_thickestNumber_L7 at h
  refine g_iload (pc := 7) X 4 rfl dX7_thickestNumber_7 ?_
  refine g_aload_n (pc := 9) X 0 rfl dX7_thickestNumber_9 ?_
  refine g_getI (pc := 10) X k_fl_X7_21 s_31 rfl dX7_thickestNumber_10 ?_
  refine g_icmp_ge (pc := 13) (tgt := 45) X dX7_thickestNumber_13 rfl (fun c8 => ?_) (fun c8 => ?_)
  · replace h := if_t c8 h
    refine g_sub [2] rfl ?_
    cases h
    exact hx7 _ hA
  · replace h := if_f c8 h
    refine g_aload_n (pc := 16) X 1 rfl dX7_thickestNumber_16 ?_
    refine g_iload (pc := 17) X 4 rfl dX7_thickestNumber_17 ?_
    obtain ⟨r2, hc1, h⟩ := bd_e h
    refine g_callV (pc := 19) X k_ml_X7_100 (run_Cl_catchers k_l1 hc1) (sCl_0 k_l1) rfl (room_ok (Nat.le_of_ble_eq_true rfl) (Nat.le_of_ble_eq_true rfl)) ⟨Nat.le_refl _, Nat.le_refl _⟩ _ rfl (Nat.le_of_ble_eq_true rfl) dX7_thickestNumber_19 ?_
    show Go V Γ M_X7_thickestNumber (Zm V Γ 3 fin) 22 [(0, .ref (V.2.2.1 + 31)), (1, .ref (V.2.2.1 + l1)), (2, .int x2), (3, .int x3), (4, .int x4)] [.int r2] σ
    obtain ⟨r4, hc3, h⟩ := bd_e h
    refine g_callS (pc := 22) X k_ml_X7_103 (run_JI_bitCount_0f7a4  hc3) rfl (room_ok (Nat.le_of_ble_eq_true rfl) (Nat.le_of_ble_eq_true rfl)) ⟨Nat.le_refl _, Nat.le_refl _⟩ _ rfl (Nat.le_of_ble_eq_true rfl) dX7_thickestNumber_22 ?_
    show Go V Γ M_X7_thickestNumber (Zm V Γ 3 fin) 25 [(0, .ref (V.2.2.1 + 31)), (1, .ref (V.2.2.1 + l1)), (2, .int x2), (3, .int x3), (4, .int x4)] [.int r4] σ
    refine g_istore (pc := 25) X [(5, .int r4), (0, .ref (V.2.2.1 + 31)), (1, .ref (V.2.2.1 + l1)), (2, .int x2), (3, .int x3), (4, .int x4)] (Nat.le_of_ble_eq_true rfl) rfl dX7_thickestNumber_25 ?_
    refine g_iload (pc := 27) X 0 rfl dX7_thickestNumber_27 ?_
    refine g_iload_n (pc := 29) X 4 rfl dX7_thickestNumber_29 ?_
    refine g_icmp_le (pc := 30) (tgt := 39) X dX7_thickestNumber_30 rfl (fun c7 => ?_) (fun c7 => ?_)
    · replace h := if_t c7 h
      obtain ⟨v5, e_v5, h⟩ := bnd_e h
      refine g_iinc (pc := 39) (v := v5) X [(4, .int v5), (5, .int r4), (0, .ref (V.2.2.1 + 31)), (1, .ref (V.2.2.1 + l1)), (2, .int x2), (3, .int x3)] 5 rfl (by rw [e_v5]; rfl) (Nat.le_of_ble_eq_true rfl) rfl dX7_thickestNumber_39 ?_
      refine g_goto (pc := 42) (tgt := 7) X dX7_thickestNumber_42 rfl ?_
      refine g_sub [2, 3, 4, 5, 0] rfl ?_
      cases h
      exact hb7 _ _ _ hA
    · replace h := if_f c7 h
      refine g_iload (pc := 33) X 0 rfl dX7_thickestNumber_33 ?_
      refine g_istore_n (pc := 35) X [(3, .int r4), (5, .int r4), (0, .ref (V.2.2.1 + 31)), (1, .ref (V.2.2.1 + l1)), (2, .int x2), (4, .int x4)] rfl (Nat.le_of_ble_eq_true rfl) rfl dX7_thickestNumber_35 ?_
      refine g_iload (pc := 36) X 5 rfl dX7_thickestNumber_36 ?_
      refine g_istore_n (pc := 38) X [(2, .int x4), (3, .int r4), (5, .int r4), (0, .ref (V.2.2.1 + 31)), (1, .ref (V.2.2.1 + l1)), (4, .int x4)] rfl (Nat.le_of_ble_eq_true rfl) rfl dX7_thickestNumber_38 ?_
      obtain ⟨v6, e_v6, h⟩ := bnd_e h
      refine g_iinc (pc := 39) (v := v6) X [(4, .int v6), (2, .int x4), (3, .int r4), (5, .int r4), (0, .ref (V.2.2.1 + 31)), (1, .ref (V.2.2.1 + l1))] 5 rfl (by rw [e_v6]; rfl) (Nat.le_of_ble_eq_true rfl) rfl dX7_thickestNumber_39 ?_
      refine g_goto (pc := 42) (tgt := 7) X dX7_thickestNumber_42 rfl ?_
      refine g_sub [4, 5, 1, 2, 0] rfl ?_
      cases h
      exact hb7 _ _ _ hA
set_option maxRecDepth 100000 in
theorem tl_Si_thickestNumber_L7 {V : Ev} {Γ : Cn} {fin : Option Value × St} {l1 : Nat} {σ : St} {x2 : Int32} {x3 : Int32} {x4 : Int32} (X : Cx V Γ M_X7_thickestNumber) (k_l1 : okCl l1) {y2 : Int32} {n : Nat} (h : iter (fun s : (Int32 × Int32 × Int32) => Si_thickestNumber_L7 l1 σ s.1 s.2.1 s.2.2) n (x2, x3, x4) = some y2) (hK : Go V Γ M_X7_thickestNumber (Zm V Γ 3 fin) 45 [(2, .int y2)] [] σ) : Go V Γ M_X7_thickestNumber (Zm V Γ 3 fin) 7 [(0, .ref (V.2.2.1 + 31)), (1, .ref (V.2.2.1 + l1)), (2, .int x2), (3, .int x3), (4, .int x4)] [] σ := by
  refine iter_go (G := (fun s : (Int32 × Int32 × Int32) => Go V Γ M_X7_thickestNumber (Zm V Γ 3 fin) 7 [(0, .ref (V.2.2.1 + 31)), (1, .ref (V.2.2.1 + l1)), (2, .int s.1), (3, .int s.2.1), (4, .int s.2.2)] [] σ)) (fun s o ho hS => ?_) n (x2, x3, x4) h
  exact tb_Si_thickestNumber_L7 X k_l1 (fun _ _ _ h9 => h9) (fun _ he => by cases he; exact hK) ho hS
noncomputable def Si_thickestNumber (σ : St) (a1 : Nat) : Option Int32 :=
  bd (iter (fun s : (Int32 × Int32 × Int32) => Si_thickestNumber_L7 a1 σ s.1 s.2.1 s.2.2) FUEL (0, 0, 0)) (fun v9 => some v9)
set_option maxRecDepth 100000 in
set_option maxHeartbeats 4000000 in
theorem tm_Si_thickestNumber {V : Ev} {Γ : Cn} {fin : Option Value × St} {σ : St} {a1 : Nat} {o : Int32} (X : Cx V Γ M_X7_thickestNumber) {A : Int32 → Prop} (k1 : okCl a1) (hr : ∀ (r : Int32), A r → (some (.int r), σ) = fin) (h : Si_thickestNumber σ a1 = some o) (hA : A o) : Go V Γ M_X7_thickestNumber (Zm V Γ 3 fin) 0 [(0, .ref (V.2.2.1 + 31)), (1, .ref (V.2.2.1 + a1))] [] σ := by
  unfold Si_thickestNumber at h
  refine g_iconst (v := 0) (pc := 0) X rfl dX7_thickestNumber_0 ?_
  refine g_istore_n (pc := 1) X [(2, .int 0), (0, .ref (V.2.2.1 + 31)), (1, .ref (V.2.2.1 + a1))] rfl (Nat.le_of_ble_eq_true rfl) rfl dX7_thickestNumber_1 ?_
  refine g_iconst (v := 0) (pc := 2) X rfl dX7_thickestNumber_2 ?_
  refine g_istore_n (pc := 3) X [(3, .int 0), (2, .int 0), (0, .ref (V.2.2.1 + 31)), (1, .ref (V.2.2.1 + a1))] rfl (Nat.le_of_ble_eq_true rfl) rfl dX7_thickestNumber_3 ?_
  refine g_iconst (v := 0) (pc := 4) X rfl dX7_thickestNumber_4 ?_
  refine g_istore (pc := 5) X [(4, .int 0), (3, .int 0), (2, .int 0), (0, .ref (V.2.2.1 + 31)), (1, .ref (V.2.2.1 + a1))] (Nat.le_of_ble_eq_true rfl) rfl dX7_thickestNumber_5 ?_
  refine g_sub [3, 4, 2, 1, 0] rfl ?_
  obtain ⟨v9, hi10, h⟩ := bd_e h
  refine tl_Si_thickestNumber_L7 X k1 hi10 ?_
  refine g_iload_n (pc := 45) X 0 rfl dX7_thickestNumber_45 ?_
  cases h
  exact g_iret (pc := 46) X rfl rfl (hr _ hA) dX7_thickestNumber_46
set_option maxRecDepth 100000 in
theorem run_Si_thickestNumber {V : Ev} {σ : St} {a1 : Nat} {o : Int32} (k1 : okCl a1)  (h : Si_thickestNumber σ a1 = some o) : Rs V 3 M_X7_thickestNumber [.ref (V.2.2.1 + 31), .ref (V.2.2.1 + a1)] σ (some (.int o), σ) := by
  refine Rs.of (by decide +kernel) (Nat.le_of_ble_eq_true rfl) (fun Γ X => ?_)
  exact tm_Si_thickestNumber X (A := fun o1 => o1 = o) k1 (fun _ e => by rw [e]) h rfl
theorem dX11_putBit_0 : decode cX11_putBit 0 = .ok (.iload_n 1, 1) := by decide +kernel
theorem dX11_putBit_1 : decode cX11_putBit 1 = .ok (.bipush 64, 2) := by decide +kernel
theorem dX11_putBit_3 : decode cX11_putBit 3 = .ok (.idiv, 1) := by decide +kernel
theorem dX11_putBit_4 : decode cX11_putBit 4 = .ok (.istore_n 2, 1) := by decide +kernel
theorem dX11_putBit_5 : decode cX11_putBit 5 = .ok (.iload_n 2, 1) := by decide +kernel
theorem dX11_putBit_6 : decode cX11_putBit 6 = .ok (.i2l, 1) := by decide +kernel
theorem dX11_putBit_7 : decode cX11_putBit 7 = .ok (.lconst 0, 1) := by decide +kernel
theorem dX11_putBit_8 : decode cX11_putBit 8 = .ok (.aload_n 0, 1) := by decide +kernel
theorem dX11_putBit_9 : decode cX11_putBit 9 = .ok (.arraylength, 1) := by decide +kernel
theorem dX11_putBit_10 : decode cX11_putBit 10 = .ok (.iconst 1, 1) := by decide +kernel
theorem dX11_putBit_11 : decode cX11_putBit 11 = .ok (.isub, 1) := by decide +kernel
theorem dX11_putBit_12 : decode cX11_putBit 12 = .ok (.i2l, 1) := by decide +kernel
theorem dX11_putBit_13 : decode cX11_putBit 13 = .ok (.invokestatic 98, 3) := by decide +kernel
theorem dX11_putBit_16 : decode cX11_putBit 16 = .ok (.ifCond .eq 15, 3) := by decide +kernel
theorem dX11_putBit_19 : decode cX11_putBit 19 = .ok (.aload_n 0, 1) := by decide +kernel
theorem dX11_putBit_20 : decode cX11_putBit 20 = .ok (.iload_n 2, 1) := by decide +kernel
theorem dX11_putBit_21 : decode cX11_putBit 21 = .ok (.dup2, 1) := by decide +kernel
theorem dX11_putBit_22 : decode cX11_putBit 22 = .ok (.laload, 1) := by decide +kernel
theorem dX11_putBit_23 : decode cX11_putBit 23 = .ok (.lconst 1, 1) := by decide +kernel
theorem dX11_putBit_24 : decode cX11_putBit 24 = .ok (.iload_n 1, 1) := by decide +kernel
theorem dX11_putBit_25 : decode cX11_putBit 25 = .ok (.bipush 64, 2) := by decide +kernel
theorem dX11_putBit_27 : decode cX11_putBit 27 = .ok (.irem, 1) := by decide +kernel
theorem dX11_putBit_28 : decode cX11_putBit 28 = .ok (.lshl, 1) := by decide +kernel
theorem dX11_putBit_29 : decode cX11_putBit 29 = .ok (.lor, 1) := by decide +kernel
theorem dX11_putBit_30 : decode cX11_putBit 30 = .ok (.lastore, 1) := by decide +kernel
theorem dX11_putBit_31 : decode cX11_putBit 31 = .ok (.return_, 1) := by decide +kernel
noncomputable def RC_putBit (σ : St) (a0 : Nat) (n0 : Nat) (p1 : Int32) : Option St :=
  chk (nzI 64) (bnd ((p1 / 64)) (fun v2 => bd (RC_within v2.toInt64 0 (((Int32.ofNat n0) - 1).toInt64)) (fun r4 => if r4 = 0 then (some σ) else (chk (ix v2 n0) (chk (nzI 64) (chk (ix v2 n0) (bnd (wL σ a0 (tn v2) ((σ.2 a0 (tn v2)) ||| (1 <<< ((jrem p1 64).toInt64 &&& 63)))) (fun σ8 => some σ8))))))))
set_option maxRecDepth 100000 in
set_option maxHeartbeats 4000000 in
theorem tm_RC_putBit {V : Ev} {Γ : Cn} {fin : Option Value × St} {σ : St} {a0 : Nat} {n0 : Nat} {p1 : Int32} {o : St} (X : Cx V Γ M_X11_putBit) {A : St → Prop} (k0 : shp[a0]? = some (.inr (1, n0))) (hr : ∀ (σ9 : St), A σ9 → (none, σ9) = fin) (h : RC_putBit σ a0 n0 p1 = some o) (hA : A o) : Go V Γ M_X11_putBit (Zm V Γ 1 fin) 0 [(0, .ref (V.2.2.1 + a0)), (1, .int p1)] [] σ := by
  unfold RC_putBit at h
  refine g_iload_n (pc := 0) X 1 rfl dX11_putBit_0 ?_
  refine g_bipush (v := 64) (pc := 1) X (by decide) dX11_putBit_1 ?_
  obtain ⟨c1, h⟩ := chk_e h
  refine g_idiv (pc := 3) X (nzI_e c1) dX11_putBit_3 ?_
  obtain ⟨v2, e_v2, h⟩ := bnd_e h
  refine g_nmI e_v2 ?_
  refine g_istore_n (pc := 4) X [(2, .int v2), (0, .ref (V.2.2.1 + a0)), (1, .int p1)] rfl (Nat.le_of_ble_eq_true rfl) rfl dX11_putBit_4 ?_
  refine g_iload_n (pc := 5) X 0 rfl dX11_putBit_5 ?_
  refine g_i2l (pc := 6) X dX11_putBit_6 ?_
  refine g_lconst (v := 0) (pc := 7) X rfl dX11_putBit_7 ?_
  refine g_aload_n (pc := 8) X 1 rfl dX11_putBit_8 ?_
  refine g_alenI (pc := 9) X k0 rfl dX11_putBit_9 ?_
  refine g_iconst (v := 1) (pc := 10) X rfl dX11_putBit_10 ?_
  refine g_isub (pc := 11) X dX11_putBit_11 ?_
  refine g_i2l (pc := 12) X dX11_putBit_12 ?_
  obtain ⟨r4, hc3, h⟩ := bd_e h
  refine g_callS (pc := 13) X k_ml_X11_98 (run_RC_within  hc3) rfl (room_ok (Nat.le_of_ble_eq_true rfl) (Nat.le_of_ble_eq_true rfl)) ⟨Nat.le_refl _, Nat.le_refl _⟩ _ rfl (Nat.le_of_ble_eq_true rfl) dX11_putBit_13 ?_
  show Go V Γ M_X11_putBit (Zm V Γ 1 fin) 16 [(2, .int v2), (0, .ref (V.2.2.1 + a0)), (1, .int p1)] [.int r4] σ
  refine g_if_eq (pc := 16) (tgt := 31) X dX11_putBit_16 rfl (fun c9 => ?_) (fun c9 => ?_)
  · replace h := if_t c9 h
    cases h
    exact g_vret (pc := 31) X rfl (hr _ hA) dX11_putBit_31
  · replace h := if_f c9 h
    refine g_aload_n (pc := 19) X 1 rfl dX11_putBit_19 ?_
    refine g_iload_n (pc := 20) X 0 rfl dX11_putBit_20 ?_
    refine g_dup2 (pc := 21) X rfl rfl dX11_putBit_21 ?_
    obtain ⟨c5, h⟩ := chk_e h
    refine g_lald (pc := 22) X k0 c5 dX11_putBit_22 ?_
    refine g_lconst (v := 1) (pc := 23) X rfl dX11_putBit_23 ?_
    refine g_iload_n (pc := 24) X 2 rfl dX11_putBit_24 ?_
    refine g_bipush (v := 64) (pc := 25) X (by decide) dX11_putBit_25 ?_
    obtain ⟨c6, h⟩ := chk_e h
    refine g_irem (pc := 27) X (nzI_e c6) dX11_putBit_27 ?_
    refine g_lshl (pc := 28) X dX11_putBit_28 ?_
    refine g_lor (pc := 29) X dX11_putBit_29 ?_
    obtain ⟨c7, h⟩ := chk_e h
    refine g_last (pc := 30) X k0 c7 dX11_putBit_30 ?_
    obtain ⟨σ8, e_σ8, h⟩ := bnd_e h
    refine g_nmS e_σ8 ?_
    cases h
    exact g_vret (pc := 31) X rfl (hr _ hA) dX11_putBit_31
set_option maxRecDepth 100000 in
theorem run_RC_putBit {V : Ev} {σ : St} {a0 : Nat} {n0 : Nat} {p1 : Int32} {o : St} (k0 : shp[a0]? = some (.inr (1, n0)))  (h : RC_putBit σ a0 n0 p1 = some o) : Rs V 1 M_X11_putBit [.ref (V.2.2.1 + a0), .int p1] σ (none, o) := by
  refine Rs.of (by decide +kernel) (Nat.le_of_ble_eq_true rfl) (fun Γ X => ?_)
  exact tm_RC_putBit X (A := fun o1 => o1 = o) k0 (fun _ e => by rw [e]) h rfl
theorem dX11_hasBit_0 : decode cX11_hasBit 0 = .ok (.iload_n 1, 1) := by decide +kernel
theorem dX11_hasBit_1 : decode cX11_hasBit 1 = .ok (.bipush 64, 2) := by decide +kernel
theorem dX11_hasBit_3 : decode cX11_hasBit 3 = .ok (.idiv, 1) := by decide +kernel
theorem dX11_hasBit_4 : decode cX11_hasBit 4 = .ok (.istore_n 2, 1) := by decide +kernel
theorem dX11_hasBit_5 : decode cX11_hasBit 5 = .ok (.iload_n 2, 1) := by decide +kernel
theorem dX11_hasBit_6 : decode cX11_hasBit 6 = .ok (.i2l, 1) := by decide +kernel
theorem dX11_hasBit_7 : decode cX11_hasBit 7 = .ok (.lconst 0, 1) := by decide +kernel
theorem dX11_hasBit_8 : decode cX11_hasBit 8 = .ok (.aload_n 0, 1) := by decide +kernel
theorem dX11_hasBit_9 : decode cX11_hasBit 9 = .ok (.arraylength, 1) := by decide +kernel
theorem dX11_hasBit_10 : decode cX11_hasBit 10 = .ok (.iconst 1, 1) := by decide +kernel
theorem dX11_hasBit_11 : decode cX11_hasBit 11 = .ok (.isub, 1) := by decide +kernel
theorem dX11_hasBit_12 : decode cX11_hasBit 12 = .ok (.i2l, 1) := by decide +kernel
theorem dX11_hasBit_13 : decode cX11_hasBit 13 = .ok (.invokestatic 98, 3) := by decide +kernel
theorem dX11_hasBit_16 : decode cX11_hasBit 16 = .ok (.ifCond .eq 22, 3) := by decide +kernel
theorem dX11_hasBit_19 : decode cX11_hasBit 19 = .ok (.aload_n 0, 1) := by decide +kernel
theorem dX11_hasBit_20 : decode cX11_hasBit 20 = .ok (.iload_n 2, 1) := by decide +kernel
theorem dX11_hasBit_21 : decode cX11_hasBit 21 = .ok (.laload, 1) := by decide +kernel
theorem dX11_hasBit_22 : decode cX11_hasBit 22 = .ok (.iload_n 1, 1) := by decide +kernel
theorem dX11_hasBit_23 : decode cX11_hasBit 23 = .ok (.bipush 64, 2) := by decide +kernel
theorem dX11_hasBit_25 : decode cX11_hasBit 25 = .ok (.irem, 1) := by decide +kernel
theorem dX11_hasBit_26 : decode cX11_hasBit 26 = .ok (.lshr, 1) := by decide +kernel
theorem dX11_hasBit_27 : decode cX11_hasBit 27 = .ok (.lconst 1, 1) := by decide +kernel
theorem dX11_hasBit_28 : decode cX11_hasBit 28 = .ok (.land, 1) := by decide +kernel
theorem dX11_hasBit_29 : decode cX11_hasBit 29 = .ok (.lconst 1, 1) := by decide +kernel
theorem dX11_hasBit_30 : decode cX11_hasBit 30 = .ok (.lcmp, 1) := by decide +kernel
theorem dX11_hasBit_31 : decode cX11_hasBit 31 = .ok (.ifCond .ne 7, 3) := by decide +kernel
theorem dX11_hasBit_34 : decode cX11_hasBit 34 = .ok (.iconst 1, 1) := by decide +kernel
theorem dX11_hasBit_35 : decode cX11_hasBit 35 = .ok (.goto 4, 3) := by decide +kernel
theorem dX11_hasBit_38 : decode cX11_hasBit 38 = .ok (.iconst 0, 1) := by decide +kernel
theorem dX11_hasBit_39 : decode cX11_hasBit 39 = .ok (.ireturn, 1) := by decide +kernel
noncomputable def RC_hasBit (σ : St) (a0 : Nat) (n0 : Nat) (p1 : Int32) : Option Int32 :=
  chk (nzI 64) (bnd ((p1 / 64)) (fun v2 => bd (RC_within v2.toInt64 0 (((Int32.ofNat n0) - 1).toInt64)) (fun r4 => if r4 = 0 then (some 0) else (chk (ix v2 n0) (chk (nzI 64) (if (((σ.2 a0 (tn v2)) >>> ((jrem p1 64).toInt64 &&& 63)) &&& 1) = 1 then (some 1) else (some 0)))))))
set_option maxRecDepth 100000 in
set_option maxHeartbeats 4000000 in
theorem tm_RC_hasBit {V : Ev} {Γ : Cn} {fin : Option Value × St} {σ : St} {a0 : Nat} {n0 : Nat} {p1 : Int32} {o : Int32} (X : Cx V Γ M_X11_hasBit) {A : Int32 → Prop} (k0 : shp[a0]? = some (.inr (1, n0))) (hr : ∀ (r : Int32), A r → (some (.int r), σ) = fin) (h : RC_hasBit σ a0 n0 p1 = some o) (hA : A o) : Go V Γ M_X11_hasBit (Zm V Γ 1 fin) 0 [(0, .ref (V.2.2.1 + a0)), (1, .int p1)] [] σ := by
  unfold RC_hasBit at h
  refine g_iload_n (pc := 0) X 1 rfl dX11_hasBit_0 ?_
  refine g_bipush (v := 64) (pc := 1) X (by decide) dX11_hasBit_1 ?_
  obtain ⟨c1, h⟩ := chk_e h
  refine g_idiv (pc := 3) X (nzI_e c1) dX11_hasBit_3 ?_
  obtain ⟨v2, e_v2, h⟩ := bnd_e h
  refine g_nmI e_v2 ?_
  refine g_istore_n (pc := 4) X [(2, .int v2), (0, .ref (V.2.2.1 + a0)), (1, .int p1)] rfl (Nat.le_of_ble_eq_true rfl) rfl dX11_hasBit_4 ?_
  refine g_iload_n (pc := 5) X 0 rfl dX11_hasBit_5 ?_
  refine g_i2l (pc := 6) X dX11_hasBit_6 ?_
  refine g_lconst (v := 0) (pc := 7) X rfl dX11_hasBit_7 ?_
  refine g_aload_n (pc := 8) X 1 rfl dX11_hasBit_8 ?_
  refine g_alenI (pc := 9) X k0 rfl dX11_hasBit_9 ?_
  refine g_iconst (v := 1) (pc := 10) X rfl dX11_hasBit_10 ?_
  refine g_isub (pc := 11) X dX11_hasBit_11 ?_
  refine g_i2l (pc := 12) X dX11_hasBit_12 ?_
  obtain ⟨r4, hc3, h⟩ := bd_e h
  refine g_callS (pc := 13) X k_ml_X11_98 (run_RC_within  hc3) rfl (room_ok (Nat.le_of_ble_eq_true rfl) (Nat.le_of_ble_eq_true rfl)) ⟨Nat.le_refl _, Nat.le_refl _⟩ _ rfl (Nat.le_of_ble_eq_true rfl) dX11_hasBit_13 ?_
  show Go V Γ M_X11_hasBit (Zm V Γ 1 fin) 16 [(2, .int v2), (0, .ref (V.2.2.1 + a0)), (1, .int p1)] [.int r4] σ
  refine g_if_eq (pc := 16) (tgt := 38) X dX11_hasBit_16 rfl (fun c8 => ?_) (fun c8 => ?_)
  · replace h := if_t c8 h
    refine g_iconst (v := 0) (pc := 38) X rfl dX11_hasBit_38 ?_
    cases h
    exact g_iret (pc := 39) X rfl nz0.1 (hr _ hA) dX11_hasBit_39
  · replace h := if_f c8 h
    refine g_aload_n (pc := 19) X 1 rfl dX11_hasBit_19 ?_
    refine g_iload_n (pc := 20) X 0 rfl dX11_hasBit_20 ?_
    obtain ⟨c5, h⟩ := chk_e h
    refine g_lald (pc := 21) X k0 c5 dX11_hasBit_21 ?_
    refine g_iload_n (pc := 22) X 2 rfl dX11_hasBit_22 ?_
    refine g_bipush (v := 64) (pc := 23) X (by decide) dX11_hasBit_23 ?_
    obtain ⟨c6, h⟩ := chk_e h
    refine g_irem (pc := 25) X (nzI_e c6) dX11_hasBit_25 ?_
    refine g_lshr (pc := 26) X dX11_hasBit_26 ?_
    refine g_lconst (v := 1) (pc := 27) X rfl dX11_hasBit_27 ?_
    refine g_land (pc := 28) X dX11_hasBit_28 ?_
    refine g_lconst (v := 1) (pc := 29) X rfl dX11_hasBit_29 ?_
    refine g_lcmp_ne (pc := 30) (tgt := 38) X dX11_hasBit_30 dX11_hasBit_31 rfl (fun c7 => ?_) (fun c7 => ?_)
    · replace h := if_f c7 h
      refine g_iconst (v := 0) (pc := 38) X rfl dX11_hasBit_38 ?_
      cases h
      exact g_iret (pc := 39) X rfl nz0.1 (hr _ hA) dX11_hasBit_39
    · replace h := if_t c7 h
      refine g_iconst (v := 1) (pc := 34) X rfl dX11_hasBit_34 ?_
      refine g_goto (pc := 35) (tgt := 39) X dX11_hasBit_35 rfl ?_
      cases h
      exact g_iret (pc := 39) X rfl nz1.1 (hr _ hA) dX11_hasBit_39
set_option maxRecDepth 100000 in
theorem run_RC_hasBit {V : Ev} {σ : St} {a0 : Nat} {n0 : Nat} {p1 : Int32} {o : Int32} (k0 : shp[a0]? = some (.inr (1, n0)))  (h : RC_hasBit σ a0 n0 p1 = some o) : Rs V 1 M_X11_hasBit [.ref (V.2.2.1 + a0), .int p1] σ (some (.int o), σ) := by
  refine Rs.of (by decide +kernel) (Nat.le_of_ble_eq_true rfl) (fun Γ X => ?_)
  exact tm_RC_hasBit X (A := fun o1 => o1 = o) k0 (fun _ e => by rw [e]) h rfl
theorem dX7_findFailing_0 : decode cX7_findFailing 0 = .ok (.aload_n 0, 1) := by decide +kernel
theorem dX7_findFailing_1 : decode cX7_findFailing 1 = .ok (.getfield 18, 3) := by decide +kernel
theorem dX7_findFailing_4 : decode cX7_findFailing 4 = .ok (.lconst 0, 1) := by decide +kernel
theorem dX7_findFailing_5 : decode cX7_findFailing 5 = .ok (.invokestatic 37, 3) := by decide +kernel
theorem dX7_findFailing_8 : decode cX7_findFailing 8 = .ok (.iconst 0, 1) := by decide +kernel
theorem dX7_findFailing_9 : decode cX7_findFailing 9 = .ok (.istore_n 3, 1) := by decide +kernel
theorem dX7_findFailing_10 : decode cX7_findFailing 10 = .ok (.iload_n 3, 1) := by decide +kernel
theorem dX7_findFailing_11 : decode cX7_findFailing 11 = .ok (.aload_n 0, 1) := by decide +kernel
theorem dX7_findFailing_12 : decode cX7_findFailing 12 = .ok (.getfield 21, 3) := by decide +kernel
theorem dX7_findFailing_15 : decode cX7_findFailing 15 = .ok (.if_icmp .ge 30, 3) := by decide +kernel
theorem dX7_findFailing_18 : decode cX7_findFailing 18 = .ok (.aload_n 1, 1) := by decide +kernel
theorem dX7_findFailing_19 : decode cX7_findFailing 19 = .ok (.iload_n 3, 1) := by decide +kernel
theorem dX7_findFailing_20 : decode cX7_findFailing 20 = .ok (.invokevirtual 100, 3) := by decide +kernel
theorem dX7_findFailing_23 : decode cX7_findFailing 23 = .ok (.istore 4, 2) := by decide +kernel
theorem dX7_findFailing_25 : decode cX7_findFailing 25 = .ok (.iload 4, 2) := by decide +kernel
theorem dX7_findFailing_27 : decode cX7_findFailing 27 = .ok (.ifCond .eq 12, 3) := by decide +kernel
theorem dX7_findFailing_30 : decode cX7_findFailing 30 = .ok (.aload_n 0, 1) := by decide +kernel
theorem dX7_findFailing_31 : decode cX7_findFailing 31 = .ok (.getfield 18, 3) := by decide +kernel
theorem dX7_findFailing_34 : decode cX7_findFailing 34 = .ok (.iload 4, 2) := by decide +kernel
theorem dX7_findFailing_36 : decode cX7_findFailing 36 = .ok (.invokestatic 118, 3) := by decide +kernel
theorem dX7_findFailing_39 : decode cX7_findFailing 39 = .ok (.iinc 3 1, 3) := by decide +kernel
theorem dX7_findFailing_42 : decode cX7_findFailing 42 = .ok (.goto (-32), 3) := by decide +kernel
theorem dX7_findFailing_45 : decode cX7_findFailing 45 = .ok (.iconst 0, 1) := by decide +kernel
theorem dX7_findFailing_46 : decode cX7_findFailing 46 = .ok (.istore_n 3, 1) := by decide +kernel
theorem dX7_findFailing_47 : decode cX7_findFailing 47 = .ok (.iload_n 3, 1) := by decide +kernel
theorem dX7_findFailing_48 : decode cX7_findFailing 48 = .ok (.aload_n 1, 1) := by decide +kernel
theorem dX7_findFailing_49 : decode cX7_findFailing 49 = .ok (.getfield 43, 3) := by decide +kernel
theorem dX7_findFailing_52 : decode cX7_findFailing 52 = .ok (.if_icmp .ge 58, 3) := by decide +kernel
theorem dX7_findFailing_55 : decode cX7_findFailing 55 = .ok (.iconst 0, 1) := by decide +kernel
theorem dX7_findFailing_56 : decode cX7_findFailing 56 = .ok (.istore 4, 2) := by decide +kernel
theorem dX7_findFailing_58 : decode cX7_findFailing 58 = .ok (.iload 4, 2) := by decide +kernel
theorem dX7_findFailing_60 : decode cX7_findFailing 60 = .ok (.iload_n 2, 1) := by decide +kernel
theorem dX7_findFailing_61 : decode cX7_findFailing 61 = .ok (.if_icmp .ge 43, 3) := by decide +kernel
theorem dX7_findFailing_64 : decode cX7_findFailing 64 = .ok (.iload 4, 2) := by decide +kernel
theorem dX7_findFailing_66 : decode cX7_findFailing 66 = .ok (.iload_n 3, 1) := by decide +kernel
theorem dX7_findFailing_67 : decode cX7_findFailing 67 = .ok (.invokestatic 46, 3) := by decide +kernel
theorem dX7_findFailing_70 : decode cX7_findFailing 70 = .ok (.ifCond .eq 28, 3) := by decide +kernel
theorem dX7_findFailing_73 : decode cX7_findFailing 73 = .ok (.aload_n 0, 1) := by decide +kernel
theorem dX7_findFailing_74 : decode cX7_findFailing 74 = .ok (.getfield 18, 3) := by decide +kernel
theorem dX7_findFailing_77 : decode cX7_findFailing 77 = .ok (.iload 4, 2) := by decide +kernel
theorem dX7_findFailing_79 : decode cX7_findFailing 79 = .ok (.iconst 1, 1) := by decide +kernel
theorem dX7_findFailing_80 : decode cX7_findFailing 80 = .ok (.iload_n 3, 1) := by decide +kernel
theorem dX7_findFailing_81 : decode cX7_findFailing 81 = .ok (.ishl, 1) := by decide +kernel
theorem dX7_findFailing_82 : decode cX7_findFailing 82 = .ok (.ixor, 1) := by decide +kernel
theorem dX7_findFailing_83 : decode cX7_findFailing 83 = .ok (.invokestatic 114, 3) := by decide +kernel
theorem dX7_findFailing_86 : decode cX7_findFailing 86 = .ok (.ifCond .eq 12, 3) := by decide +kernel
theorem dX7_findFailing_89 : decode cX7_findFailing 89 = .ok (.aload_n 0, 1) := by decide +kernel
theorem dX7_findFailing_90 : decode cX7_findFailing 90 = .ok (.getfield 18, 3) := by decide +kernel
theorem dX7_findFailing_93 : decode cX7_findFailing 93 = .ok (.iload 4, 2) := by decide +kernel
theorem dX7_findFailing_95 : decode cX7_findFailing 95 = .ok (.invokestatic 118, 3) := by decide +kernel
theorem dX7_findFailing_98 : decode cX7_findFailing 98 = .ok (.iinc 4 1, 3) := by decide +kernel
theorem dX7_findFailing_101 : decode cX7_findFailing 101 = .ok (.goto (-43), 3) := by decide +kernel
theorem dX7_findFailing_104 : decode cX7_findFailing 104 = .ok (.iinc 3 1, 3) := by decide +kernel
theorem dX7_findFailing_107 : decode cX7_findFailing 107 = .ok (.goto (-60), 3) := by decide +kernel
theorem dX7_findFailing_110 : decode cX7_findFailing 110 = .ok (.return_, 1) := by decide +kernel
noncomputable def Si_findFailing_L10 (l1 : Nat) (l2 : Int32) (σ : St) (x3 : Int32) : Option ((Int32 × St) ⊕ St) :=
  if (σ.1 31 3) ≤ x3 then (some (.inr σ)) else (bd (Cl_catchers σ l1 x3) (fun r4 => if r4 = 0 then (bnd (x3 + 1) (fun v5 => some (.inl (v5, σ)))) else (bd (RC_putBit σ 34 64 r4) (fun σ7 => bnd (x3 + 1) (fun v8 => some (.inl (v8, σ7)))))))
set_option maxRecDepth 100000 in
set_option maxHeartbeats 4000000 in
theorem tb_Si_findFailing_L10 {V : Ev} {Γ : Cn} {fin : Option Value × St} {l1 : Nat} {l2 : Int32} {σ : St} {x3 : Int32} {o : ((Int32 × St) ⊕ St)} (X : Cx V Γ M_X7_findFailing) {A : ((Int32 × St) ⊕ St) → Prop} (k_l1 : okCl l1) (hb10 : ∀ (x3 : Int32) (σ9 : St), A (.inl (x3, σ9)) → Go V Γ M_X7_findFailing (Zm V Γ 3 fin) 10 [(0, .ref (V.2.2.1 + 31)), (1, .ref (V.2.2.1 + l1)), (2, .int l2), (3, .int x3)] [] σ9) (hx10 : ∀ (σ9 : St), A (.inr σ9) → Go V Γ M_X7_findFailing (Zm V Γ 3 fin) 45 [(0, .ref (V.2.2.1 + 31)), (1, .ref (V.2.2.1 + l1)), (2, .int l2)] [] σ9) (h : Si_findFailing_L10 l1 l2 σ x3 = some o) (hA : A o) : Go V Γ M_X7_findFailing (Zm V Γ 3 fin) 10 [(0, .ref (V.2.2.1 + 31)), (1, .ref (V.2.2.1 + l1)), (2, .int l2), (3, .int x3)] [] σ := by
  unfold Si_findFailing_L10 at h
  refine g_iload_n (pc := 10) X 3 rfl dX7_findFailing_10 ?_
  refine g_aload_n (pc := 11) X 0 rfl dX7_findFailing_11 ?_
  refine g_getI (pc := 12) X k_fl_X7_21 s_31 rfl dX7_findFailing_12 ?_
  refine g_icmp_ge (pc := 15) (tgt := 45) X dX7_findFailing_15 rfl (fun c10 => ?_) (fun c10 => ?_)
  · replace h := if_t c10 h
    refine g_sub [0, 1, 2] rfl ?_
    cases h
    exact hx10 _ hA
  · replace h := if_f c10 h
    refine g_aload_n (pc := 18) X 1 rfl dX7_findFailing_18 ?_
    refine g_iload_n (pc := 19) X 3 rfl dX7_findFailing_19 ?_
    obtain ⟨r4, hc3, h⟩ := bd_e h
    refine g_callV (pc := 20) X k_ml_X7_100 (run_Cl_catchers k_l1 hc3) (sCl_0 k_l1) rfl (room_ok (Nat.le_of_ble_eq_true rfl) (Nat.le_of_ble_eq_true rfl)) ⟨Nat.le_refl _, Nat.le_refl _⟩ _ rfl (Nat.le_of_ble_eq_true rfl) dX7_findFailing_20 ?_
    show Go V Γ M_X7_findFailing (Zm V Γ 3 fin) 23 [(0, .ref (V.2.2.1 + 31)), (1, .ref (V.2.2.1 + l1)), (2, .int l2), (3, .int x3)] [.int r4] σ
    refine g_istore (pc := 23) X [(4, .int r4), (0, .ref (V.2.2.1 + 31)), (1, .ref (V.2.2.1 + l1)), (2, .int l2), (3, .int x3)] (Nat.le_of_ble_eq_true rfl) rfl dX7_findFailing_23 ?_
    refine g_iload (pc := 25) X 0 rfl dX7_findFailing_25 ?_
    refine g_if_eq (pc := 27) (tgt := 39) X dX7_findFailing_27 rfl (fun c9 => ?_) (fun c9 => ?_)
    · replace h := if_t c9 h
      obtain ⟨v5, e_v5, h⟩ := bnd_e h
      refine g_iinc (pc := 39) (v := v5) X [(3, .int v5), (4, .int r4), (0, .ref (V.2.2.1 + 31)), (1, .ref (V.2.2.1 + l1)), (2, .int l2)] 4 rfl (by rw [e_v5]; rfl) (Nat.le_of_ble_eq_true rfl) rfl dX7_findFailing_39 ?_
      refine g_goto (pc := 42) (tgt := 10) X dX7_findFailing_42 rfl ?_
      refine g_sub [2, 3, 4, 0] rfl ?_
      cases h
      exact hb10 _ _ hA
    · replace h := if_f c9 h
      refine g_aload_n (pc := 30) X 1 rfl dX7_findFailing_30 ?_
      refine g_getR (r := 34) (pc := 31) X k_fl_X7_18 s_31 rfl dX7_findFailing_31 ?_
      refine g_iload (pc := 34) X 0 rfl dX7_findFailing_34 ?_
      obtain ⟨σ7, hc6, h⟩ := bd_e h
      refine g_callS (pc := 36) X k_ml_X7_118 (run_RC_putBit s_34 hc6) rfl (room_ok (Nat.le_of_ble_eq_true rfl) (Nat.le_of_ble_eq_true rfl)) ⟨Nat.le_refl _, Nat.le_refl _⟩ _ rfl (Nat.le_of_ble_eq_true rfl) dX7_findFailing_36 ?_
      show Go V Γ M_X7_findFailing (Zm V Γ 3 fin) 39 [(4, .int r4), (0, .ref (V.2.2.1 + 31)), (1, .ref (V.2.2.1 + l1)), (2, .int l2), (3, .int x3)] [] σ7
      obtain ⟨v8, e_v8, h⟩ := bnd_e h
      refine g_iinc (pc := 39) (v := v8) X [(3, .int v8), (4, .int r4), (0, .ref (V.2.2.1 + 31)), (1, .ref (V.2.2.1 + l1)), (2, .int l2)] 4 rfl (by rw [e_v8]; rfl) (Nat.le_of_ble_eq_true rfl) rfl dX7_findFailing_39 ?_
      refine g_goto (pc := 42) (tgt := 10) X dX7_findFailing_42 rfl ?_
      refine g_sub [2, 3, 4, 0] rfl ?_
      cases h
      exact hb10 _ _ hA
set_option maxRecDepth 100000 in
theorem tl_Si_findFailing_L10 {V : Ev} {Γ : Cn} {fin : Option Value × St} {l1 : Nat} {l2 : Int32} {x3 : Int32} {σ9 : St} (X : Cx V Γ M_X7_findFailing) (k_l1 : okCl l1) {σ8 : St} {n : Nat} (h : iter (fun s : (Int32 × St) => Si_findFailing_L10 l1 l2 s.2 s.1) n (x3, σ9) = some σ8) (hK : Go V Γ M_X7_findFailing (Zm V Γ 3 fin) 45 [(0, .ref (V.2.2.1 + 31)), (1, .ref (V.2.2.1 + l1)), (2, .int l2)] [] σ8) : Go V Γ M_X7_findFailing (Zm V Γ 3 fin) 10 [(0, .ref (V.2.2.1 + 31)), (1, .ref (V.2.2.1 + l1)), (2, .int l2), (3, .int x3)] [] σ9 := by
  refine iter_go (G := (fun s : (Int32 × St) => Go V Γ M_X7_findFailing (Zm V Γ 3 fin) 10 [(0, .ref (V.2.2.1 + 31)), (1, .ref (V.2.2.1 + l1)), (2, .int l2), (3, .int s.1)] [] s.2)) (fun s o ho hS => ?_) n (x3, σ9) h
  exact tb_Si_findFailing_L10 X k_l1 (fun _ _ h9 => h9) (fun _ he => by cases he; exact hK) ho hS
noncomputable def Si_findFailing_L58 (l1 : Nat) (l2 : Int32) (l3 : Int32) (σ : St) (x4 : Int32) : Option ((Int32 × St) ⊕ St) :=
  if l2 ≤ x4 then (some (.inr σ)) else (bd (RC_isIn x4 l3) (fun r14 => if r14 = 0 then (bnd (x4 + 1) (fun v15 => some (.inl (v15, σ)))) else (bd (RC_hasBit σ 34 64 (x4 ^^^ (1 <<< (l3 &&& 31)))) (fun r17 => if r17 = 0 then (bnd (x4 + 1) (fun v18 => some (.inl (v18, σ)))) else (bd (RC_putBit σ 34 64 x4) (fun σ20 => bnd (x4 + 1) (fun v21 => some (.inl (v21, σ20)))))))))
set_option maxRecDepth 100000 in
set_option maxHeartbeats 4000000 in
theorem tb_Si_findFailing_L58 {V : Ev} {Γ : Cn} {fin : Option Value × St} {l1 : Nat} {l2 : Int32} {l3 : Int32} {σ : St} {x4 : Int32} {o : ((Int32 × St) ⊕ St)} (X : Cx V Γ M_X7_findFailing) {A : ((Int32 × St) ⊕ St) → Prop} (k_l1 : okCl l1) (hb58 : ∀ (x4 : Int32) (σ9 : St), A (.inl (x4, σ9)) → Go V Γ M_X7_findFailing (Zm V Γ 3 fin) 58 [(0, .ref (V.2.2.1 + 31)), (1, .ref (V.2.2.1 + l1)), (2, .int l2), (3, .int l3), (4, .int x4)] [] σ9) (hx58 : ∀ (σ9 : St), A (.inr σ9) → Go V Γ M_X7_findFailing (Zm V Γ 3 fin) 104 [(0, .ref (V.2.2.1 + 31)), (1, .ref (V.2.2.1 + l1)), (2, .int l2), (3, .int l3)] [] σ9) (h : Si_findFailing_L58 l1 l2 l3 σ x4 = some o) (hA : A o) : Go V Γ M_X7_findFailing (Zm V Γ 3 fin) 58 [(0, .ref (V.2.2.1 + 31)), (1, .ref (V.2.2.1 + l1)), (2, .int l2), (3, .int l3), (4, .int x4)] [] σ := by
  unfold Si_findFailing_L58 at h
  refine g_iload (pc := 58) X 4 rfl dX7_findFailing_58 ?_
  refine g_iload_n (pc := 60) X 2 rfl dX7_findFailing_60 ?_
  refine g_icmp_ge (pc := 61) (tgt := 104) X dX7_findFailing_61 rfl (fun c24 => ?_) (fun c24 => ?_)
  · replace h := if_t c24 h
    refine g_sub [0, 1, 2, 3] rfl ?_
    cases h
    exact hx58 _ hA
  · replace h := if_f c24 h
    refine g_iload (pc := 64) X 4 rfl dX7_findFailing_64 ?_
    refine g_iload_n (pc := 66) X 3 rfl dX7_findFailing_66 ?_
    obtain ⟨r14, hc13, h⟩ := bd_e h
    refine g_callS (pc := 67) X k_ml_X7_46 (run_RC_isIn  hc13) rfl (room_ok (Nat.le_of_ble_eq_true rfl) (Nat.le_of_ble_eq_true rfl)) ⟨Nat.le_refl _, Nat.le_refl _⟩ _ rfl (Nat.le_of_ble_eq_true rfl) dX7_findFailing_67 ?_
    show Go V Γ M_X7_findFailing (Zm V Γ 3 fin) 70 [(0, .ref (V.2.2.1 + 31)), (1, .ref (V.2.2.1 + l1)), (2, .int l2), (3, .int l3), (4, .int x4)] [.int r14] σ
    refine g_if_eq (pc := 70) (tgt := 98) X dX7_findFailing_70 rfl (fun c23 => ?_) (fun c23 => ?_)
    · replace h := if_t c23 h
      obtain ⟨v15, e_v15, h⟩ := bnd_e h
      refine g_iinc (pc := 98) (v := v15) X [(4, .int v15), (0, .ref (V.2.2.1 + 31)), (1, .ref (V.2.2.1 + l1)), (2, .int l2), (3, .int l3)] 4 rfl (by rw [e_v15]; rfl) (Nat.le_of_ble_eq_true rfl) rfl dX7_findFailing_98 ?_
      refine g_goto (pc := 101) (tgt := 58) X dX7_findFailing_101 rfl ?_
      refine g_sub [1, 2, 3, 4, 0] rfl ?_
      cases h
      exact hb58 _ _ hA
    · replace h := if_f c23 h
      refine g_aload_n (pc := 73) X 0 rfl dX7_findFailing_73 ?_
      refine g_getR (r := 34) (pc := 74) X k_fl_X7_18 s_31 rfl dX7_findFailing_74 ?_
      refine g_iload (pc := 77) X 4 rfl dX7_findFailing_77 ?_
      refine g_iconst (v := 1) (pc := 79) X rfl dX7_findFailing_79 ?_
      refine g_iload_n (pc := 80) X 3 rfl dX7_findFailing_80 ?_
      refine g_ishl (pc := 81) X dX7_findFailing_81 ?_
      refine g_ixor (pc := 82) X dX7_findFailing_82 ?_
      obtain ⟨r17, hc16, h⟩ := bd_e h
      refine g_callS (pc := 83) X k_ml_X7_114 (run_RC_hasBit s_34 hc16) rfl (room_ok (Nat.le_of_ble_eq_true rfl) (Nat.le_of_ble_eq_true rfl)) ⟨Nat.le_refl _, Nat.le_refl _⟩ _ rfl (Nat.le_of_ble_eq_true rfl) dX7_findFailing_83 ?_
      show Go V Γ M_X7_findFailing (Zm V Γ 3 fin) 86 [(0, .ref (V.2.2.1 + 31)), (1, .ref (V.2.2.1 + l1)), (2, .int l2), (3, .int l3), (4, .int x4)] [.int r17] σ
      refine g_if_eq (pc := 86) (tgt := 98) X dX7_findFailing_86 rfl (fun c22 => ?_) (fun c22 => ?_)
      · replace h := if_t c22 h
        obtain ⟨v18, e_v18, h⟩ := bnd_e h
        refine g_iinc (pc := 98) (v := v18) X [(4, .int v18), (0, .ref (V.2.2.1 + 31)), (1, .ref (V.2.2.1 + l1)), (2, .int l2), (3, .int l3)] 4 rfl (by rw [e_v18]; rfl) (Nat.le_of_ble_eq_true rfl) rfl dX7_findFailing_98 ?_
        refine g_goto (pc := 101) (tgt := 58) X dX7_findFailing_101 rfl ?_
        refine g_sub [1, 2, 3, 4, 0] rfl ?_
        cases h
        exact hb58 _ _ hA
      · replace h := if_f c22 h
        refine g_aload_n (pc := 89) X 0 rfl dX7_findFailing_89 ?_
        refine g_getR (r := 34) (pc := 90) X k_fl_X7_18 s_31 rfl dX7_findFailing_90 ?_
        refine g_iload (pc := 93) X 4 rfl dX7_findFailing_93 ?_
        obtain ⟨σ20, hc19, h⟩ := bd_e h
        refine g_callS (pc := 95) X k_ml_X7_118 (run_RC_putBit s_34 hc19) rfl (room_ok (Nat.le_of_ble_eq_true rfl) (Nat.le_of_ble_eq_true rfl)) ⟨Nat.le_refl _, Nat.le_refl _⟩ _ rfl (Nat.le_of_ble_eq_true rfl) dX7_findFailing_95 ?_
        show Go V Γ M_X7_findFailing (Zm V Γ 3 fin) 98 [(0, .ref (V.2.2.1 + 31)), (1, .ref (V.2.2.1 + l1)), (2, .int l2), (3, .int l3), (4, .int x4)] [] σ20
        obtain ⟨v21, e_v21, h⟩ := bnd_e h
        refine g_iinc (pc := 98) (v := v21) X [(4, .int v21), (0, .ref (V.2.2.1 + 31)), (1, .ref (V.2.2.1 + l1)), (2, .int l2), (3, .int l3)] 4 rfl (by rw [e_v21]; rfl) (Nat.le_of_ble_eq_true rfl) rfl dX7_findFailing_98 ?_
        refine g_goto (pc := 101) (tgt := 58) X dX7_findFailing_101 rfl ?_
        refine g_sub [1, 2, 3, 4, 0] rfl ?_
        cases h
        exact hb58 _ _ hA
set_option maxRecDepth 100000 in
theorem tl_Si_findFailing_L58 {V : Ev} {Γ : Cn} {fin : Option Value × St} {l1 : Nat} {l2 : Int32} {l3 : Int32} {x4 : Int32} {σ9 : St} (X : Cx V Γ M_X7_findFailing) (k_l1 : okCl l1) {σ8 : St} {n : Nat} (h : iter (fun s : (Int32 × St) => Si_findFailing_L58 l1 l2 l3 s.2 s.1) n (x4, σ9) = some σ8) (hK : Go V Γ M_X7_findFailing (Zm V Γ 3 fin) 104 [(0, .ref (V.2.2.1 + 31)), (1, .ref (V.2.2.1 + l1)), (2, .int l2), (3, .int l3)] [] σ8) : Go V Γ M_X7_findFailing (Zm V Γ 3 fin) 58 [(0, .ref (V.2.2.1 + 31)), (1, .ref (V.2.2.1 + l1)), (2, .int l2), (3, .int l3), (4, .int x4)] [] σ9 := by
  refine iter_go (G := (fun s : (Int32 × St) => Go V Γ M_X7_findFailing (Zm V Γ 3 fin) 58 [(0, .ref (V.2.2.1 + 31)), (1, .ref (V.2.2.1 + l1)), (2, .int l2), (3, .int l3), (4, .int s.1)] [] s.2)) (fun s o ho hS => ?_) n (x4, σ9) h
  exact tb_Si_findFailing_L58 X k_l1 (fun _ _ h9 => h9) (fun _ he => by cases he; exact hK) ho hS
noncomputable def Si_findFailing_L47 (l1 : Nat) (l2 : Int32) (σ : St) (x3 : Int32) : Option ((Int32 × St) ⊕ St) :=
  if (σ.1 l1 3) ≤ x3 then (some (.inr σ)) else (bd (iter (fun s : (Int32 × St) => Si_findFailing_L58 l1 l2 x3 s.2 s.1) FUEL (0, σ)) (fun σ25 => bnd (x3 + 1) (fun v27 => some (.inl (v27, σ25)))))
set_option maxRecDepth 100000 in
set_option maxHeartbeats 4000000 in
theorem tb_Si_findFailing_L47 {V : Ev} {Γ : Cn} {fin : Option Value × St} {l1 : Nat} {l2 : Int32} {σ : St} {x3 : Int32} {o : ((Int32 × St) ⊕ St)} (X : Cx V Γ M_X7_findFailing) {A : ((Int32 × St) ⊕ St) → Prop} (k_l1 : okCl l1) (hb47 : ∀ (x3 : Int32) (σ9 : St), A (.inl (x3, σ9)) → Go V Γ M_X7_findFailing (Zm V Γ 3 fin) 47 [(0, .ref (V.2.2.1 + 31)), (1, .ref (V.2.2.1 + l1)), (2, .int l2), (3, .int x3)] [] σ9) (hx47 : ∀ (σ9 : St), A (.inr σ9) → Go V Γ M_X7_findFailing (Zm V Γ 3 fin) 110 [] [] σ9) (h : Si_findFailing_L47 l1 l2 σ x3 = some o) (hA : A o) : Go V Γ M_X7_findFailing (Zm V Γ 3 fin) 47 [(0, .ref (V.2.2.1 + 31)), (1, .ref (V.2.2.1 + l1)), (2, .int l2), (3, .int x3)] [] σ := by
  unfold Si_findFailing_L47 at h
  refine g_iload_n (pc := 47) X 3 rfl dX7_findFailing_47 ?_
  refine g_aload_n (pc := 48) X 1 rfl dX7_findFailing_48 ?_
  refine g_getI (pc := 49) X k_fl_X7_43 (sCl_0 k_l1) rfl dX7_findFailing_49 ?_
  refine g_icmp_ge (pc := 52) (tgt := 110) X dX7_findFailing_52 rfl (fun c28 => ?_) (fun c28 => ?_)
  · replace h := if_t c28 h
    refine g_sub [] rfl ?_
    cases h
    exact hx47 _ hA
  · replace h := if_f c28 h
    refine g_iconst (v := 0) (pc := 55) X rfl dX7_findFailing_55 ?_
    refine g_istore (pc := 56) X [(4, .int 0), (0, .ref (V.2.2.1 + 31)), (1, .ref (V.2.2.1 + l1)), (2, .int l2), (3, .int x3)] (Nat.le_of_ble_eq_true rfl) rfl dX7_findFailing_56 ?_
    refine g_sub [1, 2, 3, 4, 0] rfl ?_
    obtain ⟨σ25, hi26, h⟩ := bd_e h
    refine tl_Si_findFailing_L58 X k_l1 hi26 ?_
    obtain ⟨v27, e_v27, h⟩ := bnd_e h
    refine g_iinc (pc := 104) (v := v27) X [(3, .int v27), (0, .ref (V.2.2.1 + 31)), (1, .ref (V.2.2.1 + l1)), (2, .int l2)] 3 rfl (by rw [e_v27]; rfl) (Nat.le_of_ble_eq_true rfl) rfl dX7_findFailing_104 ?_
    refine g_goto (pc := 107) (tgt := 47) X dX7_findFailing_107 rfl ?_
    refine g_sub [1, 2, 3, 0] rfl ?_
    cases h
    exact hb47 _ _ hA
set_option maxRecDepth 100000 in
theorem tl_Si_findFailing_L47 {V : Ev} {Γ : Cn} {fin : Option Value × St} {l1 : Nat} {l2 : Int32} {x3 : Int32} {σ9 : St} (X : Cx V Γ M_X7_findFailing) (k_l1 : okCl l1) {σ8 : St} {n : Nat} (h : iter (fun s : (Int32 × St) => Si_findFailing_L47 l1 l2 s.2 s.1) n (x3, σ9) = some σ8) (hK : Go V Γ M_X7_findFailing (Zm V Γ 3 fin) 110 [] [] σ8) : Go V Γ M_X7_findFailing (Zm V Γ 3 fin) 47 [(0, .ref (V.2.2.1 + 31)), (1, .ref (V.2.2.1 + l1)), (2, .int l2), (3, .int x3)] [] σ9 := by
  refine iter_go (G := (fun s : (Int32 × St) => Go V Γ M_X7_findFailing (Zm V Γ 3 fin) 47 [(0, .ref (V.2.2.1 + 31)), (1, .ref (V.2.2.1 + l1)), (2, .int l2), (3, .int s.1)] [] s.2)) (fun s o ho hS => ?_) n (x3, σ9) h
  exact tb_Si_findFailing_L47 X k_l1 (fun _ _ h9 => h9) (fun _ he => by cases he; exact hK) ho hS
noncomputable def Si_findFailing (σ : St) (a1 : Nat) (p2 : Int32) : Option St :=
  bd (JA_fill_d0a16 σ 34 64 0) (fun σ2 => bd (iter (fun s : (Int32 × St) => Si_findFailing_L10 a1 p2 s.2 s.1) FUEL (0, σ2)) (fun σ11 => bd (iter (fun s : (Int32 × St) => Si_findFailing_L47 a1 p2 s.2 s.1) FUEL (0, σ11)) (fun σ29 => some σ29)))
set_option maxRecDepth 100000 in
set_option maxHeartbeats 4000000 in
theorem tm_Si_findFailing {V : Ev} {Γ : Cn} {fin : Option Value × St} {σ : St} {a1 : Nat} {p2 : Int32} {o : St} (X : Cx V Γ M_X7_findFailing) {A : St → Prop} (k1 : okCl a1) (hr : ∀ (σ9 : St), A σ9 → (none, σ9) = fin) (h : Si_findFailing σ a1 p2 = some o) (hA : A o) : Go V Γ M_X7_findFailing (Zm V Γ 3 fin) 0 [(0, .ref (V.2.2.1 + 31)), (1, .ref (V.2.2.1 + a1)), (2, .int p2)] [] σ := by
  unfold Si_findFailing at h
  refine g_aload_n (pc := 0) X 0 rfl dX7_findFailing_0 ?_
  refine g_getR (r := 34) (pc := 1) X k_fl_X7_18 s_31 rfl dX7_findFailing_1 ?_
  refine g_lconst (v := 0) (pc := 4) X rfl dX7_findFailing_4 ?_
  obtain ⟨σ2, hc1, h⟩ := bd_e h
  refine g_callS (pc := 5) X k_ml_X7_37 (run_JA_fill_d0a16 s_34 hc1) rfl (room_ok (Nat.le_of_ble_eq_true rfl) (Nat.le_of_ble_eq_true rfl)) ⟨Nat.le_refl _, Nat.le_refl _⟩ _ rfl (Nat.le_of_ble_eq_true rfl) dX7_findFailing_5 ?_
  show Go V Γ M_X7_findFailing (Zm V Γ 3 fin) 8 [(0, .ref (V.2.2.1 + 31)), (1, .ref (V.2.2.1 + a1)), (2, .int p2)] [] σ2
  refine g_iconst (v := 0) (pc := 8) X rfl dX7_findFailing_8 ?_
  refine g_istore_n (pc := 9) X [(3, .int 0), (0, .ref (V.2.2.1 + 31)), (1, .ref (V.2.2.1 + a1)), (2, .int p2)] rfl (Nat.le_of_ble_eq_true rfl) rfl dX7_findFailing_9 ?_
  refine g_sub [1, 2, 3, 0] rfl ?_
  obtain ⟨σ11, hi12, h⟩ := bd_e h
  refine tl_Si_findFailing_L10 X k1 hi12 ?_
  refine g_iconst (v := 0) (pc := 45) X rfl dX7_findFailing_45 ?_
  refine g_istore_n (pc := 46) X [(3, .int 0), (0, .ref (V.2.2.1 + 31)), (1, .ref (V.2.2.1 + a1)), (2, .int p2)] rfl (Nat.le_of_ble_eq_true rfl) rfl dX7_findFailing_46 ?_
  refine g_sub [1, 2, 3, 0] rfl ?_
  obtain ⟨σ29, hi30, h⟩ := bd_e h
  refine tl_Si_findFailing_L47 X k1 hi30 ?_
  cases h
  exact g_vret (pc := 110) X rfl (hr _ hA) dX7_findFailing_110
set_option maxRecDepth 100000 in
theorem run_Si_findFailing {V : Ev} {σ : St} {a1 : Nat} {p2 : Int32} {o : St} (k1 : okCl a1)  (h : Si_findFailing σ a1 p2 = some o) : Rs V 3 M_X7_findFailing [.ref (V.2.2.1 + 31), .ref (V.2.2.1 + a1), .int p2] σ (none, o) := by
  refine Rs.of (by decide +kernel) (Nat.le_of_ble_eq_true rfl) (fun Γ X => ?_)
  exact tm_Si_findFailing X (A := fun o1 => o1 = o) k1 (fun _ e => by rw [e]) h rfl
theorem dX7_leastSet_0 : decode cX7_leastSet 0 = .ok (.iconst 1, 1) := by decide +kernel
theorem dX7_leastSet_1 : decode cX7_leastSet 1 = .ok (.aload_n 1, 1) := by decide +kernel
theorem dX7_leastSet_2 : decode cX7_leastSet 2 = .ok (.getfield 43, 3) := by decide +kernel
theorem dX7_leastSet_5 : decode cX7_leastSet 5 = .ok (.ishl, 1) := by decide +kernel
theorem dX7_leastSet_6 : decode cX7_leastSet 6 = .ok (.istore_n 2, 1) := by decide +kernel
theorem dX7_leastSet_7 : decode cX7_leastSet 7 = .ok (.aload_n 0, 1) := by decide +kernel
theorem dX7_leastSet_8 : decode cX7_leastSet 8 = .ok (.aload_n 1, 1) := by decide +kernel
theorem dX7_leastSet_9 : decode cX7_leastSet 9 = .ok (.iload_n 2, 1) := by decide +kernel
theorem dX7_leastSet_10 : decode cX7_leastSet 10 = .ok (.invokevirtual 107, 3) := by decide +kernel
theorem dX7_leastSet_13 : decode cX7_leastSet 13 = .ok (.aload_n 1, 1) := by decide +kernel
theorem dX7_leastSet_14 : decode cX7_leastSet 14 = .ok (.getfield 111, 3) := by decide +kernel
theorem dX7_leastSet_17 : decode cX7_leastSet 17 = .ok (.istore_n 3, 1) := by decide +kernel
theorem dX7_leastSet_18 : decode cX7_leastSet 18 = .ok (.iconst 0, 1) := by decide +kernel
theorem dX7_leastSet_19 : decode cX7_leastSet 19 = .ok (.istore 4, 2) := by decide +kernel
theorem dX7_leastSet_21 : decode cX7_leastSet 21 = .ok (.iload 4, 2) := by decide +kernel
theorem dX7_leastSet_23 : decode cX7_leastSet 23 = .ok (.iload_n 2, 1) := by decide +kernel
theorem dX7_leastSet_24 : decode cX7_leastSet 24 = .ok (.if_icmp .ge 64, 3) := by decide +kernel
theorem dX7_leastSet_27 : decode cX7_leastSet 27 = .ok (.iload 4, 2) := by decide +kernel
theorem dX7_leastSet_29 : decode cX7_leastSet 29 = .ok (.aload_n 1, 1) := by decide +kernel
theorem dX7_leastSet_30 : decode cX7_leastSet 30 = .ok (.getfield 111, 3) := by decide +kernel
theorem dX7_leastSet_33 : decode cX7_leastSet 33 = .ok (.iconst (-1), 1) := by decide +kernel
theorem dX7_leastSet_34 : decode cX7_leastSet 34 = .ok (.ixor, 1) := by decide +kernel
theorem dX7_leastSet_35 : decode cX7_leastSet 35 = .ok (.iand, 1) := by decide +kernel
theorem dX7_leastSet_36 : decode cX7_leastSet 36 = .ok (.ifCond .ne 7, 3) := by decide +kernel
theorem dX7_leastSet_39 : decode cX7_leastSet 39 = .ok (.iconst 1, 1) := by decide +kernel
theorem dX7_leastSet_40 : decode cX7_leastSet 40 = .ok (.goto 4, 3) := by decide +kernel
theorem dX7_leastSet_43 : decode cX7_leastSet 43 = .ok (.iconst 0, 1) := by decide +kernel
theorem dX7_leastSet_44 : decode cX7_leastSet 44 = .ok (.istore 5, 2) := by decide +kernel
theorem dX7_leastSet_46 : decode cX7_leastSet 46 = .ok (.iload 5, 2) := by decide +kernel
theorem dX7_leastSet_48 : decode cX7_leastSet 48 = .ok (.ifCond .eq 34, 3) := by decide +kernel
theorem dX7_leastSet_51 : decode cX7_leastSet 51 = .ok (.aload_n 0, 1) := by decide +kernel
theorem dX7_leastSet_52 : decode cX7_leastSet 52 = .ok (.getfield 18, 3) := by decide +kernel
theorem dX7_leastSet_55 : decode cX7_leastSet 55 = .ok (.iload_n 2, 1) := by decide +kernel
theorem dX7_leastSet_56 : decode cX7_leastSet 56 = .ok (.iconst 1, 1) := by decide +kernel
theorem dX7_leastSet_57 : decode cX7_leastSet 57 = .ok (.isub, 1) := by decide +kernel
theorem dX7_leastSet_58 : decode cX7_leastSet 58 = .ok (.iload 4, 2) := by decide +kernel
theorem dX7_leastSet_60 : decode cX7_leastSet 60 = .ok (.isub, 1) := by decide +kernel
theorem dX7_leastSet_61 : decode cX7_leastSet 61 = .ok (.invokestatic 114, 3) := by decide +kernel
theorem dX7_leastSet_64 : decode cX7_leastSet 64 = .ok (.ifCond .ne 18, 3) := by decide +kernel
theorem dX7_leastSet_67 : decode cX7_leastSet 67 = .ok (.iload 4, 2) := by decide +kernel
theorem dX7_leastSet_69 : decode cX7_leastSet 69 = .ok (.invokestatic 103, 3) := by decide +kernel
theorem dX7_leastSet_72 : decode cX7_leastSet 72 = .ok (.iload_n 3, 1) := by decide +kernel
theorem dX7_leastSet_73 : decode cX7_leastSet 73 = .ok (.invokestatic 103, 3) := by decide +kernel
theorem dX7_leastSet_76 : decode cX7_leastSet 76 = .ok (.if_icmp .ge 6, 3) := by decide +kernel
theorem dX7_leastSet_79 : decode cX7_leastSet 79 = .ok (.iload 4, 2) := by decide +kernel
theorem dX7_leastSet_81 : decode cX7_leastSet 81 = .ok (.istore_n 3, 1) := by decide +kernel
theorem dX7_leastSet_82 : decode cX7_leastSet 82 = .ok (.iinc 4 1, 3) := by decide +kernel
theorem dX7_leastSet_85 : decode cX7_leastSet 85 = .ok (.goto (-64), 3) := by decide +kernel
theorem dX7_leastSet_88 : decode cX7_leastSet 88 = .ok (.iload_n 3, 1) := by decide +kernel
theorem dX7_leastSet_89 : decode cX7_leastSet 89 = .ok (.ireturn, 1) := by decide +kernel
noncomputable def Si_leastSet_J44_21 (σ : St) (l1 : Nat) (l2 : Int32) (l3 : Int32) (l4 : Int32) (s0 : Int32) : Option (((Int32 × Int32) ⊕ Int32)) :=
  if s0 = 0 then (bnd (l4 + 1) (fun v5 => some (.inl (l3, v5)))) else (bd (RC_hasBit σ 34 64 ((l2 - 1) - l4)) (fun r7 => if r7 = 0 then (bd (JI_bitCount_0f7a4 l4) (fun r10 => bd (JI_bitCount_0f7a4 l3) (fun r12 => if r12 ≤ r10 then (bnd (l4 + 1) (fun v13 => some (.inl (l3, v13)))) else (bnd (l4 + 1) (fun v14 => some (.inl (l4, v14))))))) else (bnd (l4 + 1) (fun v8 => some (.inl (l3, v8))))))
set_option maxRecDepth 100000 in
set_option maxHeartbeats 4000000 in
theorem tj_Si_leastSet_J44_21 {V : Ev} {Γ : Cn} {fin : Option Value × St} {σ : St} {l1 : Nat} {l2 : Int32} {l3 : Int32} {l4 : Int32} {s0 : Int32} {o : ((Int32 × Int32) ⊕ Int32)} (X : Cx V Γ M_X7_leastSet) {A : ((Int32 × Int32) ⊕ Int32) → Prop} (k_l1 : okCl l1) (hb21 : ∀ (x3 : Int32) (x4 : Int32), A (.inl (x3, x4)) → Go V Γ M_X7_leastSet (Zm V Γ 4 fin) 21 [(0, .ref (V.2.2.1 + 31)), (1, .ref (V.2.2.1 + l1)), (2, .int l2), (3, .int x3), (4, .int x4)] [] σ) (hx21 : ∀ (x3 : Int32), A (.inr x3) → Go V Γ M_X7_leastSet (Zm V Γ 4 fin) 88 [(3, .int x3)] [] σ) (h : Si_leastSet_J44_21 σ l1 l2 l3 l4 s0 = some o) (hA : A o) : Go V Γ M_X7_leastSet (Zm V Γ 4 fin) 44 [(0, .ref (V.2.2.1 + 31)), (1, .ref (V.2.2.1 + l1)), (2, .int l2), (3, .int l3), (4, .int l4)] [.int s0] σ := by
  unfold Si_leastSet_J44_21 at h
  refine g_istore (pc := 44) X [(5, .int s0), (0, .ref (V.2.2.1 + 31)), (1, .ref (V.2.2.1 + l1)), (2, .int l2), (3, .int l3), (4, .int l4)] (Nat.le_of_ble_eq_true rfl) rfl dX7_leastSet_44 ?_
  refine g_iload (pc := 46) X 0 rfl dX7_leastSet_46 ?_
  refine g_if_eq (pc := 48) (tgt := 82) X dX7_leastSet_48 rfl (fun c17 => ?_) (fun c17 => ?_)
  · replace h := if_t c17 h
    obtain ⟨v5, e_v5, h⟩ := bnd_e h
    refine g_iinc (pc := 82) (v := v5) X [(4, .int v5), (5, .int s0), (0, .ref (V.2.2.1 + 31)), (1, .ref (V.2.2.1 + l1)), (2, .int l2), (3, .int l3)] 5 rfl (by rw [e_v5]; rfl) (Nat.le_of_ble_eq_true rfl) rfl dX7_leastSet_82 ?_
    refine g_goto (pc := 85) (tgt := 21) X dX7_leastSet_85 rfl ?_
    refine g_sub [2, 3, 4, 5, 0] rfl ?_
    cases h
    exact hb21 _ _ hA
  · replace h := if_f c17 h
    refine g_aload_n (pc := 51) X 1 rfl dX7_leastSet_51 ?_
    refine g_getR (r := 34) (pc := 52) X k_fl_X7_18 s_31 rfl dX7_leastSet_52 ?_
    refine g_iload_n (pc := 55) X 3 rfl dX7_leastSet_55 ?_
    refine g_iconst (v := 1) (pc := 56) X rfl dX7_leastSet_56 ?_
    refine g_isub (pc := 57) X dX7_leastSet_57 ?_
    refine g_iload (pc := 58) X 5 rfl dX7_leastSet_58 ?_
    refine g_isub (pc := 60) X dX7_leastSet_60 ?_
    obtain ⟨r7, hc6, h⟩ := bd_e h
    refine g_callS (pc := 61) X k_ml_X7_114 (run_RC_hasBit s_34 hc6) rfl (room_ok (Nat.le_of_ble_eq_true rfl) (Nat.le_of_ble_eq_true rfl)) ⟨Nat.le_refl _, Nat.le_refl _⟩ _ rfl (Nat.le_of_ble_eq_true rfl) dX7_leastSet_61 ?_
    show Go V Γ M_X7_leastSet (Zm V Γ 4 fin) 64 [(5, .int s0), (0, .ref (V.2.2.1 + 31)), (1, .ref (V.2.2.1 + l1)), (2, .int l2), (3, .int l3), (4, .int l4)] [.int r7] σ
    refine g_if_ne (pc := 64) (tgt := 82) X dX7_leastSet_64 rfl (fun c16 => ?_) (fun c16 => ?_)
    · replace h := if_f c16 h
      obtain ⟨v8, e_v8, h⟩ := bnd_e h
      refine g_iinc (pc := 82) (v := v8) X [(4, .int v8), (5, .int s0), (0, .ref (V.2.2.1 + 31)), (1, .ref (V.2.2.1 + l1)), (2, .int l2), (3, .int l3)] 5 rfl (by rw [e_v8]; rfl) (Nat.le_of_ble_eq_true rfl) rfl dX7_leastSet_82 ?_
      refine g_goto (pc := 85) (tgt := 21) X dX7_leastSet_85 rfl ?_
      refine g_sub [2, 3, 4, 5, 0] rfl ?_
      cases h
      exact hb21 _ _ hA
    · replace h := if_t c16 h
      refine g_iload (pc := 67) X 5 rfl dX7_leastSet_67 ?_
      obtain ⟨r10, hc9, h⟩ := bd_e h
      refine g_callS (pc := 69) X k_ml_X7_103 (run_JI_bitCount_0f7a4  hc9) rfl (room_ok (Nat.le_of_ble_eq_true rfl) (Nat.le_of_ble_eq_true rfl)) ⟨Nat.le_refl _, Nat.le_refl _⟩ _ rfl (Nat.le_of_ble_eq_true rfl) dX7_leastSet_69 ?_
      show Go V Γ M_X7_leastSet (Zm V Γ 4 fin) 72 [(5, .int s0), (0, .ref (V.2.2.1 + 31)), (1, .ref (V.2.2.1 + l1)), (2, .int l2), (3, .int l3), (4, .int l4)] [.int r10] σ
      refine g_iload_n (pc := 72) X 4 rfl dX7_leastSet_72 ?_
      obtain ⟨r12, hc11, h⟩ := bd_e h
      refine g_callS (pc := 73) X k_ml_X7_103 (run_JI_bitCount_0f7a4  hc11) rfl (room_ok (Nat.le_of_ble_eq_true rfl) (Nat.le_of_ble_eq_true rfl)) ⟨Nat.le_refl _, Nat.le_refl _⟩ _ rfl (Nat.le_of_ble_eq_true rfl) dX7_leastSet_73 ?_
      show Go V Γ M_X7_leastSet (Zm V Γ 4 fin) 76 [(5, .int s0), (0, .ref (V.2.2.1 + 31)), (1, .ref (V.2.2.1 + l1)), (2, .int l2), (3, .int l3), (4, .int l4)] [.int r12, .int r10] σ
      refine g_icmp_ge (pc := 76) (tgt := 82) X dX7_leastSet_76 rfl (fun c15 => ?_) (fun c15 => ?_)
      · replace h := if_t c15 h
        obtain ⟨v13, e_v13, h⟩ := bnd_e h
        refine g_iinc (pc := 82) (v := v13) X [(4, .int v13), (5, .int s0), (0, .ref (V.2.2.1 + 31)), (1, .ref (V.2.2.1 + l1)), (2, .int l2), (3, .int l3)] 5 rfl (by rw [e_v13]; rfl) (Nat.le_of_ble_eq_true rfl) rfl dX7_leastSet_82 ?_
        refine g_goto (pc := 85) (tgt := 21) X dX7_leastSet_85 rfl ?_
        refine g_sub [2, 3, 4, 5, 0] rfl ?_
        cases h
        exact hb21 _ _ hA
      · replace h := if_f c15 h
        refine g_iload (pc := 79) X 5 rfl dX7_leastSet_79 ?_
        refine g_istore_n (pc := 81) X [(3, .int l4), (5, .int s0), (0, .ref (V.2.2.1 + 31)), (1, .ref (V.2.2.1 + l1)), (2, .int l2), (4, .int l4)] rfl (Nat.le_of_ble_eq_true rfl) rfl dX7_leastSet_81 ?_
        obtain ⟨v14, e_v14, h⟩ := bnd_e h
        refine g_iinc (pc := 82) (v := v14) X [(4, .int v14), (3, .int l4), (5, .int s0), (0, .ref (V.2.2.1 + 31)), (1, .ref (V.2.2.1 + l1)), (2, .int l2)] 5 rfl (by rw [e_v14]; rfl) (Nat.le_of_ble_eq_true rfl) rfl dX7_leastSet_82 ?_
        refine g_goto (pc := 85) (tgt := 21) X dX7_leastSet_85 rfl ?_
        refine g_sub [3, 4, 5, 1, 0] rfl ?_
        cases h
        exact hb21 _ _ hA
noncomputable def Si_leastSet_L21 (l1 : Nat) (l2 : Int32) (σ : St) (x3 : Int32) (x4 : Int32) : Option ((Int32 × Int32) ⊕ Int32) :=
  if l2 ≤ x4 then (some (.inr x3)) else (if (x4 &&& ((σ.1 l1 4) ^^^ (-1))) = 0 then (Si_leastSet_J44_21 σ l1 l2 x3 x4 1) else (Si_leastSet_J44_21 σ l1 l2 x3 x4 0))
set_option maxRecDepth 100000 in
set_option maxHeartbeats 4000000 in
theorem tb_Si_leastSet_L21 {V : Ev} {Γ : Cn} {fin : Option Value × St} {l1 : Nat} {l2 : Int32} {σ : St} {x3 : Int32} {x4 : Int32} {o : ((Int32 × Int32) ⊕ Int32)} (X : Cx V Γ M_X7_leastSet) {A : ((Int32 × Int32) ⊕ Int32) → Prop} (k_l1 : okCl l1) (hb21 : ∀ (x3 : Int32) (x4 : Int32), A (.inl (x3, x4)) → Go V Γ M_X7_leastSet (Zm V Γ 4 fin) 21 [(0, .ref (V.2.2.1 + 31)), (1, .ref (V.2.2.1 + l1)), (2, .int l2), (3, .int x3), (4, .int x4)] [] σ) (hx21 : ∀ (x3 : Int32), A (.inr x3) → Go V Γ M_X7_leastSet (Zm V Γ 4 fin) 88 [(3, .int x3)] [] σ) (h : Si_leastSet_L21 l1 l2 σ x3 x4 = some o) (hA : A o) : Go V Γ M_X7_leastSet (Zm V Γ 4 fin) 21 [(0, .ref (V.2.2.1 + 31)), (1, .ref (V.2.2.1 + l1)), (2, .int l2), (3, .int x3), (4, .int x4)] [] σ := by
  unfold Si_leastSet_L21 at h
  refine g_iload (pc := 21) X 4 rfl dX7_leastSet_21 ?_
  refine g_iload_n (pc := 23) X 2 rfl dX7_leastSet_23 ?_
  refine g_icmp_ge (pc := 24) (tgt := 88) X dX7_leastSet_24 rfl (fun c19 => ?_) (fun c19 => ?_)
  · replace h := if_t c19 h
    refine g_sub [3] rfl ?_
    cases h
    exact hx21 _ hA
  · replace h := if_f c19 h
    refine g_iload (pc := 27) X 4 rfl dX7_leastSet_27 ?_
    refine g_aload_n (pc := 29) X 1 rfl dX7_leastSet_29 ?_
    refine g_getI (pc := 30) X k_fl_X7_111 (sCl_0 k_l1) rfl dX7_leastSet_30 ?_
    refine g_iconst (v := (-1)) (pc := 33) X rfl dX7_leastSet_33 ?_
    refine g_ixor (pc := 34) X dX7_leastSet_34 ?_
    refine g_iand (pc := 35) X dX7_leastSet_35 ?_
    refine g_if_ne (pc := 36) (tgt := 43) X dX7_leastSet_36 rfl (fun c18 => ?_) (fun c18 => ?_)
    · replace h := if_f c18 h
      refine g_iconst (v := 0) (pc := 43) X rfl dX7_leastSet_43 ?_
      refine g_sub [0, 1, 2, 3, 4] rfl ?_
      exact tj_Si_leastSet_J44_21 X k_l1 hb21 hx21 h hA
    · replace h := if_t c18 h
      refine g_iconst (v := 1) (pc := 39) X rfl dX7_leastSet_39 ?_
      refine g_goto (pc := 40) (tgt := 44) X dX7_leastSet_40 rfl ?_
      refine g_sub [0, 1, 2, 3, 4] rfl ?_
      exact tj_Si_leastSet_J44_21 X k_l1 hb21 hx21 h hA
set_option maxRecDepth 100000 in
theorem tl_Si_leastSet_L21 {V : Ev} {Γ : Cn} {fin : Option Value × St} {l1 : Nat} {l2 : Int32} {σ : St} {x3 : Int32} {x4 : Int32} (X : Cx V Γ M_X7_leastSet) (k_l1 : okCl l1) {y3 : Int32} {n : Nat} (h : iter (fun s : (Int32 × Int32) => Si_leastSet_L21 l1 l2 σ s.1 s.2) n (x3, x4) = some y3) (hK : Go V Γ M_X7_leastSet (Zm V Γ 4 fin) 88 [(3, .int y3)] [] σ) : Go V Γ M_X7_leastSet (Zm V Γ 4 fin) 21 [(0, .ref (V.2.2.1 + 31)), (1, .ref (V.2.2.1 + l1)), (2, .int l2), (3, .int x3), (4, .int x4)] [] σ := by
  refine iter_go (G := (fun s : (Int32 × Int32) => Go V Γ M_X7_leastSet (Zm V Γ 4 fin) 21 [(0, .ref (V.2.2.1 + 31)), (1, .ref (V.2.2.1 + l1)), (2, .int l2), (3, .int s.1), (4, .int s.2)] [] σ)) (fun s o ho hS => ?_) n (x3, x4) h
  exact tb_Si_leastSet_L21 X k_l1 (fun _ _ h9 => h9) (fun _ he => by cases he; exact hK) ho hS
noncomputable def Si_leastSet (σ : St) (a1 : Nat) : Option (Int32 × St) :=
  bnd ((1 <<< ((σ.1 a1 3) &&& 31))) (fun v1 => bd (Si_findFailing σ a1 v1) (fun σ3 => bnd ((σ3.1 a1 4)) (fun v4 => bd (iter (fun s : (Int32 × Int32) => Si_leastSet_L21 a1 v1 σ3 s.1 s.2) FUEL (v4, 0)) (fun v20 => some (v20, σ3)))))
set_option maxRecDepth 100000 in
set_option maxHeartbeats 4000000 in
theorem tm_Si_leastSet {V : Ev} {Γ : Cn} {fin : Option Value × St} {σ : St} {a1 : Nat} {o : (Int32 × St)} (X : Cx V Γ M_X7_leastSet) {A : (Int32 × St) → Prop} (k1 : okCl a1) (hr : ∀ (r : Int32) (σ9 : St), A (r, σ9) → (some (.int r), σ9) = fin) (h : Si_leastSet σ a1 = some o) (hA : A o) : Go V Γ M_X7_leastSet (Zm V Γ 4 fin) 0 [(0, .ref (V.2.2.1 + 31)), (1, .ref (V.2.2.1 + a1))] [] σ := by
  unfold Si_leastSet at h
  refine g_iconst (v := 1) (pc := 0) X rfl dX7_leastSet_0 ?_
  refine g_aload_n (pc := 1) X 1 rfl dX7_leastSet_1 ?_
  refine g_getI (pc := 2) X k_fl_X7_43 (sCl_0 k1) rfl dX7_leastSet_2 ?_
  refine g_ishl (pc := 5) X dX7_leastSet_5 ?_
  obtain ⟨v1, e_v1, h⟩ := bnd_e h
  refine g_nmI e_v1 ?_
  refine g_istore_n (pc := 6) X [(2, .int v1), (0, .ref (V.2.2.1 + 31)), (1, .ref (V.2.2.1 + a1))] rfl (Nat.le_of_ble_eq_true rfl) rfl dX7_leastSet_6 ?_
  refine g_aload_n (pc := 7) X 1 rfl dX7_leastSet_7 ?_
  refine g_aload_n (pc := 8) X 2 rfl dX7_leastSet_8 ?_
  refine g_iload_n (pc := 9) X 0 rfl dX7_leastSet_9 ?_
  obtain ⟨σ3, hc2, h⟩ := bd_e h
  refine g_callV (pc := 10) X k_ml_X7_107 (run_Si_findFailing k1 hc2) s_31 rfl (room_ok (Nat.le_of_ble_eq_true rfl) (Nat.le_of_ble_eq_true rfl)) ⟨Nat.le_refl _, Nat.le_refl _⟩ _ rfl (Nat.le_of_ble_eq_true rfl) dX7_leastSet_10 ?_
  show Go V Γ M_X7_leastSet (Zm V Γ 4 fin) 13 [(2, .int v1), (0, .ref (V.2.2.1 + 31)), (1, .ref (V.2.2.1 + a1))] [] σ3
  refine g_aload_n (pc := 13) X 2 rfl dX7_leastSet_13 ?_
  refine g_getI (pc := 14) X k_fl_X7_111 (sCl_0 k1) rfl dX7_leastSet_14 ?_
  obtain ⟨v4, e_v4, h⟩ := bnd_e h
  refine g_nmI e_v4 ?_
  refine g_istore_n (pc := 17) X [(3, .int v4), (2, .int v1), (0, .ref (V.2.2.1 + 31)), (1, .ref (V.2.2.1 + a1))] rfl (Nat.le_of_ble_eq_true rfl) rfl dX7_leastSet_17 ?_
  refine g_iconst (v := 0) (pc := 18) X rfl dX7_leastSet_18 ?_
  refine g_istore (pc := 19) X [(4, .int 0), (3, .int v4), (2, .int v1), (0, .ref (V.2.2.1 + 31)), (1, .ref (V.2.2.1 + a1))] (Nat.le_of_ble_eq_true rfl) rfl dX7_leastSet_19 ?_
  refine g_sub [3, 4, 2, 1, 0] rfl ?_
  obtain ⟨v20, hi21, h⟩ := bd_e h
  refine tl_Si_leastSet_L21 X k1 hi21 ?_
  refine g_iload_n (pc := 88) X 0 rfl dX7_leastSet_88 ?_
  cases h
  exact g_iret (pc := 89) X rfl rfl (hr _ _ hA) dX7_leastSet_89
set_option maxRecDepth 100000 in
theorem run_Si_leastSet {V : Ev} {σ : St} {a1 : Nat} {o : (Int32 × St)} (k1 : okCl a1)  (h : Si_leastSet σ a1 = some o) : Rs V 4 M_X7_leastSet [.ref (V.2.2.1 + 31), .ref (V.2.2.1 + a1)] σ (some (.int o.1), o.2) := by
  refine Rs.of (by decide +kernel) (Nat.le_of_ble_eq_true rfl) (fun Γ X => ?_)
  exact tm_Si_leastSet X (A := fun o1 => o1 = o) k1 (fun _ _ e => by rw [← e]) h rfl
theorem dX7_comesAgainBy_0 : decode cX7_comesAgainBy 0 = .ok (.iconst 0, 1) := by decide +kernel
theorem dX7_comesAgainBy_1 : decode cX7_comesAgainBy 1 = .ok (.istore_n 2, 1) := by decide +kernel
theorem dX7_comesAgainBy_2 : decode cX7_comesAgainBy 2 = .ok (.iload_n 2, 1) := by decide +kernel
theorem dX7_comesAgainBy_3 : decode cX7_comesAgainBy 3 = .ok (.iload_n 1, 1) := by decide +kernel
theorem dX7_comesAgainBy_4 : decode cX7_comesAgainBy 4 = .ok (.iadd, 1) := by decide +kernel
theorem dX7_comesAgainBy_5 : decode cX7_comesAgainBy 5 = .ok (.aload_n 0, 1) := by decide +kernel
theorem dX7_comesAgainBy_6 : decode cX7_comesAgainBy 6 = .ok (.getfield 21, 3) := by decide +kernel
theorem dX7_comesAgainBy_9 : decode cX7_comesAgainBy 9 = .ok (.if_icmp .ge 32, 3) := by decide +kernel
theorem dX7_comesAgainBy_12 : decode cX7_comesAgainBy 12 = .ok (.aload_n 0, 1) := by decide +kernel
theorem dX7_comesAgainBy_13 : decode cX7_comesAgainBy 13 = .ok (.getfield 9, 3) := by decide +kernel
theorem dX7_comesAgainBy_16 : decode cX7_comesAgainBy 16 = .ok (.iload_n 2, 1) := by decide +kernel
theorem dX7_comesAgainBy_17 : decode cX7_comesAgainBy 17 = .ok (.invokestatic 114, 3) := by decide +kernel
theorem dX7_comesAgainBy_20 : decode cX7_comesAgainBy 20 = .ok (.aload_n 0, 1) := by decide +kernel
theorem dX7_comesAgainBy_21 : decode cX7_comesAgainBy 21 = .ok (.getfield 9, 3) := by decide +kernel
theorem dX7_comesAgainBy_24 : decode cX7_comesAgainBy 24 = .ok (.iload_n 2, 1) := by decide +kernel
theorem dX7_comesAgainBy_25 : decode cX7_comesAgainBy 25 = .ok (.iload_n 1, 1) := by decide +kernel
theorem dX7_comesAgainBy_26 : decode cX7_comesAgainBy 26 = .ok (.iadd, 1) := by decide +kernel
theorem dX7_comesAgainBy_27 : decode cX7_comesAgainBy 27 = .ok (.invokestatic 114, 3) := by decide +kernel
theorem dX7_comesAgainBy_30 : decode cX7_comesAgainBy 30 = .ok (.if_icmp .eq 5, 3) := by decide +kernel
theorem dX7_comesAgainBy_33 : decode cX7_comesAgainBy 33 = .ok (.iconst 0, 1) := by decide +kernel
theorem dX7_comesAgainBy_34 : decode cX7_comesAgainBy 34 = .ok (.ireturn, 1) := by decide +kernel
theorem dX7_comesAgainBy_35 : decode cX7_comesAgainBy 35 = .ok (.iinc 2 1, 3) := by decide +kernel
theorem dX7_comesAgainBy_38 : decode cX7_comesAgainBy 38 = .ok (.goto (-36), 3) := by decide +kernel
theorem dX7_comesAgainBy_41 : decode cX7_comesAgainBy 41 = .ok (.iconst 1, 1) := by decide +kernel
theorem dX7_comesAgainBy_42 : decode cX7_comesAgainBy 42 = .ok (.ireturn, 1) := by decide +kernel
noncomputable def Si_comesAgainBy_L2 (l1 : Int32) (σ : St) (x2 : Int32) : Option (Int32 ⊕ Int32) :=
  if (σ.1 31 3) ≤ (x2 + l1) then (some (.inr 1)) else (bd (RC_hasBit σ 32 79 x2) (fun r2 => bd (RC_hasBit σ 32 79 (x2 + l1)) (fun r4 => if r2 = r4 then (bnd (x2 + 1) (fun v5 => some (.inl v5))) else (some (.inr 0)))))
set_option maxRecDepth 100000 in
set_option maxHeartbeats 4000000 in
theorem tb_Si_comesAgainBy_L2 {V : Ev} {Γ : Cn} {fin : Option Value × St} {l1 : Int32} {σ : St} {x2 : Int32} {o : (Int32 ⊕ Int32)} (X : Cx V Γ M_X7_comesAgainBy) {A : (Int32 ⊕ Int32) → Prop}  (hr : ∀ (r : Int32), A (.inr r) → (some (.int r), σ) = fin) (hb2 : ∀ (x2 : Int32), A (.inl x2) → Go V Γ M_X7_comesAgainBy (Zm V Γ 2 fin) 2 [(0, .ref (V.2.2.1 + 31)), (1, .int l1), (2, .int x2)] [] σ) (h : Si_comesAgainBy_L2 l1 σ x2 = some o) (hA : A o) : Go V Γ M_X7_comesAgainBy (Zm V Γ 2 fin) 2 [(0, .ref (V.2.2.1 + 31)), (1, .int l1), (2, .int x2)] [] σ := by
  unfold Si_comesAgainBy_L2 at h
  refine g_iload_n (pc := 2) X 2 rfl dX7_comesAgainBy_2 ?_
  refine g_iload_n (pc := 3) X 1 rfl dX7_comesAgainBy_3 ?_
  refine g_iadd (pc := 4) X dX7_comesAgainBy_4 ?_
  refine g_aload_n (pc := 5) X 0 rfl dX7_comesAgainBy_5 ?_
  refine g_getI (pc := 6) X k_fl_X7_21 s_31 rfl dX7_comesAgainBy_6 ?_
  refine g_icmp_ge (pc := 9) (tgt := 41) X dX7_comesAgainBy_9 rfl (fun c7 => ?_) (fun c7 => ?_)
  · replace h := if_t c7 h
    refine g_iconst (v := 1) (pc := 41) X rfl dX7_comesAgainBy_41 ?_
    cases h
    exact g_iret (pc := 42) X rfl nz1.1 (hr _ hA) dX7_comesAgainBy_42
  · replace h := if_f c7 h
    refine g_aload_n (pc := 12) X 0 rfl dX7_comesAgainBy_12 ?_
    refine g_getR (r := 32) (pc := 13) X k_fl_X7_9 s_31 rfl dX7_comesAgainBy_13 ?_
    refine g_iload_n (pc := 16) X 2 rfl dX7_comesAgainBy_16 ?_
    obtain ⟨r2, hc1, h⟩ := bd_e h
    refine g_callS (pc := 17) X k_ml_X7_114 (run_RC_hasBit s_32 hc1) rfl (room_ok (Nat.le_of_ble_eq_true rfl) (Nat.le_of_ble_eq_true rfl)) ⟨Nat.le_refl _, Nat.le_refl _⟩ _ rfl (Nat.le_of_ble_eq_true rfl) dX7_comesAgainBy_17 ?_
    show Go V Γ M_X7_comesAgainBy (Zm V Γ 2 fin) 20 [(0, .ref (V.2.2.1 + 31)), (1, .int l1), (2, .int x2)] [.int r2] σ
    refine g_aload_n (pc := 20) X 0 rfl dX7_comesAgainBy_20 ?_
    refine g_getR (r := 32) (pc := 21) X k_fl_X7_9 s_31 rfl dX7_comesAgainBy_21 ?_
    refine g_iload_n (pc := 24) X 2 rfl dX7_comesAgainBy_24 ?_
    refine g_iload_n (pc := 25) X 1 rfl dX7_comesAgainBy_25 ?_
    refine g_iadd (pc := 26) X dX7_comesAgainBy_26 ?_
    obtain ⟨r4, hc3, h⟩ := bd_e h
    refine g_callS (pc := 27) X k_ml_X7_114 (run_RC_hasBit s_32 hc3) rfl (room_ok (Nat.le_of_ble_eq_true rfl) (Nat.le_of_ble_eq_true rfl)) ⟨Nat.le_refl _, Nat.le_refl _⟩ _ rfl (Nat.le_of_ble_eq_true rfl) dX7_comesAgainBy_27 ?_
    show Go V Γ M_X7_comesAgainBy (Zm V Γ 2 fin) 30 [(0, .ref (V.2.2.1 + 31)), (1, .int l1), (2, .int x2)] [.int r4, .int r2] σ
    refine g_icmp_eq (pc := 30) (tgt := 35) X dX7_comesAgainBy_30 rfl (fun c6 => ?_) (fun c6 => ?_)
    · replace h := if_t c6 h
      obtain ⟨v5, e_v5, h⟩ := bnd_e h
      refine g_iinc (pc := 35) (v := v5) X [(2, .int v5), (0, .ref (V.2.2.1 + 31)), (1, .int l1)] 2 rfl (by rw [e_v5]; rfl) (Nat.le_of_ble_eq_true rfl) rfl dX7_comesAgainBy_35 ?_
      refine g_goto (pc := 38) (tgt := 2) X dX7_comesAgainBy_38 rfl ?_
      refine g_sub [1, 2, 0] rfl ?_
      cases h
      exact hb2 _ hA
    · replace h := if_f c6 h
      refine g_iconst (v := 0) (pc := 33) X rfl dX7_comesAgainBy_33 ?_
      cases h
      exact g_iret (pc := 34) X rfl nz0.1 (hr _ hA) dX7_comesAgainBy_34
set_option maxRecDepth 100000 in
theorem tl_Si_comesAgainBy_L2 {V : Ev} {Γ : Cn} {fin : Option Value × St} {l1 : Int32} {σ : St} {x2 : Int32} (X : Cx V Γ M_X7_comesAgainBy)  {e : Int32} {A : Int32 → Prop} (hr : ∀ (r : Int32), A r → (some (.int r), σ) = fin) {n : Nat} (h : iter (fun s : Int32 => Si_comesAgainBy_L2 l1 σ s) n x2 = some e) (hA : A e) : Go V Γ M_X7_comesAgainBy (Zm V Γ 2 fin) 2 [(0, .ref (V.2.2.1 + 31)), (1, .int l1), (2, .int x2)] [] σ := by
  refine iter_go (G := (fun s : Int32 => Go V Γ M_X7_comesAgainBy (Zm V Γ 2 fin) 2 [(0, .ref (V.2.2.1 + 31)), (1, .int l1), (2, .int s)] [] σ)) (fun s o ho hS => ?_) n x2 h
  exact tb_Si_comesAgainBy_L2 X  (fun z0 he => hr z0 (by rw [he]; exact hA)) (fun _ h9 => h9) ho hS
noncomputable def Si_comesAgainBy (σ : St) (p1 : Int32) : Option Int32 :=
  iter (fun s : Int32 => Si_comesAgainBy_L2 p1 σ s) FUEL 0
set_option maxRecDepth 100000 in
set_option maxHeartbeats 4000000 in
theorem tm_Si_comesAgainBy {V : Ev} {Γ : Cn} {fin : Option Value × St} {σ : St} {p1 : Int32} {o : Int32} (X : Cx V Γ M_X7_comesAgainBy) {A : Int32 → Prop}  (hr : ∀ (r : Int32), A r → (some (.int r), σ) = fin) (h : Si_comesAgainBy σ p1 = some o) (hA : A o) : Go V Γ M_X7_comesAgainBy (Zm V Γ 2 fin) 0 [(0, .ref (V.2.2.1 + 31)), (1, .int p1)] [] σ := by
  unfold Si_comesAgainBy at h
  refine g_iconst (v := 0) (pc := 0) X rfl dX7_comesAgainBy_0 ?_
  refine g_istore_n (pc := 1) X [(2, .int 0), (0, .ref (V.2.2.1 + 31)), (1, .int p1)] rfl (Nat.le_of_ble_eq_true rfl) rfl dX7_comesAgainBy_1 ?_
  refine g_sub [1, 2, 0] rfl ?_
  exact tl_Si_comesAgainBy_L2 X  hr h hA
set_option maxRecDepth 100000 in
theorem run_Si_comesAgainBy {V : Ev} {σ : St} {p1 : Int32} {o : Int32}   (h : Si_comesAgainBy σ p1 = some o) : Rs V 2 M_X7_comesAgainBy [.ref (V.2.2.1 + 31), .int p1] σ (some (.int o), σ) := by
  refine Rs.of (by decide +kernel) (Nat.le_of_ble_eq_true rfl) (fun Γ X => ?_)
  exact tm_Si_comesAgainBy X (A := fun o1 => o1 = o)  (fun _ e => by rw [e]) h rfl
theorem dX7_leastTurn_0 : decode cX7_leastTurn 0 = .ok (.iconst 1, 1) := by decide +kernel
theorem dX7_leastTurn_1 : decode cX7_leastTurn 1 = .ok (.istore_n 1, 1) := by decide +kernel
theorem dX7_leastTurn_2 : decode cX7_leastTurn 2 = .ok (.iload_n 1, 1) := by decide +kernel
theorem dX7_leastTurn_3 : decode cX7_leastTurn 3 = .ok (.aload_n 0, 1) := by decide +kernel
theorem dX7_leastTurn_4 : decode cX7_leastTurn 4 = .ok (.getfield 21, 3) := by decide +kernel
theorem dX7_leastTurn_7 : decode cX7_leastTurn 7 = .ok (.if_icmp .ge 30, 3) := by decide +kernel
theorem dX7_leastTurn_10 : decode cX7_leastTurn 10 = .ok (.aload_n 0, 1) := by decide +kernel
theorem dX7_leastTurn_11 : decode cX7_leastTurn 11 = .ok (.getfield 21, 3) := by decide +kernel
theorem dX7_leastTurn_14 : decode cX7_leastTurn 14 = .ok (.iload_n 1, 1) := by decide +kernel
theorem dX7_leastTurn_15 : decode cX7_leastTurn 15 = .ok (.invokestatic 65, 3) := by decide +kernel
theorem dX7_leastTurn_18 : decode cX7_leastTurn 18 = .ok (.ifCond .ne 13, 3) := by decide +kernel
theorem dX7_leastTurn_21 : decode cX7_leastTurn 21 = .ok (.aload_n 0, 1) := by decide +kernel
theorem dX7_leastTurn_22 : decode cX7_leastTurn 22 = .ok (.iload_n 1, 1) := by decide +kernel
theorem dX7_leastTurn_23 : decode cX7_leastTurn 23 = .ok (.invokevirtual 122, 3) := by decide +kernel
theorem dX7_leastTurn_26 : decode cX7_leastTurn 26 = .ok (.ifCond .eq 5, 3) := by decide +kernel
theorem dX7_leastTurn_29 : decode cX7_leastTurn 29 = .ok (.iload_n 1, 1) := by decide +kernel
theorem dX7_leastTurn_30 : decode cX7_leastTurn 30 = .ok (.ireturn, 1) := by decide +kernel
theorem dX7_leastTurn_31 : decode cX7_leastTurn 31 = .ok (.iinc 1 1, 3) := by decide +kernel
theorem dX7_leastTurn_34 : decode cX7_leastTurn 34 = .ok (.goto (-32), 3) := by decide +kernel
theorem dX7_leastTurn_37 : decode cX7_leastTurn 37 = .ok (.aload_n 0, 1) := by decide +kernel
theorem dX7_leastTurn_38 : decode cX7_leastTurn 38 = .ok (.getfield 21, 3) := by decide +kernel
theorem dX7_leastTurn_41 : decode cX7_leastTurn 41 = .ok (.ireturn, 1) := by decide +kernel
noncomputable def Si_leastTurn_L2 (σ : St) (x1 : Int32) : Option (Int32 ⊕ Int32) :=
  if (σ.1 31 3) ≤ x1 then (some (.inr (σ.1 31 3))) else (bd (RC_leftBy (σ.1 31 3) x1) (fun r2 => if r2 = 0 then (bd (Si_comesAgainBy σ x1) (fun r5 => if r5 = 0 then (bnd (x1 + 1) (fun v6 => some (.inl v6))) else (some (.inr x1)))) else (bnd (x1 + 1) (fun v3 => some (.inl v3)))))
set_option maxRecDepth 100000 in
set_option maxHeartbeats 4000000 in
theorem tb_Si_leastTurn_L2 {V : Ev} {Γ : Cn} {fin : Option Value × St} {σ : St} {x1 : Int32} {o : (Int32 ⊕ Int32)} (X : Cx V Γ M_X7_leastTurn) {A : (Int32 ⊕ Int32) → Prop}  (hr : ∀ (r : Int32), A (.inr r) → (some (.int r), σ) = fin) (hb2 : ∀ (x1 : Int32), A (.inl x1) → Go V Γ M_X7_leastTurn (Zm V Γ 3 fin) 2 [(0, .ref (V.2.2.1 + 31)), (1, .int x1)] [] σ) (h : Si_leastTurn_L2 σ x1 = some o) (hA : A o) : Go V Γ M_X7_leastTurn (Zm V Γ 3 fin) 2 [(0, .ref (V.2.2.1 + 31)), (1, .int x1)] [] σ := by
  unfold Si_leastTurn_L2 at h
  refine g_iload_n (pc := 2) X 1 rfl dX7_leastTurn_2 ?_
  refine g_aload_n (pc := 3) X 0 rfl dX7_leastTurn_3 ?_
  refine g_getI (pc := 4) X k_fl_X7_21 s_31 rfl dX7_leastTurn_4 ?_
  refine g_icmp_ge (pc := 7) (tgt := 37) X dX7_leastTurn_7 rfl (fun c9 => ?_) (fun c9 => ?_)
  · replace h := if_t c9 h
    refine g_aload_n (pc := 37) X 0 rfl dX7_leastTurn_37 ?_
    refine g_getI (pc := 38) X k_fl_X7_21 s_31 rfl dX7_leastTurn_38 ?_
    cases h
    exact g_iret (pc := 41) X rfl rfl (hr _ hA) dX7_leastTurn_41
  · replace h := if_f c9 h
    refine g_aload_n (pc := 10) X 0 rfl dX7_leastTurn_10 ?_
    refine g_getI (pc := 11) X k_fl_X7_21 s_31 rfl dX7_leastTurn_11 ?_
    refine g_iload_n (pc := 14) X 1 rfl dX7_leastTurn_14 ?_
    obtain ⟨r2, hc1, h⟩ := bd_e h
    refine g_callS (pc := 15) X k_ml_X7_65 (run_RC_leftBy  hc1) rfl (room_ok (Nat.le_of_ble_eq_true rfl) (Nat.le_of_ble_eq_true rfl)) ⟨Nat.le_refl _, Nat.le_refl _⟩ _ rfl (Nat.le_of_ble_eq_true rfl) dX7_leastTurn_15 ?_
    show Go V Γ M_X7_leastTurn (Zm V Γ 3 fin) 18 [(0, .ref (V.2.2.1 + 31)), (1, .int x1)] [.int r2] σ
    refine g_if_ne (pc := 18) (tgt := 31) X dX7_leastTurn_18 rfl (fun c8 => ?_) (fun c8 => ?_)
    · replace h := if_f c8 h
      obtain ⟨v3, e_v3, h⟩ := bnd_e h
      refine g_iinc (pc := 31) (v := v3) X [(1, .int v3), (0, .ref (V.2.2.1 + 31))] 1 rfl (by rw [e_v3]; rfl) (Nat.le_of_ble_eq_true rfl) rfl dX7_leastTurn_31 ?_
      refine g_goto (pc := 34) (tgt := 2) X dX7_leastTurn_34 rfl ?_
      refine g_sub [1, 0] rfl ?_
      cases h
      exact hb2 _ hA
    · replace h := if_t c8 h
      refine g_aload_n (pc := 21) X 0 rfl dX7_leastTurn_21 ?_
      refine g_iload_n (pc := 22) X 1 rfl dX7_leastTurn_22 ?_
      obtain ⟨r5, hc4, h⟩ := bd_e h
      refine g_callV (pc := 23) X k_ml_X7_122 (run_Si_comesAgainBy  hc4) s_31 rfl (room_ok (Nat.le_of_ble_eq_true rfl) (Nat.le_of_ble_eq_true rfl)) ⟨Nat.le_refl _, Nat.le_refl _⟩ _ rfl (Nat.le_of_ble_eq_true rfl) dX7_leastTurn_23 ?_
      show Go V Γ M_X7_leastTurn (Zm V Γ 3 fin) 26 [(0, .ref (V.2.2.1 + 31)), (1, .int x1)] [.int r5] σ
      refine g_if_eq (pc := 26) (tgt := 31) X dX7_leastTurn_26 rfl (fun c7 => ?_) (fun c7 => ?_)
      · replace h := if_t c7 h
        obtain ⟨v6, e_v6, h⟩ := bnd_e h
        refine g_iinc (pc := 31) (v := v6) X [(1, .int v6), (0, .ref (V.2.2.1 + 31))] 1 rfl (by rw [e_v6]; rfl) (Nat.le_of_ble_eq_true rfl) rfl dX7_leastTurn_31 ?_
        refine g_goto (pc := 34) (tgt := 2) X dX7_leastTurn_34 rfl ?_
        refine g_sub [1, 0] rfl ?_
        cases h
        exact hb2 _ hA
      · replace h := if_f c7 h
        refine g_iload_n (pc := 29) X 1 rfl dX7_leastTurn_29 ?_
        cases h
        exact g_iret (pc := 30) X rfl rfl (hr _ hA) dX7_leastTurn_30
set_option maxRecDepth 100000 in
theorem tl_Si_leastTurn_L2 {V : Ev} {Γ : Cn} {fin : Option Value × St} {σ : St} {x1 : Int32} (X : Cx V Γ M_X7_leastTurn)  {e : Int32} {A : Int32 → Prop} (hr : ∀ (r : Int32), A r → (some (.int r), σ) = fin) {n : Nat} (h : iter (fun s : Int32 => Si_leastTurn_L2 σ s) n x1 = some e) (hA : A e) : Go V Γ M_X7_leastTurn (Zm V Γ 3 fin) 2 [(0, .ref (V.2.2.1 + 31)), (1, .int x1)] [] σ := by
  refine iter_go (G := (fun s : Int32 => Go V Γ M_X7_leastTurn (Zm V Γ 3 fin) 2 [(0, .ref (V.2.2.1 + 31)), (1, .int s)] [] σ)) (fun s o ho hS => ?_) n x1 h
  exact tb_Si_leastTurn_L2 X  (fun z0 he => hr z0 (by rw [he]; exact hA)) (fun _ h9 => h9) ho hS
noncomputable def Si_leastTurn (σ : St) : Option Int32 :=
  iter (fun s : Int32 => Si_leastTurn_L2 σ s) FUEL 1
set_option maxRecDepth 100000 in
set_option maxHeartbeats 4000000 in
theorem tm_Si_leastTurn {V : Ev} {Γ : Cn} {fin : Option Value × St} {σ : St} {o : Int32} (X : Cx V Γ M_X7_leastTurn) {A : Int32 → Prop}  (hr : ∀ (r : Int32), A r → (some (.int r), σ) = fin) (h : Si_leastTurn σ = some o) (hA : A o) : Go V Γ M_X7_leastTurn (Zm V Γ 3 fin) 0 [(0, .ref (V.2.2.1 + 31))] [] σ := by
  unfold Si_leastTurn at h
  refine g_iconst (v := 1) (pc := 0) X rfl dX7_leastTurn_0 ?_
  refine g_istore_n (pc := 1) X [(1, .int 1), (0, .ref (V.2.2.1 + 31))] rfl (Nat.le_of_ble_eq_true rfl) rfl dX7_leastTurn_1 ?_
  refine g_sub [1, 0] rfl ?_
  exact tl_Si_leastTurn_L2 X  hr h hA
set_option maxRecDepth 100000 in
theorem run_Si_leastTurn {V : Ev} {σ : St} {o : Int32}   (h : Si_leastTurn σ = some o) : Rs V 3 M_X7_leastTurn [.ref (V.2.2.1 + 31)] σ (some (.int o), σ) := by
  refine Rs.of (by decide +kernel) (Nat.le_of_ble_eq_true rfl) (fun Γ X => ?_)
  exact tm_Si_leastTurn X (A := fun o1 => o1 = o)  (fun _ e => by rw [e]) h rfl
theorem dX8_takeOdds_0 : decode cX8_takeOdds 0 = .ok (.aload_n 0, 1) := by decide +kernel
theorem dX8_takeOdds_1 : decode cX8_takeOdds 1 = .ok (.invokevirtual 37, 3) := by decide +kernel
theorem dX8_takeOdds_4 : decode cX8_takeOdds 4 = .ok (.aload_n 0, 1) := by decide +kernel
theorem dX8_takeOdds_5 : decode cX8_takeOdds 5 = .ok (.iconst 0, 1) := by decide +kernel
theorem dX8_takeOdds_6 : decode cX8_takeOdds 6 = .ok (.bipush 16, 2) := by decide +kernel
theorem dX8_takeOdds_8 : decode cX8_takeOdds 8 = .ok (.invokevirtual 40, 3) := by decide +kernel
theorem dX8_takeOdds_11 : decode cX8_takeOdds 11 = .ok (.ifCond .ne 5, 3) := by decide +kernel
theorem dX8_takeOdds_14 : decode cX8_takeOdds 14 = .ok (.iconst 0, 1) := by decide +kernel
theorem dX8_takeOdds_15 : decode cX8_takeOdds 15 = .ok (.ireturn, 1) := by decide +kernel
theorem dX8_takeOdds_16 : decode cX8_takeOdds 16 = .ok (.aload_n 1, 1) := by decide +kernel
theorem dX8_takeOdds_17 : decode cX8_takeOdds 17 = .ok (.aload_n 0, 1) := by decide +kernel
theorem dX8_takeOdds_18 : decode cX8_takeOdds 18 = .ok (.invokevirtual 44, 3) := by decide +kernel
theorem dX8_takeOdds_21 : decode cX8_takeOdds 21 = .ok (.putfield 47, 3) := by decide +kernel
theorem dX8_takeOdds_24 : decode cX8_takeOdds 24 = .ok (.aload_n 0, 1) := by decide +kernel
theorem dX8_takeOdds_25 : decode cX8_takeOdds 25 = .ok (.iconst 5, 1) := by decide +kernel
theorem dX8_takeOdds_26 : decode cX8_takeOdds 26 = .ok (.invokevirtual 50, 3) := by decide +kernel
theorem dX8_takeOdds_29 : decode cX8_takeOdds 29 = .ok (.ireturn, 1) := by decide +kernel
noncomputable def ST_takeOdds (σ : St) (a1 : Nat) : Option (Int32 × St) :=
  bd (Re_step σ) (fun σ2 => bd2 (Re_takeNumber σ2 0 16) (fun r4 σ5 => if r4 = 0 then (some (0, σ5)) else (bd (Re_takenNumber σ5) (fun r7 => bnd (wI σ5 a1 5 r7) (fun σ8 => bd2 (Re_take σ8 5) (fun r10 σ11 => chk (ckz r10) (some (r10, σ11))))))))
set_option maxRecDepth 100000 in
set_option maxHeartbeats 4000000 in
theorem tm_ST_takeOdds {V : Ev} {Γ : Cn} {fin : Option Value × St} {σ : St} {a1 : Nat} {o : (Int32 × St)} (X : Cx V Γ M_X8_takeOdds) {A : (Int32 × St) → Prop} (k1 : okCl a1) (hr : ∀ (r : Int32) (σ9 : St), A (r, σ9) → (some (.int r), σ9) = fin) (h : ST_takeOdds σ a1 = some o) (hA : A o) : Go V Γ M_X8_takeOdds (Zm V Γ 2 fin) 0 [(0, .ref (V.2.2.1 + 2)), (1, .ref (V.2.2.1 + a1))] [] σ := by
  unfold ST_takeOdds at h
  refine g_aload_n (pc := 0) X 0 rfl dX8_takeOdds_0 ?_
  obtain ⟨σ2, hc1, h⟩ := bd_e h
  refine g_callV (pc := 1) X k_ml_X8_37 (run_Re_step  hc1) s_2 rfl (room_ok (Nat.le_of_ble_eq_true rfl) (Nat.le_of_ble_eq_true rfl)) ⟨Nat.le_refl _, Nat.le_refl _⟩ _ rfl (Nat.le_of_ble_eq_true rfl) dX8_takeOdds_1 ?_
  show Go V Γ M_X8_takeOdds (Zm V Γ 2 fin) 4 [(0, .ref (V.2.2.1 + 2)), (1, .ref (V.2.2.1 + a1))] [] σ2
  refine g_aload_n (pc := 4) X 0 rfl dX8_takeOdds_4 ?_
  refine g_iconst (v := 0) (pc := 5) X rfl dX8_takeOdds_5 ?_
  refine g_bipush (v := 16) (pc := 6) X (by decide) dX8_takeOdds_6 ?_
  obtain ⟨r4, σ5, hc3, h⟩ := bd2_e h
  refine g_callV (pc := 8) X k_ml_X8_40 (run_Re_takeNumber  hc3) s_2 rfl (room_ok (Nat.le_of_ble_eq_true rfl) (Nat.le_of_ble_eq_true rfl)) ⟨Nat.le_refl _, Nat.le_refl _⟩ _ rfl (Nat.le_of_ble_eq_true rfl) dX8_takeOdds_8 ?_
  show Go V Γ M_X8_takeOdds (Zm V Γ 2 fin) 11 [(0, .ref (V.2.2.1 + 2)), (1, .ref (V.2.2.1 + a1))] [.int r4] σ5
  refine g_if_ne (pc := 11) (tgt := 16) X dX8_takeOdds_11 rfl (fun c13 => ?_) (fun c13 => ?_)
  · replace h := if_f c13 h
    refine g_aload_n (pc := 16) X 1 rfl dX8_takeOdds_16 ?_
    refine g_aload_n (pc := 17) X 0 rfl dX8_takeOdds_17 ?_
    obtain ⟨r7, hc6, h⟩ := bd_e h
    refine g_callV (pc := 18) X k_ml_X8_44 (run_Re_takenNumber  hc6) s_2 rfl (room_ok (Nat.le_of_ble_eq_true rfl) (Nat.le_of_ble_eq_true rfl)) ⟨Nat.le_refl _, Nat.le_refl _⟩ _ rfl (Nat.le_of_ble_eq_true rfl) dX8_takeOdds_18 ?_
    show Go V Γ M_X8_takeOdds (Zm V Γ 2 fin) 21 [(0, .ref (V.2.2.1 + 2)), (1, .ref (V.2.2.1 + a1))] [.int r7, .ref (V.2.2.1 + a1)] σ5
    refine g_putI (pc := 21) X k_fl_X8_47 (sCl_0 k1) rfl rfl rfl dX8_takeOdds_21 ?_
    obtain ⟨σ8, e_σ8, h⟩ := bnd_e h
    refine g_nmS e_σ8 ?_
    refine g_aload_n (pc := 24) X 0 rfl dX8_takeOdds_24 ?_
    refine g_iconst (v := 5) (pc := 25) X rfl dX8_takeOdds_25 ?_
    obtain ⟨r10, σ11, hc9, h⟩ := bd2_e h
    refine g_callV (pc := 26) X k_ml_X8_50 (run_Re_take  hc9) s_2 rfl (room_ok (Nat.le_of_ble_eq_true rfl) (Nat.le_of_ble_eq_true rfl)) ⟨Nat.le_refl _, Nat.le_refl _⟩ _ rfl (Nat.le_of_ble_eq_true rfl) dX8_takeOdds_26 ?_
    show Go V Γ M_X8_takeOdds (Zm V Γ 2 fin) 29 [(0, .ref (V.2.2.1 + 2)), (1, .ref (V.2.2.1 + a1))] [.int r10] σ11
    obtain ⟨c12, h⟩ := chk_e h
    cases h
    exact g_iret (pc := 29) X rfl (ckz_e c12).1 (hr _ _ hA) dX8_takeOdds_29
  · replace h := if_t c13 h
    refine g_iconst (v := 0) (pc := 14) X rfl dX8_takeOdds_14 ?_
    cases h
    exact g_iret (pc := 15) X rfl nz0.1 (hr _ _ hA) dX8_takeOdds_15
set_option maxRecDepth 100000 in
theorem run_ST_takeOdds {V : Ev} {σ : St} {a1 : Nat} {o : (Int32 × St)} (k1 : okCl a1)  (h : ST_takeOdds σ a1 = some o) : Rs V 2 M_X8_takeOdds [.ref (V.2.2.1 + 2), .ref (V.2.2.1 + a1)] σ (some (.int o.1), o.2) := by
  refine Rs.of (by decide +kernel) (Nat.le_of_ble_eq_true rfl) (fun Γ X => ?_)
  exact tm_ST_takeOdds X (A := fun o1 => o1 = o) k1 (fun _ _ e => by rw [← e]) h rfl
theorem dX8_takeClass_0 : decode cX8_takeClass 0 = .ok (.aload_n 0, 1) := by decide +kernel
theorem dX8_takeClass_1 : decode cX8_takeClass 1 = .ok (.invokevirtual 37, 3) := by decide +kernel
theorem dX8_takeClass_4 : decode cX8_takeClass 4 = .ok (.aload_n 0, 1) := by decide +kernel
theorem dX8_takeClass_5 : decode cX8_takeClass 5 = .ok (.invokevirtual 14, 3) := by decide +kernel
theorem dX8_takeClass_8 : decode cX8_takeClass 8 = .ok (.iconst 3, 1) := by decide +kernel
theorem dX8_takeClass_9 : decode cX8_takeClass 9 = .ok (.if_icmp .eq 9, 3) := by decide +kernel
theorem dX8_takeClass_12 : decode cX8_takeClass 12 = .ok (.aload_n 0, 1) := by decide +kernel
theorem dX8_takeClass_13 : decode cX8_takeClass 13 = .ok (.iconst 2, 1) := by decide +kernel
theorem dX8_takeClass_14 : decode cX8_takeClass 14 = .ok (.invokevirtual 20, 3) := by decide +kernel
theorem dX8_takeClass_17 : decode cX8_takeClass 17 = .ok (.ireturn, 1) := by decide +kernel
theorem dX8_takeClass_18 : decode cX8_takeClass 18 = .ok (.aload_n 0, 1) := by decide +kernel
theorem dX8_takeClass_19 : decode cX8_takeClass 19 = .ok (.invokevirtual 53, 3) := by decide +kernel
theorem dX8_takeClass_22 : decode cX8_takeClass 22 = .ok (.lstore_n 2, 1) := by decide +kernel
theorem dX8_takeClass_23 : decode cX8_takeClass 23 = .ok (.aload_n 1, 1) := by decide +kernel
theorem dX8_takeClass_24 : decode cX8_takeClass 24 = .ok (.lload_n 2, 1) := by decide +kernel
theorem dX8_takeClass_25 : decode cX8_takeClass 25 = .ok (.invokevirtual 57, 3) := by decide +kernel
theorem dX8_takeClass_28 : decode cX8_takeClass 28 = .ok (.iconst (-1), 1) := by decide +kernel
theorem dX8_takeClass_29 : decode cX8_takeClass 29 = .ok (.if_icmp .eq 9, 3) := by decide +kernel
theorem dX8_takeClass_32 : decode cX8_takeClass 32 = .ok (.aload_n 0, 1) := by decide +kernel
theorem dX8_takeClass_33 : decode cX8_takeClass 33 = .ok (.iconst 3, 1) := by decide +kernel
theorem dX8_takeClass_34 : decode cX8_takeClass 34 = .ok (.invokevirtual 20, 3) := by decide +kernel
theorem dX8_takeClass_37 : decode cX8_takeClass 37 = .ok (.ireturn, 1) := by decide +kernel
theorem dX8_takeClass_38 : decode cX8_takeClass 38 = .ok (.aload_n 0, 1) := by decide +kernel
theorem dX8_takeClass_39 : decode cX8_takeClass 39 = .ok (.invokevirtual 37, 3) := by decide +kernel
theorem dX8_takeClass_42 : decode cX8_takeClass 42 = .ok (.aload_n 0, 1) := by decide +kernel
theorem dX8_takeClass_43 : decode cX8_takeClass 43 = .ok (.bipush 12, 2) := by decide +kernel
theorem dX8_takeClass_45 : decode cX8_takeClass 45 = .ok (.invokevirtual 50, 3) := by decide +kernel
theorem dX8_takeClass_48 : decode cX8_takeClass 48 = .ok (.ifCond .eq 13, 3) := by decide +kernel
theorem dX8_takeClass_51 : decode cX8_takeClass 51 = .ok (.aload_n 0, 1) := by decide +kernel
theorem dX8_takeClass_52 : decode cX8_takeClass 52 = .ok (.iconst 0, 1) := by decide +kernel
theorem dX8_takeClass_53 : decode cX8_takeClass 53 = .ok (.bipush 59, 2) := by decide +kernel
theorem dX8_takeClass_55 : decode cX8_takeClass 55 = .ok (.invokevirtual 40, 3) := by decide +kernel
theorem dX8_takeClass_58 : decode cX8_takeClass 58 = .ok (.ifCond .ne 5, 3) := by decide +kernel
theorem dX8_takeClass_61 : decode cX8_takeClass 61 = .ok (.iconst 0, 1) := by decide +kernel
theorem dX8_takeClass_62 : decode cX8_takeClass 62 = .ok (.ireturn, 1) := by decide +kernel
theorem dX8_takeClass_63 : decode cX8_takeClass 63 = .ok (.aload_n 0, 1) := by decide +kernel
theorem dX8_takeClass_64 : decode cX8_takeClass 64 = .ok (.invokevirtual 44, 3) := by decide +kernel
theorem dX8_takeClass_67 : decode cX8_takeClass 67 = .ok (.istore 4, 2) := by decide +kernel
theorem dX8_takeClass_69 : decode cX8_takeClass 69 = .ok (.aload_n 0, 1) := by decide +kernel
theorem dX8_takeClass_70 : decode cX8_takeClass 70 = .ok (.bipush 13, 2) := by decide +kernel
theorem dX8_takeClass_72 : decode cX8_takeClass 72 = .ok (.invokevirtual 50, 3) := by decide +kernel
theorem dX8_takeClass_75 : decode cX8_takeClass 75 = .ok (.ifCond .eq 13, 3) := by decide +kernel
theorem dX8_takeClass_78 : decode cX8_takeClass 78 = .ok (.aload_n 0, 1) := by decide +kernel
theorem dX8_takeClass_79 : decode cX8_takeClass 79 = .ok (.iconst 1, 1) := by decide +kernel
theorem dX8_takeClass_80 : decode cX8_takeClass 80 = .ok (.bipush 60, 2) := by decide +kernel
theorem dX8_takeClass_82 : decode cX8_takeClass 82 = .ok (.invokevirtual 40, 3) := by decide +kernel
theorem dX8_takeClass_85 : decode cX8_takeClass 85 = .ok (.ifCond .ne 5, 3) := by decide +kernel
theorem dX8_takeClass_88 : decode cX8_takeClass 88 = .ok (.iconst 0, 1) := by decide +kernel
theorem dX8_takeClass_89 : decode cX8_takeClass 89 = .ok (.ireturn, 1) := by decide +kernel
theorem dX8_takeClass_90 : decode cX8_takeClass 90 = .ok (.aload_n 0, 1) := by decide +kernel
theorem dX8_takeClass_91 : decode cX8_takeClass 91 = .ok (.invokevirtual 44, 3) := by decide +kernel
theorem dX8_takeClass_94 : decode cX8_takeClass 94 = .ok (.istore 5, 2) := by decide +kernel
theorem dX8_takeClass_96 : decode cX8_takeClass 96 = .ok (.aload_n 0, 1) := by decide +kernel
theorem dX8_takeClass_97 : decode cX8_takeClass 97 = .ok (.invokevirtual 14, 3) := by decide +kernel
theorem dX8_takeClass_100 : decode cX8_takeClass 100 = .ok (.bipush 14, 2) := by decide +kernel
theorem dX8_takeClass_102 : decode cX8_takeClass 102 = .ok (.if_icmp .ne 7, 3) := by decide +kernel
theorem dX8_takeClass_105 : decode cX8_takeClass 105 = .ok (.iconst 1, 1) := by decide +kernel
theorem dX8_takeClass_106 : decode cX8_takeClass 106 = .ok (.goto 4, 3) := by decide +kernel
theorem dX8_takeClass_109 : decode cX8_takeClass 109 = .ok (.iconst 0, 1) := by decide +kernel
theorem dX8_takeClass_110 : decode cX8_takeClass 110 = .ok (.istore 6, 2) := by decide +kernel
theorem dX8_takeClass_112 : decode cX8_takeClass 112 = .ok (.iload 6, 2) := by decide +kernel
theorem dX8_takeClass_114 : decode cX8_takeClass 114 = .ok (.ifCond .eq 7, 3) := by decide +kernel
theorem dX8_takeClass_117 : decode cX8_takeClass 117 = .ok (.aload_n 0, 1) := by decide +kernel
theorem dX8_takeClass_118 : decode cX8_takeClass 118 = .ok (.invokevirtual 37, 3) := by decide +kernel
theorem dX8_takeClass_121 : decode cX8_takeClass 121 = .ok (.aload_n 1, 1) := by decide +kernel
theorem dX8_takeClass_122 : decode cX8_takeClass 122 = .ok (.iload 4, 2) := by decide +kernel
theorem dX8_takeClass_124 : decode cX8_takeClass 124 = .ok (.iload 5, 2) := by decide +kernel
theorem dX8_takeClass_126 : decode cX8_takeClass 126 = .ok (.iload 6, 2) := by decide +kernel
theorem dX8_takeClass_128 : decode cX8_takeClass 128 = .ok (.ifCond .ne 7, 3) := by decide +kernel
theorem dX8_takeClass_131 : decode cX8_takeClass 131 = .ok (.iconst 1, 1) := by decide +kernel
theorem dX8_takeClass_132 : decode cX8_takeClass 132 = .ok (.goto 4, 3) := by decide +kernel
theorem dX8_takeClass_135 : decode cX8_takeClass 135 = .ok (.iconst 0, 1) := by decide +kernel
theorem dX8_takeClass_136 : decode cX8_takeClass 136 = .ok (.lload_n 2, 1) := by decide +kernel
theorem dX8_takeClass_137 : decode cX8_takeClass 137 = .ok (.invokevirtual 61, 3) := by decide +kernel
theorem dX8_takeClass_140 : decode cX8_takeClass 140 = .ok (.aload_n 0, 1) := by decide +kernel
theorem dX8_takeClass_141 : decode cX8_takeClass 141 = .ok (.iconst 5, 1) := by decide +kernel
theorem dX8_takeClass_142 : decode cX8_takeClass 142 = .ok (.invokevirtual 50, 3) := by decide +kernel
theorem dX8_takeClass_145 : decode cX8_takeClass 145 = .ok (.ireturn, 1) := by decide +kernel
noncomputable def ST_takeClass_J121 (σ : St) (l1 : Nat) (l2 : Int64) (l4 : Int32) (l5 : Int32) (l6 : Int32) : Option ((Int32 × St)) :=
  if l6 = 0 then (bd (Cl_append σ l1 l4 l5 1 l2) (fun σ36 => bd2 (Re_take σ36 5) (fun r38 σ39 => chk (ckz r38) (some (r38, σ39))))) else (bd (Cl_append σ l1 l4 l5 0 l2) (fun σ30 => bd2 (Re_take σ30 5) (fun r32 σ33 => chk (ckz r32) (some (r32, σ33)))))
set_option maxRecDepth 100000 in
set_option maxHeartbeats 4000000 in
theorem tj_ST_takeClass_J121 {V : Ev} {Γ : Cn} {fin : Option Value × St} {σ : St} {l1 : Nat} {l2 : Int64} {l4 : Int32} {l5 : Int32} {l6 : Int32} {o : (Int32 × St)} (X : Cx V Γ M_X8_takeClass) {A : (Int32 × St) → Prop} (k_l1 : okCl l1) (hr : ∀ (r : Int32) (σ9 : St), A (r, σ9) → (some (.int r), σ9) = fin) (h : ST_takeClass_J121 σ l1 l2 l4 l5 l6 = some o) (hA : A o) : Go V Γ M_X8_takeClass (Zm V Γ 2 fin) 121 [(0, .ref (V.2.2.1 + 2)), (1, .ref (V.2.2.1 + l1)), (2, .long l2), (4, .int l4), (5, .int l5), (6, .int l6)] [] σ := by
  unfold ST_takeClass_J121 at h
  refine g_aload_n (pc := 121) X 1 rfl dX8_takeClass_121 ?_
  refine g_iload (pc := 122) X 3 rfl dX8_takeClass_122 ?_
  refine g_iload (pc := 124) X 4 rfl dX8_takeClass_124 ?_
  refine g_iload (pc := 126) X 5 rfl dX8_takeClass_126 ?_
  refine g_if_ne (pc := 128) (tgt := 135) X dX8_takeClass_128 rfl (fun c41 => ?_) (fun c41 => ?_)
  · replace h := if_f c41 h
    refine g_iconst (v := 0) (pc := 135) X rfl dX8_takeClass_135 ?_
    refine g_lload_n (pc := 136) X 2 rfl dX8_takeClass_136 ?_
    obtain ⟨σ30, hc29, h⟩ := bd_e h
    refine g_callV (pc := 137) X k_ml_X8_61 (run_Cl_append k_l1 hc29) (sCl_0 k_l1) rfl (room_ok (Nat.le_of_ble_eq_true rfl) (Nat.le_of_ble_eq_true rfl)) ⟨Nat.le_refl _, Nat.le_refl _⟩ _ rfl (Nat.le_of_ble_eq_true rfl) dX8_takeClass_137 ?_
    show Go V Γ M_X8_takeClass (Zm V Γ 2 fin) 140 [(0, .ref (V.2.2.1 + 2)), (1, .ref (V.2.2.1 + l1)), (2, .long l2), (4, .int l4), (5, .int l5), (6, .int l6)] [] σ30
    refine g_aload_n (pc := 140) X 0 rfl dX8_takeClass_140 ?_
    refine g_iconst (v := 5) (pc := 141) X rfl dX8_takeClass_141 ?_
    obtain ⟨r32, σ33, hc31, h⟩ := bd2_e h
    refine g_callV (pc := 142) X k_ml_X8_50 (run_Re_take  hc31) s_2 rfl (room_ok (Nat.le_of_ble_eq_true rfl) (Nat.le_of_ble_eq_true rfl)) ⟨Nat.le_refl _, Nat.le_refl _⟩ _ rfl (Nat.le_of_ble_eq_true rfl) dX8_takeClass_142 ?_
    show Go V Γ M_X8_takeClass (Zm V Γ 2 fin) 145 [(0, .ref (V.2.2.1 + 2)), (1, .ref (V.2.2.1 + l1)), (2, .long l2), (4, .int l4), (5, .int l5), (6, .int l6)] [.int r32] σ33
    obtain ⟨c34, h⟩ := chk_e h
    cases h
    exact g_iret (pc := 145) X rfl (ckz_e c34).1 (hr _ _ hA) dX8_takeClass_145
  · replace h := if_t c41 h
    refine g_iconst (v := 1) (pc := 131) X rfl dX8_takeClass_131 ?_
    refine g_goto (pc := 132) (tgt := 136) X dX8_takeClass_132 rfl ?_
    refine g_lload_n (pc := 136) X 2 rfl dX8_takeClass_136 ?_
    obtain ⟨σ36, hc35, h⟩ := bd_e h
    refine g_callV (pc := 137) X k_ml_X8_61 (run_Cl_append k_l1 hc35) (sCl_0 k_l1) rfl (room_ok (Nat.le_of_ble_eq_true rfl) (Nat.le_of_ble_eq_true rfl)) ⟨Nat.le_refl _, Nat.le_refl _⟩ _ rfl (Nat.le_of_ble_eq_true rfl) dX8_takeClass_137 ?_
    show Go V Γ M_X8_takeClass (Zm V Γ 2 fin) 140 [(0, .ref (V.2.2.1 + 2)), (1, .ref (V.2.2.1 + l1)), (2, .long l2), (4, .int l4), (5, .int l5), (6, .int l6)] [] σ36
    refine g_aload_n (pc := 140) X 0 rfl dX8_takeClass_140 ?_
    refine g_iconst (v := 5) (pc := 141) X rfl dX8_takeClass_141 ?_
    obtain ⟨r38, σ39, hc37, h⟩ := bd2_e h
    refine g_callV (pc := 142) X k_ml_X8_50 (run_Re_take  hc37) s_2 rfl (room_ok (Nat.le_of_ble_eq_true rfl) (Nat.le_of_ble_eq_true rfl)) ⟨Nat.le_refl _, Nat.le_refl _⟩ _ rfl (Nat.le_of_ble_eq_true rfl) dX8_takeClass_142 ?_
    show Go V Γ M_X8_takeClass (Zm V Γ 2 fin) 145 [(0, .ref (V.2.2.1 + 2)), (1, .ref (V.2.2.1 + l1)), (2, .long l2), (4, .int l4), (5, .int l5), (6, .int l6)] [.int r38] σ39
    obtain ⟨c40, h⟩ := chk_e h
    cases h
    exact g_iret (pc := 145) X rfl (ckz_e c40).1 (hr _ _ hA) dX8_takeClass_145
noncomputable def ST_takeClass (σ : St) (a1 : Nat) : Option (Int32 × St) :=
  bd (Re_step σ) (fun σ2 => bd (Re_token σ2) (fun r4 => if r4 = 3 then (bd (Re_value σ2) (fun r6 => bd (Cl_find σ2 a1 r6) (fun r8 => if r8 = (-1) then (bd (Re_step σ2) (fun σ10 => bd2 (Re_take σ10 12) (fun r12 σ13 => if r12 = 0 then (some (0, σ13)) else (bd2 (Re_takeNumber σ13 0 59) (fun r15 σ16 => if r15 = 0 then (some (0, σ16)) else (bd (Re_takenNumber σ16) (fun r18 => bd2 (Re_take σ16 13) (fun r20 σ21 => if r20 = 0 then (some (0, σ21)) else (bd2 (Re_takeNumber σ21 1 60) (fun r23 σ24 => if r23 = 0 then (some (0, σ24)) else (bd (Re_takenNumber σ24) (fun r26 => bd (Re_token σ24) (fun r28 => if r28 = 14 then (bd (Re_step σ24) (fun σ43 => ST_takeClass_J121 σ43 a1 r6 r18 r26 1)) else (ST_takeClass_J121 σ24 a1 r6 r18 r26 0)))))))))))))) else (bd2 (Re_blame σ2 3) (fun r50 σ51 => chk (ckz r50) (some (r50, σ51))))))) else (bd2 (Re_blame σ2 2) (fun r55 σ56 => chk (ckz r55) (some (r55, σ56))))))
set_option maxRecDepth 100000 in
set_option maxHeartbeats 4000000 in
theorem tm_ST_takeClass {V : Ev} {Γ : Cn} {fin : Option Value × St} {σ : St} {a1 : Nat} {o : (Int32 × St)} (X : Cx V Γ M_X8_takeClass) {A : (Int32 × St) → Prop} (k1 : okCl a1) (hr : ∀ (r : Int32) (σ9 : St), A (r, σ9) → (some (.int r), σ9) = fin) (h : ST_takeClass σ a1 = some o) (hA : A o) : Go V Γ M_X8_takeClass (Zm V Γ 2 fin) 0 [(0, .ref (V.2.2.1 + 2)), (1, .ref (V.2.2.1 + a1))] [] σ := by
  unfold ST_takeClass at h
  refine g_aload_n (pc := 0) X 0 rfl dX8_takeClass_0 ?_
  obtain ⟨σ2, hc1, h⟩ := bd_e h
  refine g_callV (pc := 1) X k_ml_X8_37 (run_Re_step  hc1) s_2 rfl (room_ok (Nat.le_of_ble_eq_true rfl) (Nat.le_of_ble_eq_true rfl)) ⟨Nat.le_refl _, Nat.le_refl _⟩ _ rfl (Nat.le_of_ble_eq_true rfl) dX8_takeClass_1 ?_
  show Go V Γ M_X8_takeClass (Zm V Γ 2 fin) 4 [(0, .ref (V.2.2.1 + 2)), (1, .ref (V.2.2.1 + a1))] [] σ2
  refine g_aload_n (pc := 4) X 0 rfl dX8_takeClass_4 ?_
  obtain ⟨r4, hc3, h⟩ := bd_e h
  refine g_callV (pc := 5) X k_ml_X8_14 (run_Re_token  hc3) s_2 rfl (room_ok (Nat.le_of_ble_eq_true rfl) (Nat.le_of_ble_eq_true rfl)) ⟨Nat.le_refl _, Nat.le_refl _⟩ _ rfl (Nat.le_of_ble_eq_true rfl) dX8_takeClass_5 ?_
  show Go V Γ M_X8_takeClass (Zm V Γ 2 fin) 8 [(0, .ref (V.2.2.1 + 2)), (1, .ref (V.2.2.1 + a1))] [.int r4] σ2
  refine g_iconst (v := 3) (pc := 8) X rfl dX8_takeClass_8 ?_
  refine g_icmp_eq (pc := 9) (tgt := 18) X dX8_takeClass_9 rfl (fun c58 => ?_) (fun c58 => ?_)
  · replace h := if_t c58 h
    refine g_aload_n (pc := 18) X 0 rfl dX8_takeClass_18 ?_
    obtain ⟨r6, hc5, h⟩ := bd_e h
    refine g_callV (pc := 19) X k_ml_X8_53 (run_Re_value  hc5) s_2 rfl (room_ok (Nat.le_of_ble_eq_true rfl) (Nat.le_of_ble_eq_true rfl)) ⟨Nat.le_refl _, Nat.le_refl _⟩ _ rfl (Nat.le_of_ble_eq_true rfl) dX8_takeClass_19 ?_
    show Go V Γ M_X8_takeClass (Zm V Γ 2 fin) 22 [(0, .ref (V.2.2.1 + 2)), (1, .ref (V.2.2.1 + a1))] [.long r6] σ2
    refine g_lstore_n (pc := 22) X [(2, .long r6), (0, .ref (V.2.2.1 + 2)), (1, .ref (V.2.2.1 + a1))] rfl (Nat.le_of_ble_eq_true rfl) rfl dX8_takeClass_22 ?_
    refine g_aload_n (pc := 23) X 2 rfl dX8_takeClass_23 ?_
    refine g_lload_n (pc := 24) X 0 rfl dX8_takeClass_24 ?_
    obtain ⟨r8, hc7, h⟩ := bd_e h
    refine g_callV (pc := 25) X k_ml_X8_57 (run_Cl_find k1 hc7) (sCl_0 k1) rfl (room_ok (Nat.le_of_ble_eq_true rfl) (Nat.le_of_ble_eq_true rfl)) ⟨Nat.le_refl _, Nat.le_refl _⟩ _ rfl (Nat.le_of_ble_eq_true rfl) dX8_takeClass_25 ?_
    show Go V Γ M_X8_takeClass (Zm V Γ 2 fin) 28 [(2, .long r6), (0, .ref (V.2.2.1 + 2)), (1, .ref (V.2.2.1 + a1))] [.int r8] σ2
    refine g_iconst (v := (-1)) (pc := 28) X rfl dX8_takeClass_28 ?_
    refine g_icmp_eq (pc := 29) (tgt := 38) X dX8_takeClass_29 rfl (fun c53 => ?_) (fun c53 => ?_)
    · replace h := if_t c53 h
      refine g_aload_n (pc := 38) X 1 rfl dX8_takeClass_38 ?_
      obtain ⟨σ10, hc9, h⟩ := bd_e h
      refine g_callV (pc := 39) X k_ml_X8_37 (run_Re_step  hc9) s_2 rfl (room_ok (Nat.le_of_ble_eq_true rfl) (Nat.le_of_ble_eq_true rfl)) ⟨Nat.le_refl _, Nat.le_refl _⟩ _ rfl (Nat.le_of_ble_eq_true rfl) dX8_takeClass_39 ?_
      show Go V Γ M_X8_takeClass (Zm V Γ 2 fin) 42 [(2, .long r6), (0, .ref (V.2.2.1 + 2)), (1, .ref (V.2.2.1 + a1))] [] σ10
      refine g_aload_n (pc := 42) X 1 rfl dX8_takeClass_42 ?_
      refine g_bipush (v := 12) (pc := 43) X (by decide) dX8_takeClass_43 ?_
      obtain ⟨r12, σ13, hc11, h⟩ := bd2_e h
      refine g_callV (pc := 45) X k_ml_X8_50 (run_Re_take  hc11) s_2 rfl (room_ok (Nat.le_of_ble_eq_true rfl) (Nat.le_of_ble_eq_true rfl)) ⟨Nat.le_refl _, Nat.le_refl _⟩ _ rfl (Nat.le_of_ble_eq_true rfl) dX8_takeClass_45 ?_
      show Go V Γ M_X8_takeClass (Zm V Γ 2 fin) 48 [(2, .long r6), (0, .ref (V.2.2.1 + 2)), (1, .ref (V.2.2.1 + a1))] [.int r12] σ13
      refine g_if_eq (pc := 48) (tgt := 61) X dX8_takeClass_48 rfl (fun c48 => ?_) (fun c48 => ?_)
      · replace h := if_t c48 h
        refine g_iconst (v := 0) (pc := 61) X rfl dX8_takeClass_61 ?_
        cases h
        exact g_iret (pc := 62) X rfl nz0.1 (hr _ _ hA) dX8_takeClass_62
      · replace h := if_f c48 h
        refine g_aload_n (pc := 51) X 1 rfl dX8_takeClass_51 ?_
        refine g_iconst (v := 0) (pc := 52) X rfl dX8_takeClass_52 ?_
        refine g_bipush (v := 59) (pc := 53) X (by decide) dX8_takeClass_53 ?_
        obtain ⟨r15, σ16, hc14, h⟩ := bd2_e h
        refine g_callV (pc := 55) X k_ml_X8_40 (run_Re_takeNumber  hc14) s_2 rfl (room_ok (Nat.le_of_ble_eq_true rfl) (Nat.le_of_ble_eq_true rfl)) ⟨Nat.le_refl _, Nat.le_refl _⟩ _ rfl (Nat.le_of_ble_eq_true rfl) dX8_takeClass_55 ?_
        show Go V Γ M_X8_takeClass (Zm V Γ 2 fin) 58 [(2, .long r6), (0, .ref (V.2.2.1 + 2)), (1, .ref (V.2.2.1 + a1))] [.int r15] σ16
        refine g_if_ne (pc := 58) (tgt := 63) X dX8_takeClass_58 rfl (fun c47 => ?_) (fun c47 => ?_)
        · replace h := if_f c47 h
          refine g_aload_n (pc := 63) X 1 rfl dX8_takeClass_63 ?_
          obtain ⟨r18, hc17, h⟩ := bd_e h
          refine g_callV (pc := 64) X k_ml_X8_44 (run_Re_takenNumber  hc17) s_2 rfl (room_ok (Nat.le_of_ble_eq_true rfl) (Nat.le_of_ble_eq_true rfl)) ⟨Nat.le_refl _, Nat.le_refl _⟩ _ rfl (Nat.le_of_ble_eq_true rfl) dX8_takeClass_64 ?_
          show Go V Γ M_X8_takeClass (Zm V Γ 2 fin) 67 [(2, .long r6), (0, .ref (V.2.2.1 + 2)), (1, .ref (V.2.2.1 + a1))] [.int r18] σ16
          refine g_istore (pc := 67) X [(4, .int r18), (2, .long r6), (0, .ref (V.2.2.1 + 2)), (1, .ref (V.2.2.1 + a1))] (Nat.le_of_ble_eq_true rfl) rfl dX8_takeClass_67 ?_
          refine g_aload_n (pc := 69) X 2 rfl dX8_takeClass_69 ?_
          refine g_bipush (v := 13) (pc := 70) X (by decide) dX8_takeClass_70 ?_
          obtain ⟨r20, σ21, hc19, h⟩ := bd2_e h
          refine g_callV (pc := 72) X k_ml_X8_50 (run_Re_take  hc19) s_2 rfl (room_ok (Nat.le_of_ble_eq_true rfl) (Nat.le_of_ble_eq_true rfl)) ⟨Nat.le_refl _, Nat.le_refl _⟩ _ rfl (Nat.le_of_ble_eq_true rfl) dX8_takeClass_72 ?_
          show Go V Γ M_X8_takeClass (Zm V Γ 2 fin) 75 [(4, .int r18), (2, .long r6), (0, .ref (V.2.2.1 + 2)), (1, .ref (V.2.2.1 + a1))] [.int r20] σ21
          refine g_if_eq (pc := 75) (tgt := 88) X dX8_takeClass_75 rfl (fun c46 => ?_) (fun c46 => ?_)
          · replace h := if_t c46 h
            refine g_iconst (v := 0) (pc := 88) X rfl dX8_takeClass_88 ?_
            cases h
            exact g_iret (pc := 89) X rfl nz0.1 (hr _ _ hA) dX8_takeClass_89
          · replace h := if_f c46 h
            refine g_aload_n (pc := 78) X 2 rfl dX8_takeClass_78 ?_
            refine g_iconst (v := 1) (pc := 79) X rfl dX8_takeClass_79 ?_
            refine g_bipush (v := 60) (pc := 80) X (by decide) dX8_takeClass_80 ?_
            obtain ⟨r23, σ24, hc22, h⟩ := bd2_e h
            refine g_callV (pc := 82) X k_ml_X8_40 (run_Re_takeNumber  hc22) s_2 rfl (room_ok (Nat.le_of_ble_eq_true rfl) (Nat.le_of_ble_eq_true rfl)) ⟨Nat.le_refl _, Nat.le_refl _⟩ _ rfl (Nat.le_of_ble_eq_true rfl) dX8_takeClass_82 ?_
            show Go V Γ M_X8_takeClass (Zm V Γ 2 fin) 85 [(4, .int r18), (2, .long r6), (0, .ref (V.2.2.1 + 2)), (1, .ref (V.2.2.1 + a1))] [.int r23] σ24
            refine g_if_ne (pc := 85) (tgt := 90) X dX8_takeClass_85 rfl (fun c45 => ?_) (fun c45 => ?_)
            · replace h := if_f c45 h
              refine g_aload_n (pc := 90) X 2 rfl dX8_takeClass_90 ?_
              obtain ⟨r26, hc25, h⟩ := bd_e h
              refine g_callV (pc := 91) X k_ml_X8_44 (run_Re_takenNumber  hc25) s_2 rfl (room_ok (Nat.le_of_ble_eq_true rfl) (Nat.le_of_ble_eq_true rfl)) ⟨Nat.le_refl _, Nat.le_refl _⟩ _ rfl (Nat.le_of_ble_eq_true rfl) dX8_takeClass_91 ?_
              show Go V Γ M_X8_takeClass (Zm V Γ 2 fin) 94 [(4, .int r18), (2, .long r6), (0, .ref (V.2.2.1 + 2)), (1, .ref (V.2.2.1 + a1))] [.int r26] σ24
              refine g_istore (pc := 94) X [(5, .int r26), (4, .int r18), (2, .long r6), (0, .ref (V.2.2.1 + 2)), (1, .ref (V.2.2.1 + a1))] (Nat.le_of_ble_eq_true rfl) rfl dX8_takeClass_94 ?_
              refine g_aload_n (pc := 96) X 3 rfl dX8_takeClass_96 ?_
              obtain ⟨r28, hc27, h⟩ := bd_e h
              refine g_callV (pc := 97) X k_ml_X8_14 (run_Re_token  hc27) s_2 rfl (room_ok (Nat.le_of_ble_eq_true rfl) (Nat.le_of_ble_eq_true rfl)) ⟨Nat.le_refl _, Nat.le_refl _⟩ _ rfl (Nat.le_of_ble_eq_true rfl) dX8_takeClass_97 ?_
              show Go V Γ M_X8_takeClass (Zm V Γ 2 fin) 100 [(5, .int r26), (4, .int r18), (2, .long r6), (0, .ref (V.2.2.1 + 2)), (1, .ref (V.2.2.1 + a1))] [.int r28] σ24
              refine g_bipush (v := 14) (pc := 100) X (by decide) dX8_takeClass_100 ?_
              refine g_icmp_ne (pc := 102) (tgt := 109) X dX8_takeClass_102 rfl (fun c44 => ?_) (fun c44 => ?_)
              · replace h := if_f c44 h
                refine g_iconst (v := 0) (pc := 109) X rfl dX8_takeClass_109 ?_
                refine g_istore (pc := 110) X [(6, .int 0), (5, .int r26), (4, .int r18), (2, .long r6), (0, .ref (V.2.2.1 + 2)), (1, .ref (V.2.2.1 + a1))] (Nat.le_of_ble_eq_true rfl) rfl dX8_takeClass_110 ?_
                refine g_iload (pc := 112) X 0 rfl dX8_takeClass_112 ?_
                refine g_if_eq (pc := 114) (tgt := 121) X dX8_takeClass_114 rfl (fun _ => ?_) (fun c => absurd c (by decide))
                refine g_sub [4, 5, 3, 2, 1, 0] rfl ?_
                exact tj_ST_takeClass_J121 X k1 hr h hA
              · replace h := if_t c44 h
                refine g_iconst (v := 1) (pc := 105) X rfl dX8_takeClass_105 ?_
                refine g_goto (pc := 106) (tgt := 110) X dX8_takeClass_106 rfl ?_
                refine g_istore (pc := 110) X [(6, .int 1), (5, .int r26), (4, .int r18), (2, .long r6), (0, .ref (V.2.2.1 + 2)), (1, .ref (V.2.2.1 + a1))] (Nat.le_of_ble_eq_true rfl) rfl dX8_takeClass_110 ?_
                refine g_iload (pc := 112) X 0 rfl dX8_takeClass_112 ?_
                refine g_if_eq (pc := 114) (tgt := 121) X dX8_takeClass_114 rfl (fun c => absurd c (by decide)) (fun _ => ?_)
                refine g_aload_n (pc := 117) X 4 rfl dX8_takeClass_117 ?_
                obtain ⟨σ43, hc42, h⟩ := bd_e h
                refine g_callV (pc := 118) X k_ml_X8_37 (run_Re_step  hc42) s_2 rfl (room_ok (Nat.le_of_ble_eq_true rfl) (Nat.le_of_ble_eq_true rfl)) ⟨Nat.le_refl _, Nat.le_refl _⟩ _ rfl (Nat.le_of_ble_eq_true rfl) dX8_takeClass_118 ?_
                show Go V Γ M_X8_takeClass (Zm V Γ 2 fin) 121 [(6, .int 1), (5, .int r26), (4, .int r18), (2, .long r6), (0, .ref (V.2.2.1 + 2)), (1, .ref (V.2.2.1 + a1))] [] σ43
                refine g_sub [4, 5, 3, 2, 1, 0] rfl ?_
                exact tj_ST_takeClass_J121 X k1 hr h hA
            · replace h := if_t c45 h
              refine g_iconst (v := 0) (pc := 88) X rfl dX8_takeClass_88 ?_
              cases h
              exact g_iret (pc := 89) X rfl nz0.1 (hr _ _ hA) dX8_takeClass_89
        · replace h := if_t c47 h
          refine g_iconst (v := 0) (pc := 61) X rfl dX8_takeClass_61 ?_
          cases h
          exact g_iret (pc := 62) X rfl nz0.1 (hr _ _ hA) dX8_takeClass_62
    · replace h := if_f c53 h
      refine g_aload_n (pc := 32) X 1 rfl dX8_takeClass_32 ?_
      refine g_iconst (v := 3) (pc := 33) X rfl dX8_takeClass_33 ?_
      obtain ⟨r50, σ51, hc49, h⟩ := bd2_e h
      refine g_callV (pc := 34) X k_ml_X8_20 (run_Re_blame  hc49) s_2 rfl (room_ok (Nat.le_of_ble_eq_true rfl) (Nat.le_of_ble_eq_true rfl)) ⟨Nat.le_refl _, Nat.le_refl _⟩ _ rfl (Nat.le_of_ble_eq_true rfl) dX8_takeClass_34 ?_
      show Go V Γ M_X8_takeClass (Zm V Γ 2 fin) 37 [(2, .long r6), (0, .ref (V.2.2.1 + 2)), (1, .ref (V.2.2.1 + a1))] [.int r50] σ51
      obtain ⟨c52, h⟩ := chk_e h
      cases h
      exact g_iret (pc := 37) X rfl (ckz_e c52).1 (hr _ _ hA) dX8_takeClass_37
  · replace h := if_f c58 h
    refine g_aload_n (pc := 12) X 0 rfl dX8_takeClass_12 ?_
    refine g_iconst (v := 2) (pc := 13) X rfl dX8_takeClass_13 ?_
    obtain ⟨r55, σ56, hc54, h⟩ := bd2_e h
    refine g_callV (pc := 14) X k_ml_X8_20 (run_Re_blame  hc54) s_2 rfl (room_ok (Nat.le_of_ble_eq_true rfl) (Nat.le_of_ble_eq_true rfl)) ⟨Nat.le_refl _, Nat.le_refl _⟩ _ rfl (Nat.le_of_ble_eq_true rfl) dX8_takeClass_14 ?_
    show Go V Γ M_X8_takeClass (Zm V Γ 2 fin) 17 [(0, .ref (V.2.2.1 + 2)), (1, .ref (V.2.2.1 + a1))] [.int r55] σ56
    obtain ⟨c57, h⟩ := chk_e h
    cases h
    exact g_iret (pc := 17) X rfl (ckz_e c57).1 (hr _ _ hA) dX8_takeClass_17
set_option maxRecDepth 100000 in
theorem run_ST_takeClass {V : Ev} {σ : St} {a1 : Nat} {o : (Int32 × St)} (k1 : okCl a1)  (h : ST_takeClass σ a1 = some o) : Rs V 2 M_X8_takeClass [.ref (V.2.2.1 + 2), .ref (V.2.2.1 + a1)] σ (some (.int o.1), o.2) := by
  refine Rs.of (by decide +kernel) (Nat.le_of_ble_eq_true rfl) (fun Γ X => ?_)
  exact tm_ST_takeClass X (A := fun o1 => o1 = o) k1 (fun _ _ e => by rw [← e]) h rfl
theorem dX8_take_0 : decode cX8_take 0 = .ok (.aload_n 1, 1) := by decide +kernel
theorem dX8_take_1 : decode cX8_take 1 = .ok (.invokevirtual 9, 3) := by decide +kernel
theorem dX8_take_4 : decode cX8_take 4 = .ok (.iconst 0, 1) := by decide +kernel
theorem dX8_take_5 : decode cX8_take 5 = .ok (.istore_n 2, 1) := by decide +kernel
theorem dX8_take_6 : decode cX8_take 6 = .ok (.iconst 0, 1) := by decide +kernel
theorem dX8_take_7 : decode cX8_take 7 = .ok (.istore_n 3, 1) := by decide +kernel
theorem dX8_take_8 : decode cX8_take 8 = .ok (.iload_n 3, 1) := by decide +kernel
theorem dX8_take_9 : decode cX8_take 9 = .ok (.sipush 900, 3) := by decide +kernel
theorem dX8_take_12 : decode cX8_take 12 = .ok (.if_icmp .gt 100, 3) := by decide +kernel
theorem dX8_take_15 : decode cX8_take 15 = .ok (.aload_n 0, 1) := by decide +kernel
theorem dX8_take_16 : decode cX8_take 16 = .ok (.invokevirtual 14, 3) := by decide +kernel
theorem dX8_take_19 : decode cX8_take 19 = .ok (.ifCond .eq 93, 3) := by decide +kernel
theorem dX8_take_22 : decode cX8_take 22 = .ok (.aload_n 0, 1) := by decide +kernel
theorem dX8_take_23 : decode cX8_take 23 = .ok (.invokevirtual 14, 3) := by decide +kernel
theorem dX8_take_26 : decode cX8_take 26 = .ok (.bipush 10, 2) := by decide +kernel
theorem dX8_take_28 : decode cX8_take 28 = .ok (.if_icmp .ne 27, 3) := by decide +kernel
theorem dX8_take_31 : decode cX8_take 31 = .ok (.iload_n 2, 1) := by decide +kernel
theorem dX8_take_32 : decode cX8_take 32 = .ok (.ifCond .eq 11, 3) := by decide +kernel
theorem dX8_take_35 : decode cX8_take 35 = .ok (.aload_n 0, 1) := by decide +kernel
theorem dX8_take_36 : decode cX8_take 36 = .ok (.iconst 5, 1) := by decide +kernel
theorem dX8_take_37 : decode cX8_take 37 = .ok (.invokevirtual 20, 3) := by decide +kernel
theorem dX8_take_40 : decode cX8_take 40 = .ok (.goto 8, 3) := by decide +kernel
theorem dX8_take_43 : decode cX8_take 43 = .ok (.aload_n 0, 1) := by decide +kernel
theorem dX8_take_44 : decode cX8_take 44 = .ok (.aload_n 1, 1) := by decide +kernel
theorem dX8_take_45 : decode cX8_take 45 = .ok (.invokestatic 24, 3) := by decide +kernel
theorem dX8_take_48 : decode cX8_take 48 = .ok (.istore 4, 2) := by decide +kernel
theorem dX8_take_50 : decode cX8_take 50 = .ok (.iconst 1, 1) := by decide +kernel
theorem dX8_take_51 : decode cX8_take 51 = .ok (.istore_n 2, 1) := by decide +kernel
theorem dX8_take_52 : decode cX8_take 52 = .ok (.goto 47, 3) := by decide +kernel
theorem dX8_take_55 : decode cX8_take 55 = .ok (.aload_n 0, 1) := by decide +kernel
theorem dX8_take_56 : decode cX8_take 56 = .ok (.invokevirtual 14, 3) := by decide +kernel
theorem dX8_take_59 : decode cX8_take 59 = .ok (.bipush 11, 2) := by decide +kernel
theorem dX8_take_61 : decode cX8_take 61 = .ok (.if_icmp .ne 31, 3) := by decide +kernel
theorem dX8_take_64 : decode cX8_take 64 = .ok (.aload_n 1, 1) := by decide +kernel
theorem dX8_take_65 : decode cX8_take 65 = .ok (.getfield 30, 3) := by decide +kernel
theorem dX8_take_68 : decode cX8_take 68 = .ok (.bipush 12, 2) := by decide +kernel
theorem dX8_take_70 : decode cX8_take 70 = .ok (.if_icmp .lt 12, 3) := by decide +kernel
theorem dX8_take_73 : decode cX8_take 73 = .ok (.aload_n 0, 1) := by decide +kernel
theorem dX8_take_74 : decode cX8_take 74 = .ok (.bipush 6, 2) := by decide +kernel
theorem dX8_take_76 : decode cX8_take 76 = .ok (.invokevirtual 20, 3) := by decide +kernel
theorem dX8_take_79 : decode cX8_take 79 = .ok (.goto 8, 3) := by decide +kernel
theorem dX8_take_82 : decode cX8_take 82 = .ok (.aload_n 0, 1) := by decide +kernel
theorem dX8_take_83 : decode cX8_take 83 = .ok (.aload_n 1, 1) := by decide +kernel
theorem dX8_take_84 : decode cX8_take 84 = .ok (.invokestatic 34, 3) := by decide +kernel
theorem dX8_take_87 : decode cX8_take 87 = .ok (.istore 4, 2) := by decide +kernel
theorem dX8_take_89 : decode cX8_take 89 = .ok (.goto 10, 3) := by decide +kernel
theorem dX8_take_92 : decode cX8_take 92 = .ok (.aload_n 0, 1) := by decide +kernel
theorem dX8_take_93 : decode cX8_take 93 = .ok (.iconst 2, 1) := by decide +kernel
theorem dX8_take_94 : decode cX8_take 94 = .ok (.invokevirtual 20, 3) := by decide +kernel
theorem dX8_take_97 : decode cX8_take 97 = .ok (.istore 4, 2) := by decide +kernel
theorem dX8_take_99 : decode cX8_take 99 = .ok (.iload 4, 2) := by decide +kernel
theorem dX8_take_101 : decode cX8_take 101 = .ok (.ifCond .ne 5, 3) := by decide +kernel
theorem dX8_take_104 : decode cX8_take 104 = .ok (.iconst 0, 1) := by decide +kernel
theorem dX8_take_105 : decode cX8_take 105 = .ok (.ireturn, 1) := by decide +kernel
theorem dX8_take_106 : decode cX8_take 106 = .ok (.iinc 3 1, 3) := by decide +kernel
theorem dX8_take_109 : decode cX8_take 109 = .ok (.goto (-101), 3) := by decide +kernel
theorem dX8_take_112 : decode cX8_take 112 = .ok (.iconst 1, 1) := by decide +kernel
theorem dX8_take_113 : decode cX8_take 113 = .ok (.ireturn, 1) := by decide +kernel
noncomputable def ST_take_J48_8 (σ : St) (l1 : Nat) (l3 : Int32) (s0 : Int32) : Option (((Int32 × Int32 × St) ⊕ (Int32 × St))) :=
  if s0 = 0 then (some (.inr (0, σ))) else (bnd (l3 + 1) (fun v29 => some (.inl (1, v29, σ))))
set_option maxRecDepth 100000 in
set_option maxHeartbeats 4000000 in
theorem tj_ST_take_J48_8 {V : Ev} {Γ : Cn} {fin : Option Value × St} {σ : St} {l1 : Nat} {l3 : Int32} {s0 : Int32} {o : ((Int32 × Int32 × St) ⊕ (Int32 × St))} (X : Cx V Γ M_X8_take) {A : ((Int32 × Int32 × St) ⊕ (Int32 × St)) → Prop} (k_l1 : okCl l1) (hr : ∀ (r : Int32) (σ9 : St), A (.inr (r, σ9)) → (some (.int r), σ9) = fin) (hb8 : ∀ (x2 : Int32) (x3 : Int32) (σ9 : St), A (.inl (x2, x3, σ9)) → Go V Γ M_X8_take (Zm V Γ 3 fin) 8 [(0, .ref (V.2.2.1 + 2)), (1, .ref (V.2.2.1 + l1)), (2, .int x2), (3, .int x3)] [] σ9) (h : ST_take_J48_8 σ l1 l3 s0 = some o) (hA : A o) : Go V Γ M_X8_take (Zm V Γ 3 fin) 48 [(0, .ref (V.2.2.1 + 2)), (1, .ref (V.2.2.1 + l1)), (3, .int l3)] [.int s0] σ := by
  unfold ST_take_J48_8 at h
  refine g_istore (pc := 48) X [(4, .int s0), (0, .ref (V.2.2.1 + 2)), (1, .ref (V.2.2.1 + l1)), (3, .int l3)] (Nat.le_of_ble_eq_true rfl) rfl dX8_take_48 ?_
  refine g_iconst (v := 1) (pc := 50) X rfl dX8_take_50 ?_
  refine g_istore_n (pc := 51) X [(2, .int 1), (4, .int s0), (0, .ref (V.2.2.1 + 2)), (1, .ref (V.2.2.1 + l1)), (3, .int l3)] rfl (Nat.le_of_ble_eq_true rfl) rfl dX8_take_51 ?_
  refine g_goto (pc := 52) (tgt := 99) X dX8_take_52 rfl ?_
  refine g_iload (pc := 99) X 1 rfl dX8_take_99 ?_
  refine g_if_ne (pc := 101) (tgt := 106) X dX8_take_101 rfl (fun c30 => ?_) (fun c30 => ?_)
  · replace h := if_f c30 h
    obtain ⟨v29, e_v29, h⟩ := bnd_e h
    refine g_iinc (pc := 106) (v := v29) X [(3, .int v29), (2, .int 1), (4, .int s0), (0, .ref (V.2.2.1 + 2)), (1, .ref (V.2.2.1 + l1))] 4 rfl (by rw [e_v29]; rfl) (Nat.le_of_ble_eq_true rfl) rfl dX8_take_106 ?_
    refine g_goto (pc := 109) (tgt := 8) X dX8_take_109 rfl ?_
    refine g_sub [3, 4, 1, 0] rfl ?_
    cases h
    exact hb8 _ _ _ hA
  · replace h := if_t c30 h
    refine g_iconst (v := 0) (pc := 104) X rfl dX8_take_104 ?_
    cases h
    exact g_iret (pc := 105) X rfl nz0.1 (hr _ _ hA) dX8_take_105
noncomputable def ST_take_L8 (l1 : Nat) (σ : St) (x2 : Int32) (x3 : Int32) : Option ((Int32 × Int32 × St) ⊕ (Int32 × St)) :=
  if 900 < x3 then (some (.inr (1, σ))) else (bd (Re_token σ) (fun r4 => if r4 = 0 then (some (.inr (1, σ))) else (bd (Re_token σ) (fun r6 => if r6 = 10 then (if x2 = 0 then (bd2 (ST_takeOdds σ l1) (fun r27 σ28 => ST_take_J48_8 σ28 l1 x3 r27)) else (bd2 (Re_blame σ 5) (fun r32 σ33 => ST_take_J48_8 σ33 l1 x3 r32))) else (bd (Re_token σ) (fun r8 => if r8 = 11 then (if (σ.1 l1 3) < 12 then (bd2 (ST_takeClass σ l1) (fun r15 σ16 => if r15 = 0 then (some (.inr (0, σ16))) else (bnd (x3 + 1) (fun v17 => some (.inl (x2, v17, σ16)))))) else (bd2 (Re_blame σ 6) (fun r20 σ21 => if r20 = 0 then (some (.inr (0, σ21))) else (bnd (x3 + 1) (fun v22 => some (.inl (x2, v22, σ21))))))) else (bd2 (Re_blame σ 2) (fun r10 σ11 => if r10 = 0 then (some (.inr (0, σ11))) else (bnd (x3 + 1) (fun v12 => some (.inl (x2, v12, σ11))))))))))))
set_option maxRecDepth 100000 in
set_option maxHeartbeats 4000000 in
theorem tb_ST_take_L8 {V : Ev} {Γ : Cn} {fin : Option Value × St} {l1 : Nat} {σ : St} {x2 : Int32} {x3 : Int32} {o : ((Int32 × Int32 × St) ⊕ (Int32 × St))} (X : Cx V Γ M_X8_take) {A : ((Int32 × Int32 × St) ⊕ (Int32 × St)) → Prop} (k_l1 : okCl l1) (hr : ∀ (r : Int32) (σ9 : St), A (.inr (r, σ9)) → (some (.int r), σ9) = fin) (hb8 : ∀ (x2 : Int32) (x3 : Int32) (σ9 : St), A (.inl (x2, x3, σ9)) → Go V Γ M_X8_take (Zm V Γ 3 fin) 8 [(0, .ref (V.2.2.1 + 2)), (1, .ref (V.2.2.1 + l1)), (2, .int x2), (3, .int x3)] [] σ9) (h : ST_take_L8 l1 σ x2 x3 = some o) (hA : A o) : Go V Γ M_X8_take (Zm V Γ 3 fin) 8 [(0, .ref (V.2.2.1 + 2)), (1, .ref (V.2.2.1 + l1)), (2, .int x2), (3, .int x3)] [] σ := by
  unfold ST_take_L8 at h
  refine g_iload_n (pc := 8) X 3 rfl dX8_take_8 ?_
  refine g_sipush (v := 900) (pc := 9) X (by decide) dX8_take_9 ?_
  refine g_icmp_gt (pc := 12) (tgt := 112) X dX8_take_12 rfl (fun c37 => ?_) (fun c37 => ?_)
  · replace h := if_t c37 h
    refine g_iconst (v := 1) (pc := 112) X rfl dX8_take_112 ?_
    cases h
    exact g_iret (pc := 113) X rfl nz1.1 (hr _ _ hA) dX8_take_113
  · replace h := if_f c37 h
    refine g_aload_n (pc := 15) X 0 rfl dX8_take_15 ?_
    obtain ⟨r4, hc3, h⟩ := bd_e h
    refine g_callV (pc := 16) X k_ml_X8_14 (run_Re_token  hc3) s_2 rfl (room_ok (Nat.le_of_ble_eq_true rfl) (Nat.le_of_ble_eq_true rfl)) ⟨Nat.le_refl _, Nat.le_refl _⟩ _ rfl (Nat.le_of_ble_eq_true rfl) dX8_take_16 ?_
    show Go V Γ M_X8_take (Zm V Γ 3 fin) 19 [(0, .ref (V.2.2.1 + 2)), (1, .ref (V.2.2.1 + l1)), (2, .int x2), (3, .int x3)] [.int r4] σ
    refine g_if_eq (pc := 19) (tgt := 112) X dX8_take_19 rfl (fun c36 => ?_) (fun c36 => ?_)
    · replace h := if_t c36 h
      refine g_iconst (v := 1) (pc := 112) X rfl dX8_take_112 ?_
      cases h
      exact g_iret (pc := 113) X rfl nz1.1 (hr _ _ hA) dX8_take_113
    · replace h := if_f c36 h
      refine g_aload_n (pc := 22) X 0 rfl dX8_take_22 ?_
      obtain ⟨r6, hc5, h⟩ := bd_e h
      refine g_callV (pc := 23) X k_ml_X8_14 (run_Re_token  hc5) s_2 rfl (room_ok (Nat.le_of_ble_eq_true rfl) (Nat.le_of_ble_eq_true rfl)) ⟨Nat.le_refl _, Nat.le_refl _⟩ _ rfl (Nat.le_of_ble_eq_true rfl) dX8_take_23 ?_
      show Go V Γ M_X8_take (Zm V Γ 3 fin) 26 [(0, .ref (V.2.2.1 + 2)), (1, .ref (V.2.2.1 + l1)), (2, .int x2), (3, .int x3)] [.int r6] σ
      refine g_bipush (v := 10) (pc := 26) X (by decide) dX8_take_26 ?_
      refine g_icmp_ne (pc := 28) (tgt := 55) X dX8_take_28 rfl (fun c35 => ?_) (fun c35 => ?_)
      · replace h := if_f c35 h
        refine g_aload_n (pc := 55) X 0 rfl dX8_take_55 ?_
        obtain ⟨r8, hc7, h⟩ := bd_e h
        refine g_callV (pc := 56) X k_ml_X8_14 (run_Re_token  hc7) s_2 rfl (room_ok (Nat.le_of_ble_eq_true rfl) (Nat.le_of_ble_eq_true rfl)) ⟨Nat.le_refl _, Nat.le_refl _⟩ _ rfl (Nat.le_of_ble_eq_true rfl) dX8_take_56 ?_
        show Go V Γ M_X8_take (Zm V Γ 3 fin) 59 [(0, .ref (V.2.2.1 + 2)), (1, .ref (V.2.2.1 + l1)), (2, .int x2), (3, .int x3)] [.int r8] σ
        refine g_bipush (v := 11) (pc := 59) X (by decide) dX8_take_59 ?_
        refine g_icmp_ne (pc := 61) (tgt := 92) X dX8_take_61 rfl (fun c25 => ?_) (fun c25 => ?_)
        · replace h := if_f c25 h
          refine g_aload_n (pc := 92) X 0 rfl dX8_take_92 ?_
          refine g_iconst (v := 2) (pc := 93) X rfl dX8_take_93 ?_
          obtain ⟨r10, σ11, hc9, h⟩ := bd2_e h
          refine g_callV (pc := 94) X k_ml_X8_20 (run_Re_blame  hc9) s_2 rfl (room_ok (Nat.le_of_ble_eq_true rfl) (Nat.le_of_ble_eq_true rfl)) ⟨Nat.le_refl _, Nat.le_refl _⟩ _ rfl (Nat.le_of_ble_eq_true rfl) dX8_take_94 ?_
          show Go V Γ M_X8_take (Zm V Γ 3 fin) 97 [(0, .ref (V.2.2.1 + 2)), (1, .ref (V.2.2.1 + l1)), (2, .int x2), (3, .int x3)] [.int r10] σ11
          refine g_istore (pc := 97) X [(4, .int r10), (0, .ref (V.2.2.1 + 2)), (1, .ref (V.2.2.1 + l1)), (2, .int x2), (3, .int x3)] (Nat.le_of_ble_eq_true rfl) rfl dX8_take_97 ?_
          refine g_iload (pc := 99) X 0 rfl dX8_take_99 ?_
          refine g_if_ne (pc := 101) (tgt := 106) X dX8_take_101 rfl (fun c13 => ?_) (fun c13 => ?_)
          · replace h := if_f c13 h
            obtain ⟨v12, e_v12, h⟩ := bnd_e h
            refine g_iinc (pc := 106) (v := v12) X [(3, .int v12), (4, .int r10), (0, .ref (V.2.2.1 + 2)), (1, .ref (V.2.2.1 + l1)), (2, .int x2)] 4 rfl (by rw [e_v12]; rfl) (Nat.le_of_ble_eq_true rfl) rfl dX8_take_106 ?_
            refine g_goto (pc := 109) (tgt := 8) X dX8_take_109 rfl ?_
            refine g_sub [2, 3, 4, 0] rfl ?_
            cases h
            exact hb8 _ _ _ hA
          · replace h := if_t c13 h
            refine g_iconst (v := 0) (pc := 104) X rfl dX8_take_104 ?_
            cases h
            exact g_iret (pc := 105) X rfl nz0.1 (hr _ _ hA) dX8_take_105
        · replace h := if_t c25 h
          refine g_aload_n (pc := 64) X 1 rfl dX8_take_64 ?_
          refine g_getI (pc := 65) X k_fl_X8_30 (sCl_0 k_l1) rfl dX8_take_65 ?_
          refine g_bipush (v := 12) (pc := 68) X (by decide) dX8_take_68 ?_
          refine g_icmp_lt (pc := 70) (tgt := 82) X dX8_take_70 rfl (fun c24 => ?_) (fun c24 => ?_)
          · replace h := if_t c24 h
            refine g_aload_n (pc := 82) X 0 rfl dX8_take_82 ?_
            refine g_aload_n (pc := 83) X 1 rfl dX8_take_83 ?_
            obtain ⟨r15, σ16, hc14, h⟩ := bd2_e h
            refine g_callS (pc := 84) X k_ml_X8_34 (run_ST_takeClass k_l1 hc14) rfl (room_ok (Nat.le_of_ble_eq_true rfl) (Nat.le_of_ble_eq_true rfl)) ⟨Nat.le_refl _, Nat.le_refl _⟩ _ rfl (Nat.le_of_ble_eq_true rfl) dX8_take_84 ?_
            show Go V Γ M_X8_take (Zm V Γ 3 fin) 87 [(0, .ref (V.2.2.1 + 2)), (1, .ref (V.2.2.1 + l1)), (2, .int x2), (3, .int x3)] [.int r15] σ16
            refine g_istore (pc := 87) X [(4, .int r15), (0, .ref (V.2.2.1 + 2)), (1, .ref (V.2.2.1 + l1)), (2, .int x2), (3, .int x3)] (Nat.le_of_ble_eq_true rfl) rfl dX8_take_87 ?_
            refine g_goto (pc := 89) (tgt := 99) X dX8_take_89 rfl ?_
            refine g_iload (pc := 99) X 0 rfl dX8_take_99 ?_
            refine g_if_ne (pc := 101) (tgt := 106) X dX8_take_101 rfl (fun c18 => ?_) (fun c18 => ?_)
            · replace h := if_f c18 h
              obtain ⟨v17, e_v17, h⟩ := bnd_e h
              refine g_iinc (pc := 106) (v := v17) X [(3, .int v17), (4, .int r15), (0, .ref (V.2.2.1 + 2)), (1, .ref (V.2.2.1 + l1)), (2, .int x2)] 4 rfl (by rw [e_v17]; rfl) (Nat.le_of_ble_eq_true rfl) rfl dX8_take_106 ?_
              refine g_goto (pc := 109) (tgt := 8) X dX8_take_109 rfl ?_
              refine g_sub [2, 3, 4, 0] rfl ?_
              cases h
              exact hb8 _ _ _ hA
            · replace h := if_t c18 h
              refine g_iconst (v := 0) (pc := 104) X rfl dX8_take_104 ?_
              cases h
              exact g_iret (pc := 105) X rfl nz0.1 (hr _ _ hA) dX8_take_105
          · replace h := if_f c24 h
            refine g_aload_n (pc := 73) X 0 rfl dX8_take_73 ?_
            refine g_bipush (v := 6) (pc := 74) X (by decide) dX8_take_74 ?_
            obtain ⟨r20, σ21, hc19, h⟩ := bd2_e h
            refine g_callV (pc := 76) X k_ml_X8_20 (run_Re_blame  hc19) s_2 rfl (room_ok (Nat.le_of_ble_eq_true rfl) (Nat.le_of_ble_eq_true rfl)) ⟨Nat.le_refl _, Nat.le_refl _⟩ _ rfl (Nat.le_of_ble_eq_true rfl) dX8_take_76 ?_
            show Go V Γ M_X8_take (Zm V Γ 3 fin) 79 [(0, .ref (V.2.2.1 + 2)), (1, .ref (V.2.2.1 + l1)), (2, .int x2), (3, .int x3)] [.int r20] σ21
            refine g_goto (pc := 79) (tgt := 87) X dX8_take_79 rfl ?_
            refine g_istore (pc := 87) X [(4, .int r20), (0, .ref (V.2.2.1 + 2)), (1, .ref (V.2.2.1 + l1)), (2, .int x2), (3, .int x3)] (Nat.le_of_ble_eq_true rfl) rfl dX8_take_87 ?_
            refine g_goto (pc := 89) (tgt := 99) X dX8_take_89 rfl ?_
            refine g_iload (pc := 99) X 0 rfl dX8_take_99 ?_
            refine g_if_ne (pc := 101) (tgt := 106) X dX8_take_101 rfl (fun c23 => ?_) (fun c23 => ?_)
            · replace h := if_f c23 h
              obtain ⟨v22, e_v22, h⟩ := bnd_e h
              refine g_iinc (pc := 106) (v := v22) X [(3, .int v22), (4, .int r20), (0, .ref (V.2.2.1 + 2)), (1, .ref (V.2.2.1 + l1)), (2, .int x2)] 4 rfl (by rw [e_v22]; rfl) (Nat.le_of_ble_eq_true rfl) rfl dX8_take_106 ?_
              refine g_goto (pc := 109) (tgt := 8) X dX8_take_109 rfl ?_
              refine g_sub [2, 3, 4, 0] rfl ?_
              cases h
              exact hb8 _ _ _ hA
            · replace h := if_t c23 h
              refine g_iconst (v := 0) (pc := 104) X rfl dX8_take_104 ?_
              cases h
              exact g_iret (pc := 105) X rfl nz0.1 (hr _ _ hA) dX8_take_105
      · replace h := if_t c35 h
        refine g_iload_n (pc := 31) X 2 rfl dX8_take_31 ?_
        refine g_if_eq (pc := 32) (tgt := 43) X dX8_take_32 rfl (fun c34 => ?_) (fun c34 => ?_)
        · replace h := if_t c34 h
          refine g_aload_n (pc := 43) X 0 rfl dX8_take_43 ?_
          refine g_aload_n (pc := 44) X 1 rfl dX8_take_44 ?_
          obtain ⟨r27, σ28, hc26, h⟩ := bd2_e h
          refine g_callS (pc := 45) X k_ml_X8_24 (run_ST_takeOdds k_l1 hc26) rfl (room_ok (Nat.le_of_ble_eq_true rfl) (Nat.le_of_ble_eq_true rfl)) ⟨Nat.le_refl _, Nat.le_refl _⟩ _ rfl (Nat.le_of_ble_eq_true rfl) dX8_take_45 ?_
          show Go V Γ M_X8_take (Zm V Γ 3 fin) 48 [(0, .ref (V.2.2.1 + 2)), (1, .ref (V.2.2.1 + l1)), (2, .int x2), (3, .int x3)] [.int r27] σ28
          refine g_sub [0, 1, 3] rfl ?_
          exact tj_ST_take_J48_8 X k_l1 hr hb8 h hA
        · replace h := if_f c34 h
          refine g_aload_n (pc := 35) X 0 rfl dX8_take_35 ?_
          refine g_iconst (v := 5) (pc := 36) X rfl dX8_take_36 ?_
          obtain ⟨r32, σ33, hc31, h⟩ := bd2_e h
          refine g_callV (pc := 37) X k_ml_X8_20 (run_Re_blame  hc31) s_2 rfl (room_ok (Nat.le_of_ble_eq_true rfl) (Nat.le_of_ble_eq_true rfl)) ⟨Nat.le_refl _, Nat.le_refl _⟩ _ rfl (Nat.le_of_ble_eq_true rfl) dX8_take_37 ?_
          show Go V Γ M_X8_take (Zm V Γ 3 fin) 40 [(0, .ref (V.2.2.1 + 2)), (1, .ref (V.2.2.1 + l1)), (2, .int x2), (3, .int x3)] [.int r32] σ33
          refine g_goto (pc := 40) (tgt := 48) X dX8_take_40 rfl ?_
          refine g_sub [0, 1, 3] rfl ?_
          exact tj_ST_take_J48_8 X k_l1 hr hb8 h hA
set_option maxRecDepth 100000 in
theorem tl_ST_take_L8 {V : Ev} {Γ : Cn} {fin : Option Value × St} {l1 : Nat} {x2 : Int32} {x3 : Int32} {σ9 : St} (X : Cx V Γ M_X8_take) (k_l1 : okCl l1) {e : (Int32 × St)} {A : (Int32 × St) → Prop} (hr : ∀ (r : Int32) (σ9 : St), A (r, σ9) → (some (.int r), σ9) = fin) {n : Nat} (h : iter (fun s : (Int32 × Int32 × St) => ST_take_L8 l1 s.2.2 s.1 s.2.1) n (x2, x3, σ9) = some e) (hA : A e) : Go V Γ M_X8_take (Zm V Γ 3 fin) 8 [(0, .ref (V.2.2.1 + 2)), (1, .ref (V.2.2.1 + l1)), (2, .int x2), (3, .int x3)] [] σ9 := by
  refine iter_go (G := (fun s : (Int32 × Int32 × St) => Go V Γ M_X8_take (Zm V Γ 3 fin) 8 [(0, .ref (V.2.2.1 + 2)), (1, .ref (V.2.2.1 + l1)), (2, .int s.1), (3, .int s.2.1)] [] s.2.2)) (fun s o ho hS => ?_) n (x2, x3, σ9) h
  exact tb_ST_take_L8 X k_l1 (fun z0 z1 he => hr z0 z1 (by rw [he]; exact hA)) (fun _ _ _ h9 => h9) ho hS
noncomputable def ST_take (σ : St) (a1 : Nat) : Option (Int32 × St) :=
  bd (Cl_clear σ a1) (fun σ2 => iter (fun s : (Int32 × Int32 × St) => ST_take_L8 a1 s.2.2 s.1 s.2.1) FUEL (0, 0, σ2))
set_option maxRecDepth 100000 in
set_option maxHeartbeats 4000000 in
theorem tm_ST_take {V : Ev} {Γ : Cn} {fin : Option Value × St} {σ : St} {a1 : Nat} {o : (Int32 × St)} (X : Cx V Γ M_X8_take) {A : (Int32 × St) → Prop} (k1 : okCl a1) (hr : ∀ (r : Int32) (σ9 : St), A (r, σ9) → (some (.int r), σ9) = fin) (h : ST_take σ a1 = some o) (hA : A o) : Go V Γ M_X8_take (Zm V Γ 3 fin) 0 [(0, .ref (V.2.2.1 + 2)), (1, .ref (V.2.2.1 + a1))] [] σ := by
  unfold ST_take at h
  refine g_aload_n (pc := 0) X 1 rfl dX8_take_0 ?_
  obtain ⟨σ2, hc1, h⟩ := bd_e h
  refine g_callV (pc := 1) X k_ml_X8_9 (run_Cl_clear k1 hc1) (sCl_0 k1) rfl (room_ok (Nat.le_of_ble_eq_true rfl) (Nat.le_of_ble_eq_true rfl)) ⟨Nat.le_refl _, Nat.le_refl _⟩ _ rfl (Nat.le_of_ble_eq_true rfl) dX8_take_1 ?_
  show Go V Γ M_X8_take (Zm V Γ 3 fin) 4 [(0, .ref (V.2.2.1 + 2)), (1, .ref (V.2.2.1 + a1))] [] σ2
  refine g_iconst (v := 0) (pc := 4) X rfl dX8_take_4 ?_
  refine g_istore_n (pc := 5) X [(2, .int 0), (0, .ref (V.2.2.1 + 2)), (1, .ref (V.2.2.1 + a1))] rfl (Nat.le_of_ble_eq_true rfl) rfl dX8_take_5 ?_
  refine g_iconst (v := 0) (pc := 6) X rfl dX8_take_6 ?_
  refine g_istore_n (pc := 7) X [(3, .int 0), (2, .int 0), (0, .ref (V.2.2.1 + 2)), (1, .ref (V.2.2.1 + a1))] rfl (Nat.le_of_ble_eq_true rfl) rfl dX8_take_7 ?_
  refine g_sub [2, 3, 1, 0] rfl ?_
  exact tl_ST_take_L8 X k1 hr h hA
set_option maxRecDepth 100000 in
theorem run_ST_take {V : Ev} {σ : St} {a1 : Nat} {o : (Int32 × St)} (k1 : okCl a1)  (h : ST_take σ a1 = some o) : Rs V 3 M_X8_take [.ref (V.2.2.1 + 2), .ref (V.2.2.1 + a1)] σ (some (.int o.1), o.2) := by
  refine Rs.of (by decide +kernel) (Nat.le_of_ble_eq_true rfl) (fun Γ X => ?_)
  exact tm_ST_take X (A := fun o1 => o1 = o) k1 (fun _ _ e => by rw [← e]) h rfl
theorem dX9_lay_0 : decode cX9_lay 0 = .ok (.aload_n 0, 1) := by decide +kernel
theorem dX9_lay_1 : decode cX9_lay 1 = .ok (.iload_n 1, 1) := by decide +kernel
theorem dX9_lay_2 : decode cX9_lay 2 = .ok (.putfield 15, 3) := by decide +kernel
theorem dX9_lay_5 : decode cX9_lay 5 = .ok (.aload_n 0, 1) := by decide +kernel
theorem dX9_lay_6 : decode cX9_lay 6 = .ok (.iload_n 2, 1) := by decide +kernel
theorem dX9_lay_7 : decode cX9_lay 7 = .ok (.putfield 19, 3) := by decide +kernel
theorem dX9_lay_10 : decode cX9_lay 10 = .ok (.aload_n 0, 1) := by decide +kernel
theorem dX9_lay_11 : decode cX9_lay 11 = .ok (.getfield 9, 3) := by decide +kernel
theorem dX9_lay_14 : decode cX9_lay 14 = .ok (.lconst 0, 1) := by decide +kernel
theorem dX9_lay_15 : decode cX9_lay 15 = .ok (.invokestatic 22, 3) := by decide +kernel
theorem dX9_lay_18 : decode cX9_lay 18 = .ok (.return_, 1) := by decide +kernel
noncomputable def Ty_lay (σ : St) (a0 : Nat) (p1 : Int32) (p2 : Int32) : Option St :=
  bnd (wI σ a0 1 p1) (fun σ1 => bnd (wI σ1 a0 2 p2) (fun σ2 => bd (JA_fill_d0a16 σ2 (a0 + 1) 60 0) (fun σ4 => some σ4)))
set_option maxRecDepth 100000 in
set_option maxHeartbeats 4000000 in
theorem tm_Ty_lay {V : Ev} {Γ : Cn} {fin : Option Value × St} {σ : St} {a0 : Nat} {p1 : Int32} {p2 : Int32} {o : St} (X : Cx V Γ M_X9_lay) {A : St → Prop} (k0 : okTy a0) (hr : ∀ (σ9 : St), A σ9 → (none, σ9) = fin) (h : Ty_lay σ a0 p1 p2 = some o) (hA : A o) : Go V Γ M_X9_lay (Zm V Γ 1 fin) 0 [(0, .ref (V.2.2.1 + a0)), (1, .int p1), (2, .int p2)] [] σ := by
  unfold Ty_lay at h
  refine g_aload_n (pc := 0) X 0 rfl dX9_lay_0 ?_
  refine g_iload_n (pc := 1) X 1 rfl dX9_lay_1 ?_
  refine g_putI (pc := 2) X k_fl_X9_15 (sTy_0 k0) rfl rfl rfl dX9_lay_2 ?_
  obtain ⟨σ1, e_σ1, h⟩ := bnd_e h
  refine g_nmS e_σ1 ?_
  refine g_aload_n (pc := 5) X 0 rfl dX9_lay_5 ?_
  refine g_iload_n (pc := 6) X 2 rfl dX9_lay_6 ?_
  refine g_putI (pc := 7) X k_fl_X9_19 (sTy_0 k0) rfl rfl rfl dX9_lay_7 ?_
  obtain ⟨σ2, e_σ2, h⟩ := bnd_e h
  refine g_nmS e_σ2 ?_
  refine g_aload_n (pc := 10) X 0 rfl dX9_lay_10 ?_
  refine g_getR (r := (a0 + 1)) (pc := 11) X k_fl_X9_9 (sTy_0 k0) rfl dX9_lay_11 ?_
  refine g_lconst (v := 0) (pc := 14) X rfl dX9_lay_14 ?_
  obtain ⟨σ4, hc3, h⟩ := bd_e h
  refine g_callS (pc := 15) X k_ml_X9_22 (run_JA_fill_d0a16 (sTy_1 k0) hc3) rfl (room_ok (Nat.le_of_ble_eq_true rfl) (Nat.le_of_ble_eq_true rfl)) ⟨Nat.le_refl _, Nat.le_refl _⟩ _ rfl (Nat.le_of_ble_eq_true rfl) dX9_lay_15 ?_
  show Go V Γ M_X9_lay (Zm V Γ 1 fin) 18 [(0, .ref (V.2.2.1 + a0)), (1, .int p1), (2, .int p2)] [] σ4
  cases h
  exact g_vret (pc := 18) X rfl (hr _ hA) dX9_lay_18
set_option maxRecDepth 100000 in
theorem run_Ty_lay {V : Ev} {σ : St} {a0 : Nat} {p1 : Int32} {p2 : Int32} {o : St} (k0 : okTy a0)  (h : Ty_lay σ a0 p1 p2 = some o) : Rs V 1 M_X9_lay [.ref (V.2.2.1 + a0), .int p1, .int p2] σ (none, o) := by
  refine Rs.of (by decide +kernel) (Nat.le_of_ble_eq_true rfl) (fun Γ X => ?_)
  exact tm_Ty_lay X (A := fun o1 => o1 = o) k0 (fun _ e => by rw [e]) h rfl
theorem dX9_isMissing_0 : decode cX9_isMissing 0 = .ok (.aload_n 0, 1) := by decide +kernel
theorem dX9_isMissing_1 : decode cX9_isMissing 1 = .ok (.getfield 19, 3) := by decide +kernel
theorem dX9_isMissing_4 : decode cX9_isMissing 4 = .ok (.iconst (-1), 1) := by decide +kernel
theorem dX9_isMissing_5 : decode cX9_isMissing 5 = .ok (.if_icmp .ne 7, 3) := by decide +kernel
theorem dX9_isMissing_8 : decode cX9_isMissing 8 = .ok (.iconst 1, 1) := by decide +kernel
theorem dX9_isMissing_9 : decode cX9_isMissing 9 = .ok (.goto 4, 3) := by decide +kernel
theorem dX9_isMissing_12 : decode cX9_isMissing 12 = .ok (.iconst 0, 1) := by decide +kernel
theorem dX9_isMissing_13 : decode cX9_isMissing 13 = .ok (.ireturn, 1) := by decide +kernel
noncomputable def Ty_isMissing (σ : St) (a0 : Nat) : Option Int32 :=
  if (σ.1 a0 2) = (-1) then (some 1) else (some 0)
set_option maxRecDepth 100000 in
set_option maxHeartbeats 4000000 in
theorem tm_Ty_isMissing {V : Ev} {Γ : Cn} {fin : Option Value × St} {σ : St} {a0 : Nat} {o : Int32} (X : Cx V Γ M_X9_isMissing) {A : Int32 → Prop} (k0 : okTy a0) (hr : ∀ (r : Int32), A r → (some (.int r), σ) = fin) (h : Ty_isMissing σ a0 = some o) (hA : A o) : Go V Γ M_X9_isMissing (Zm V Γ 0 fin) 0 [(0, .ref (V.2.2.1 + a0))] [] σ := by
  unfold Ty_isMissing at h
  refine g_aload_n (pc := 0) X 0 rfl dX9_isMissing_0 ?_
  refine g_getI (pc := 1) X k_fl_X9_19 (sTy_0 k0) rfl dX9_isMissing_1 ?_
  refine g_iconst (v := (-1)) (pc := 4) X rfl dX9_isMissing_4 ?_
  refine g_icmp_ne (pc := 5) (tgt := 12) X dX9_isMissing_5 rfl (fun c1 => ?_) (fun c1 => ?_)
  · replace h := if_f c1 h
    refine g_iconst (v := 0) (pc := 12) X rfl dX9_isMissing_12 ?_
    cases h
    exact g_iret (pc := 13) X rfl nz0.1 (hr _ hA) dX9_isMissing_13
  · replace h := if_t c1 h
    refine g_iconst (v := 1) (pc := 8) X rfl dX9_isMissing_8 ?_
    refine g_goto (pc := 9) (tgt := 13) X dX9_isMissing_9 rfl ?_
    cases h
    exact g_iret (pc := 13) X rfl nz1.1 (hr _ hA) dX9_isMissing_13
set_option maxRecDepth 100000 in
theorem run_Ty_isMissing {V : Ev} {σ : St} {a0 : Nat} {o : Int32} (k0 : okTy a0)  (h : Ty_isMissing σ a0 = some o) : Rs V 0 M_X9_isMissing [.ref (V.2.2.1 + a0)] σ (some (.int o), σ) := by
  refine Rs.of (by decide +kernel) (Nat.le_of_ble_eq_true rfl) (fun Γ X => ?_)
  exact tm_Ty_isMissing X (A := fun o1 => o1 = o) k0 (fun _ e => by rw [e]) h rfl
theorem dX9_cut_0 : decode cX9_cut 0 = .ok (.aload_n 0, 1) := by decide +kernel
theorem dX9_cut_1 : decode cX9_cut 1 = .ok (.getfield 15, 3) := by decide +kernel
theorem dX9_cut_4 : decode cX9_cut 4 = .ok (.tableswitch 42 0 2 #[28, 33, 38], 28) := by decide +kernel
theorem dX9_cut_32 : decode cX9_cut 32 = .ok (.lload_n 1, 1) := by decide +kernel
theorem dX9_cut_33 : decode cX9_cut 33 = .ok (.l2i, 1) := by decide +kernel
theorem dX9_cut_34 : decode cX9_cut 34 = .ok (.i2b, 1) := by decide +kernel
theorem dX9_cut_35 : decode cX9_cut 35 = .ok (.i2l, 1) := by decide +kernel
theorem dX9_cut_36 : decode cX9_cut 36 = .ok (.lreturn, 1) := by decide +kernel
theorem dX9_cut_37 : decode cX9_cut 37 = .ok (.lload_n 1, 1) := by decide +kernel
theorem dX9_cut_38 : decode cX9_cut 38 = .ok (.l2i, 1) := by decide +kernel
theorem dX9_cut_39 : decode cX9_cut 39 = .ok (.i2s, 1) := by decide +kernel
theorem dX9_cut_40 : decode cX9_cut 40 = .ok (.i2l, 1) := by decide +kernel
theorem dX9_cut_41 : decode cX9_cut 41 = .ok (.lreturn, 1) := by decide +kernel
theorem dX9_cut_42 : decode cX9_cut 42 = .ok (.lload_n 1, 1) := by decide +kernel
theorem dX9_cut_43 : decode cX9_cut 43 = .ok (.l2i, 1) := by decide +kernel
theorem dX9_cut_44 : decode cX9_cut 44 = .ok (.i2l, 1) := by decide +kernel
theorem dX9_cut_45 : decode cX9_cut 45 = .ok (.lreturn, 1) := by decide +kernel
theorem dX9_cut_46 : decode cX9_cut 46 = .ok (.lload_n 1, 1) := by decide +kernel
theorem dX9_cut_47 : decode cX9_cut 47 = .ok (.lreturn, 1) := by decide +kernel
noncomputable def Ty_cut (σ : St) (a0 : Nat) (p1 : Int64) : Option Int64 :=
  if (σ.1 a0 1) = 0 then (some p1.toInt32.toInt8.toInt32.toInt64) else if (σ.1 a0 1) = 1 then (some p1.toInt32.toInt16.toInt32.toInt64) else if (σ.1 a0 1) = 2 then (some p1.toInt32.toInt64) else (some p1)
set_option maxRecDepth 100000 in
set_option maxHeartbeats 4000000 in
theorem tm_Ty_cut {V : Ev} {Γ : Cn} {fin : Option Value × St} {σ : St} {a0 : Nat} {p1 : Int64} {o : Int64} (X : Cx V Γ M_X9_cut) {A : Int64 → Prop} (k0 : okTy a0) (hr : ∀ (r : Int64), A r → (some (.long r), σ) = fin) (h : Ty_cut σ a0 p1 = some o) (hA : A o) : Go V Γ M_X9_cut (Zm V Γ 0 fin) 0 [(0, .ref (V.2.2.1 + a0)), (1, .long p1)] [] σ := by
  unfold Ty_cut at h
  refine g_aload_n (pc := 0) X 0 rfl dX9_cut_0 ?_
  refine g_getI (pc := 1) X k_fl_X9_15 (sTy_0 k0) rfl dX9_cut_1 ?_
  by_cases c1 : (σ.1 a0 1) = 0
  · replace h := if_t c1 h
    refine g_tabIn (pc := 4) (tgt := 32) X c1 dX9_cut_4 (by decide) (by decide) rfl rfl ?_
    refine g_lload_n (pc := 32) X 1 rfl dX9_cut_32 ?_
    refine g_l2i (pc := 33) X dX9_cut_33 ?_
    refine g_i2b (pc := 34) X dX9_cut_34 ?_
    refine g_i2l (pc := 35) X dX9_cut_35 ?_
    cases h
    exact g_lret (pc := 36) X rfl (hr _ hA) dX9_cut_36
  replace h := if_f c1 h
  by_cases c2 : (σ.1 a0 1) = 1
  · replace h := if_t c2 h
    refine g_tabIn (pc := 4) (tgt := 37) X c2 dX9_cut_4 (by decide) (by decide) rfl rfl ?_
    refine g_lload_n (pc := 37) X 1 rfl dX9_cut_37 ?_
    refine g_l2i (pc := 38) X dX9_cut_38 ?_
    refine g_i2s (pc := 39) X dX9_cut_39 ?_
    refine g_i2l (pc := 40) X dX9_cut_40 ?_
    cases h
    exact g_lret (pc := 41) X rfl (hr _ hA) dX9_cut_41
  replace h := if_f c2 h
  by_cases c3 : (σ.1 a0 1) = 2
  · replace h := if_t c3 h
    refine g_tabIn (pc := 4) (tgt := 42) X c3 dX9_cut_4 (by decide) (by decide) rfl rfl ?_
    refine g_lload_n (pc := 42) X 1 rfl dX9_cut_42 ?_
    refine g_l2i (pc := 43) X dX9_cut_43 ?_
    refine g_i2l (pc := 44) X dX9_cut_44 ?_
    cases h
    exact g_lret (pc := 45) X rfl (hr _ hA) dX9_cut_45
  replace h := if_f c3 h
  refine g_tabOut (pc := 4) (tgt := 46) X dX9_cut_4 (by have qc1 := lv_neT (k := 0) (a := 0) c1 rfl; have qc2 := lv_neT (k := 1) (a := 1) c2 rfl; have qc3 := lv_neT (k := 2) (a := 2) c3 rfl; omega) rfl ?_
  refine g_lload_n (pc := 46) X 1 rfl dX9_cut_46 ?_
  cases h
  exact g_lret (pc := 47) X rfl (hr _ hA) dX9_cut_47
set_option maxRecDepth 100000 in
theorem run_Ty_cut {V : Ev} {σ : St} {a0 : Nat} {p1 : Int64} {o : Int64} (k0 : okTy a0)  (h : Ty_cut σ a0 p1 = some o) : Rs V 0 M_X9_cut [.ref (V.2.2.1 + a0), .long p1] σ (some (.long o), σ) := by
  refine Rs.of (by decide +kernel) (Nat.le_of_ble_eq_true rfl) (fun Γ X => ?_)
  exact tm_Ty_cut X (A := fun o1 => o1 = o) k0 (fun _ e => by rw [e]) h rfl
theorem dX9_put_0 : decode cX9_put 0 = .ok (.aload_n 0, 1) := by decide +kernel
theorem dX9_put_1 : decode cX9_put 1 = .ok (.iload_n 1, 1) := by decide +kernel
theorem dX9_put_2 : decode cX9_put 2 = .ok (.iconst 1, 1) := by decide +kernel
theorem dX9_put_3 : decode cX9_put 3 = .ok (.invokevirtual 28, 3) := by decide +kernel
theorem dX9_put_6 : decode cX9_put 6 = .ok (.ifCond .eq 14, 3) := by decide +kernel
theorem dX9_put_9 : decode cX9_put 9 = .ok (.aload_n 0, 1) := by decide +kernel
theorem dX9_put_10 : decode cX9_put 10 = .ok (.getfield 9, 3) := by decide +kernel
theorem dX9_put_13 : decode cX9_put 13 = .ok (.iload_n 1, 1) := by decide +kernel
theorem dX9_put_14 : decode cX9_put 14 = .ok (.aload_n 0, 1) := by decide +kernel
theorem dX9_put_15 : decode cX9_put 15 = .ok (.lload_n 2, 1) := by decide +kernel
theorem dX9_put_16 : decode cX9_put 16 = .ok (.invokevirtual 34, 3) := by decide +kernel
theorem dX9_put_19 : decode cX9_put 19 = .ok (.lastore, 1) := by decide +kernel
theorem dX9_put_20 : decode cX9_put 20 = .ok (.return_, 1) := by decide +kernel
noncomputable def Ty_put (σ : St) (a0 : Nat) (p1 : Int32) (p2 : Int64) : Option St :=
  bd (Ty_holds σ a0 p1 1) (fun r2 => if r2 = 0 then (some σ) else (bd (Ty_cut σ a0 p2) (fun r4 => chk (ix p1 60) (bnd (wL σ (a0 + 1) (tn p1) r4) (fun σ6 => some σ6)))))
set_option maxRecDepth 100000 in
set_option maxHeartbeats 4000000 in
theorem tm_Ty_put {V : Ev} {Γ : Cn} {fin : Option Value × St} {σ : St} {a0 : Nat} {p1 : Int32} {p2 : Int64} {o : St} (X : Cx V Γ M_X9_put) {A : St → Prop} (k0 : okTy a0) (hr : ∀ (σ9 : St), A σ9 → (none, σ9) = fin) (h : Ty_put σ a0 p1 p2 = some o) (hA : A o) : Go V Γ M_X9_put (Zm V Γ 1 fin) 0 [(0, .ref (V.2.2.1 + a0)), (1, .int p1), (2, .long p2)] [] σ := by
  unfold Ty_put at h
  refine g_aload_n (pc := 0) X 0 rfl dX9_put_0 ?_
  refine g_iload_n (pc := 1) X 1 rfl dX9_put_1 ?_
  refine g_iconst (v := 1) (pc := 2) X rfl dX9_put_2 ?_
  obtain ⟨r2, hc1, h⟩ := bd_e h
  refine g_callV (pc := 3) X k_ml_X9_28 (run_Ty_holds k0 hc1) (sTy_0 k0) rfl (room_ok (Nat.le_of_ble_eq_true rfl) (Nat.le_of_ble_eq_true rfl)) ⟨Nat.le_refl _, Nat.le_refl _⟩ _ rfl (Nat.le_of_ble_eq_true rfl) dX9_put_3 ?_
  show Go V Γ M_X9_put (Zm V Γ 1 fin) 6 [(0, .ref (V.2.2.1 + a0)), (1, .int p1), (2, .long p2)] [.int r2] σ
  refine g_if_eq (pc := 6) (tgt := 20) X dX9_put_6 rfl (fun c7 => ?_) (fun c7 => ?_)
  · replace h := if_t c7 h
    cases h
    exact g_vret (pc := 20) X rfl (hr _ hA) dX9_put_20
  · replace h := if_f c7 h
    refine g_aload_n (pc := 9) X 0 rfl dX9_put_9 ?_
    refine g_getR (r := (a0 + 1)) (pc := 10) X k_fl_X9_9 (sTy_0 k0) rfl dX9_put_10 ?_
    refine g_iload_n (pc := 13) X 1 rfl dX9_put_13 ?_
    refine g_aload_n (pc := 14) X 0 rfl dX9_put_14 ?_
    refine g_lload_n (pc := 15) X 2 rfl dX9_put_15 ?_
    obtain ⟨r4, hc3, h⟩ := bd_e h
    refine g_callV (pc := 16) X k_ml_X9_34 (run_Ty_cut k0 hc3) (sTy_0 k0) rfl (room_ok (Nat.le_of_ble_eq_true rfl) (Nat.le_of_ble_eq_true rfl)) ⟨Nat.le_refl _, Nat.le_refl _⟩ _ rfl (Nat.le_of_ble_eq_true rfl) dX9_put_16 ?_
    show Go V Γ M_X9_put (Zm V Γ 1 fin) 19 [(0, .ref (V.2.2.1 + a0)), (1, .int p1), (2, .long p2)] [.long r4, .int p1, .ref (V.2.2.1 + (a0 + 1))] σ
    obtain ⟨c5, h⟩ := chk_e h
    refine g_last (pc := 19) X (sTy_1 k0) c5 dX9_put_19 ?_
    obtain ⟨σ6, e_σ6, h⟩ := bnd_e h
    refine g_nmS e_σ6 ?_
    cases h
    exact g_vret (pc := 20) X rfl (hr _ hA) dX9_put_20
set_option maxRecDepth 100000 in
theorem run_Ty_put {V : Ev} {σ : St} {a0 : Nat} {p1 : Int32} {p2 : Int64} {o : St} (k0 : okTy a0)  (h : Ty_put σ a0 p1 p2 = some o) : Rs V 1 M_X9_put [.ref (V.2.2.1 + a0), .int p1, .long p2] σ (none, o) := by
  refine Rs.of (by decide +kernel) (Nat.le_of_ble_eq_true rfl) (fun Γ X => ?_)
  exact tm_Ty_put X (A := fun o1 => o1 = o) k0 (fun _ e => by rw [e]) h rfl
theorem dX11_leastPrimeOf_0 : decode cX11_leastPrimeOf 0 = .ok (.iconst 2, 1) := by decide +kernel
theorem dX11_leastPrimeOf_1 : decode cX11_leastPrimeOf 1 = .ok (.istore_n 1, 1) := by decide +kernel
theorem dX11_leastPrimeOf_2 : decode cX11_leastPrimeOf 2 = .ok (.iload_n 1, 1) := by decide +kernel
theorem dX11_leastPrimeOf_3 : decode cX11_leastPrimeOf 3 = .ok (.iload_n 1, 1) := by decide +kernel
theorem dX11_leastPrimeOf_4 : decode cX11_leastPrimeOf 4 = .ok (.imul, 1) := by decide +kernel
theorem dX11_leastPrimeOf_5 : decode cX11_leastPrimeOf 5 = .ok (.iload_n 0, 1) := by decide +kernel
theorem dX11_leastPrimeOf_6 : decode cX11_leastPrimeOf 6 = .ok (.if_icmp .gt 19, 3) := by decide +kernel
theorem dX11_leastPrimeOf_9 : decode cX11_leastPrimeOf 9 = .ok (.iload_n 0, 1) := by decide +kernel
theorem dX11_leastPrimeOf_10 : decode cX11_leastPrimeOf 10 = .ok (.iload_n 1, 1) := by decide +kernel
theorem dX11_leastPrimeOf_11 : decode cX11_leastPrimeOf 11 = .ok (.invokestatic 270, 3) := by decide +kernel
theorem dX11_leastPrimeOf_14 : decode cX11_leastPrimeOf 14 = .ok (.ifCond .ne 5, 3) := by decide +kernel
theorem dX11_leastPrimeOf_17 : decode cX11_leastPrimeOf 17 = .ok (.iload_n 1, 1) := by decide +kernel
theorem dX11_leastPrimeOf_18 : decode cX11_leastPrimeOf 18 = .ok (.ireturn, 1) := by decide +kernel
theorem dX11_leastPrimeOf_19 : decode cX11_leastPrimeOf 19 = .ok (.iinc 1 1, 3) := by decide +kernel
theorem dX11_leastPrimeOf_22 : decode cX11_leastPrimeOf 22 = .ok (.goto (-20), 3) := by decide +kernel
theorem dX11_leastPrimeOf_25 : decode cX11_leastPrimeOf 25 = .ok (.iload_n 0, 1) := by decide +kernel
theorem dX11_leastPrimeOf_26 : decode cX11_leastPrimeOf 26 = .ok (.ireturn, 1) := by decide +kernel
noncomputable def RC_leastPrimeOf_L2 (l0 : Int32) (x1 : Int32) : Option (Int32 ⊕ Int32) :=
  if l0 < (x1 * x1) then (some (.inr l0)) else (bd (RC_leftBy l0 x1) (fun r2 => if r2 = 0 then (some (.inr x1)) else (bnd (x1 + 1) (fun v3 => some (.inl v3)))))
set_option maxRecDepth 100000 in
set_option maxHeartbeats 4000000 in
theorem tb_RC_leastPrimeOf_L2 {V : Ev} {Γ : Cn} {fin : Option Value × St} {σ : St} {l0 : Int32} {x1 : Int32} {o : (Int32 ⊕ Int32)} (X : Cx V Γ M_X11_leastPrimeOf) {A : (Int32 ⊕ Int32) → Prop}  (hr : ∀ (r : Int32), A (.inr r) → (some (.int r), σ) = fin) (hb2 : ∀ (x1 : Int32), A (.inl x1) → Go V Γ M_X11_leastPrimeOf (Zm V Γ 1 fin) 2 [(0, .int l0), (1, .int x1)] [] σ) (h : RC_leastPrimeOf_L2 l0 x1 = some o) (hA : A o) : Go V Γ M_X11_leastPrimeOf (Zm V Γ 1 fin) 2 [(0, .int l0), (1, .int x1)] [] σ := by
  unfold RC_leastPrimeOf_L2 at h
  refine g_iload_n (pc := 2) X 1 rfl dX11_leastPrimeOf_2 ?_
  refine g_iload_n (pc := 3) X 1 rfl dX11_leastPrimeOf_3 ?_
  refine g_imul (pc := 4) X dX11_leastPrimeOf_4 ?_
  refine g_iload_n (pc := 5) X 0 rfl dX11_leastPrimeOf_5 ?_
  refine g_icmp_gt (pc := 6) (tgt := 25) X dX11_leastPrimeOf_6 rfl (fun c5 => ?_) (fun c5 => ?_)
  · replace h := if_t c5 h
    refine g_iload_n (pc := 25) X 0 rfl dX11_leastPrimeOf_25 ?_
    cases h
    exact g_iret (pc := 26) X rfl rfl (hr _ hA) dX11_leastPrimeOf_26
  · replace h := if_f c5 h
    refine g_iload_n (pc := 9) X 0 rfl dX11_leastPrimeOf_9 ?_
    refine g_iload_n (pc := 10) X 1 rfl dX11_leastPrimeOf_10 ?_
    obtain ⟨r2, hc1, h⟩ := bd_e h
    refine g_callS (pc := 11) X k_ml_X11_270 (run_RC_leftBy  hc1) rfl (room_ok (Nat.le_of_ble_eq_true rfl) (Nat.le_of_ble_eq_true rfl)) ⟨Nat.le_refl _, Nat.le_refl _⟩ _ rfl (Nat.le_of_ble_eq_true rfl) dX11_leastPrimeOf_11 ?_
    show Go V Γ M_X11_leastPrimeOf (Zm V Γ 1 fin) 14 [(0, .int l0), (1, .int x1)] [.int r2] σ
    refine g_if_ne (pc := 14) (tgt := 19) X dX11_leastPrimeOf_14 rfl (fun c4 => ?_) (fun c4 => ?_)
    · replace h := if_f c4 h
      obtain ⟨v3, e_v3, h⟩ := bnd_e h
      refine g_iinc (pc := 19) (v := v3) X [(1, .int v3), (0, .int l0)] 1 rfl (by rw [e_v3]; rfl) (Nat.le_of_ble_eq_true rfl) rfl dX11_leastPrimeOf_19 ?_
      refine g_goto (pc := 22) (tgt := 2) X dX11_leastPrimeOf_22 rfl ?_
      refine g_sub [1, 0] rfl ?_
      cases h
      exact hb2 _ hA
    · replace h := if_t c4 h
      refine g_iload_n (pc := 17) X 1 rfl dX11_leastPrimeOf_17 ?_
      cases h
      exact g_iret (pc := 18) X rfl rfl (hr _ hA) dX11_leastPrimeOf_18
set_option maxRecDepth 100000 in
theorem tl_RC_leastPrimeOf_L2 {V : Ev} {Γ : Cn} {fin : Option Value × St} {l0 : Int32} {σ : St} {x1 : Int32} (X : Cx V Γ M_X11_leastPrimeOf)  {e : Int32} {A : Int32 → Prop} (hr : ∀ (r : Int32), A r → (some (.int r), σ) = fin) {n : Nat} (h : iter (fun s : Int32 => RC_leastPrimeOf_L2 l0 s) n x1 = some e) (hA : A e) : Go V Γ M_X11_leastPrimeOf (Zm V Γ 1 fin) 2 [(0, .int l0), (1, .int x1)] [] σ := by
  refine iter_go (G := (fun s : Int32 => Go V Γ M_X11_leastPrimeOf (Zm V Γ 1 fin) 2 [(0, .int l0), (1, .int s)] [] σ)) (fun s o ho hS => ?_) n x1 h
  exact tb_RC_leastPrimeOf_L2 X  (fun z0 he => hr z0 (by rw [he]; exact hA)) (fun _ h9 => h9) ho hS
noncomputable def RC_leastPrimeOf (p0 : Int32) : Option Int32 :=
  iter (fun s : Int32 => RC_leastPrimeOf_L2 p0 s) FUEL 2
set_option maxRecDepth 100000 in
set_option maxHeartbeats 4000000 in
theorem tm_RC_leastPrimeOf {V : Ev} {Γ : Cn} {fin : Option Value × St} {σ : St} {p0 : Int32} {o : Int32} (X : Cx V Γ M_X11_leastPrimeOf) {A : Int32 → Prop}  (hr : ∀ (r : Int32), A r → (some (.int r), σ) = fin) (h : RC_leastPrimeOf p0 = some o) (hA : A o) : Go V Γ M_X11_leastPrimeOf (Zm V Γ 1 fin) 0 [(0, .int p0)] [] σ := by
  unfold RC_leastPrimeOf at h
  refine g_iconst (v := 2) (pc := 0) X rfl dX11_leastPrimeOf_0 ?_
  refine g_istore_n (pc := 1) X [(1, .int 2), (0, .int p0)] rfl (Nat.le_of_ble_eq_true rfl) rfl dX11_leastPrimeOf_1 ?_
  refine g_sub [1, 0] rfl ?_
  exact tl_RC_leastPrimeOf_L2 X  hr h hA
set_option maxRecDepth 100000 in
theorem run_RC_leastPrimeOf {V : Ev} {σ : St} {p0 : Int32} {o : Int32}   (h : RC_leastPrimeOf p0 = some o) : Rs V 1 M_X11_leastPrimeOf [.int p0] σ (some (.int o), σ) := by
  refine Rs.of (by decide +kernel) (Nat.le_of_ble_eq_true rfl) (fun Γ X => ?_)
  exact tm_RC_leastPrimeOf X (A := fun o1 => o1 = o)  (fun _ e => by rw [e]) h rfl
theorem dX10_visit_0 : decode cX10_visit 0 = .ok (.aload_n 0, 1) := by decide +kernel
theorem dX10_visit_1 : decode cX10_visit 1 = .ok (.dup, 1) := by decide +kernel
theorem dX10_visit_2 : decode cX10_visit 2 = .ok (.getfield 16, 3) := by decide +kernel
theorem dX10_visit_5 : decode cX10_visit 5 = .ok (.iconst 1, 1) := by decide +kernel
theorem dX10_visit_6 : decode cX10_visit 6 = .ok (.iadd, 1) := by decide +kernel
theorem dX10_visit_7 : decode cX10_visit 7 = .ok (.putfield 16, 3) := by decide +kernel
theorem dX10_visit_10 : decode cX10_visit 10 = .ok (.aload_n 0, 1) := by decide +kernel
theorem dX10_visit_11 : decode cX10_visit 11 = .ok (.aload_n 0, 1) := by decide +kernel
theorem dX10_visit_12 : decode cX10_visit 12 = .ok (.getfield 19, 3) := by decide +kernel
theorem dX10_visit_15 : decode cX10_visit 15 = .ok (.iload 4, 2) := by decide +kernel
theorem dX10_visit_17 : decode cX10_visit 17 = .ok (.invokestatic 31, 3) := by decide +kernel
theorem dX10_visit_20 : decode cX10_visit 20 = .ok (.putfield 19, 3) := by decide +kernel
theorem dX10_visit_23 : decode cX10_visit 23 = .ok (.aload_n 1, 1) := by decide +kernel
theorem dX10_visit_24 : decode cX10_visit 24 = .ok (.iload_n 2, 1) := by decide +kernel
theorem dX10_visit_25 : decode cX10_visit 25 = .ok (.iload_n 3, 1) := by decide +kernel
theorem dX10_visit_26 : decode cX10_visit 26 = .ok (.iload 4, 2) := by decide +kernel
theorem dX10_visit_28 : decode cX10_visit 28 = .ok (.invokevirtual 37, 3) := by decide +kernel
theorem dX10_visit_31 : decode cX10_visit 31 = .ok (.istore 7, 2) := by decide +kernel
theorem dX10_visit_33 : decode cX10_visit 33 = .ok (.iload 7, 2) := by decide +kernel
theorem dX10_visit_35 : decode cX10_visit 35 = .ok (.ifCond .ne 16, 3) := by decide +kernel
theorem dX10_visit_38 : decode cX10_visit 38 = .ok (.aload_n 0, 1) := by decide +kernel
theorem dX10_visit_39 : decode cX10_visit 39 = .ok (.dup, 1) := by decide +kernel
theorem dX10_visit_40 : decode cX10_visit 40 = .ok (.getfield 13, 3) := by decide +kernel
theorem dX10_visit_43 : decode cX10_visit 43 = .ok (.iconst 1, 1) := by decide +kernel
theorem dX10_visit_44 : decode cX10_visit 44 = .ok (.iadd, 1) := by decide +kernel
theorem dX10_visit_45 : decode cX10_visit 45 = .ok (.putfield 13, 3) := by decide +kernel
theorem dX10_visit_48 : decode cX10_visit 48 = .ok (.goto 87, 3) := by decide +kernel
theorem dX10_visit_51 : decode cX10_visit 51 = .ok (.aload_n 1, 1) := by decide +kernel
theorem dX10_visit_52 : decode cX10_visit 52 = .ok (.iload 7, 2) := by decide +kernel
theorem dX10_visit_54 : decode cX10_visit 54 = .ok (.iload 4, 2) := by decide +kernel
theorem dX10_visit_56 : decode cX10_visit 56 = .ok (.invokevirtual 41, 3) := by decide +kernel
theorem dX10_visit_59 : decode cX10_visit 59 = .ok (.ifCond .eq 16, 3) := by decide +kernel
theorem dX10_visit_62 : decode cX10_visit 62 = .ok (.aload_n 0, 1) := by decide +kernel
theorem dX10_visit_63 : decode cX10_visit 63 = .ok (.dup, 1) := by decide +kernel
theorem dX10_visit_64 : decode cX10_visit 64 = .ok (.getfield 7, 3) := by decide +kernel
theorem dX10_visit_67 : decode cX10_visit 67 = .ok (.iconst 1, 1) := by decide +kernel
theorem dX10_visit_68 : decode cX10_visit 68 = .ok (.iadd, 1) := by decide +kernel
theorem dX10_visit_69 : decode cX10_visit 69 = .ok (.putfield 7, 3) := by decide +kernel
theorem dX10_visit_72 : decode cX10_visit 72 = .ok (.goto 63, 3) := by decide +kernel
theorem dX10_visit_75 : decode cX10_visit 75 = .ok (.iload 6, 2) := by decide +kernel
theorem dX10_visit_77 : decode cX10_visit 77 = .ok (.bipush 40, 2) := by decide +kernel
theorem dX10_visit_79 : decode cX10_visit 79 = .ok (.if_icmp .ge 56, 3) := by decide +kernel
theorem dX10_visit_82 : decode cX10_visit 82 = .ok (.iload 5, 2) := by decide +kernel
theorem dX10_visit_84 : decode cX10_visit 84 = .ok (.iload 4, 2) := by decide +kernel
theorem dX10_visit_86 : decode cX10_visit 86 = .ok (.invokestatic 45, 3) := by decide +kernel
theorem dX10_visit_89 : decode cX10_visit 89 = .ok (.invokestatic 50, 3) := by decide +kernel
theorem dX10_visit_92 : decode cX10_visit 92 = .ok (.istore 8, 2) := by decide +kernel
theorem dX10_visit_94 : decode cX10_visit 94 = .ok (.iconst 0, 1) := by decide +kernel
theorem dX10_visit_95 : decode cX10_visit 95 = .ok (.istore 9, 2) := by decide +kernel
theorem dX10_visit_97 : decode cX10_visit 97 = .ok (.iload 9, 2) := by decide +kernel
theorem dX10_visit_99 : decode cX10_visit 99 = .ok (.iload 8, 2) := by decide +kernel
theorem dX10_visit_101 : decode cX10_visit 101 = .ok (.if_icmp .ge 34, 3) := by decide +kernel
theorem dX10_visit_104 : decode cX10_visit 104 = .ok (.aload_n 0, 1) := by decide +kernel
theorem dX10_visit_105 : decode cX10_visit 105 = .ok (.aload_n 1, 1) := by decide +kernel
theorem dX10_visit_106 : decode cX10_visit 106 = .ok (.iload 7, 2) := by decide +kernel
theorem dX10_visit_108 : decode cX10_visit 108 = .ok (.iload_n 3, 1) := by decide +kernel
theorem dX10_visit_109 : decode cX10_visit 109 = .ok (.iload 9, 2) := by decide +kernel
theorem dX10_visit_111 : decode cX10_visit 111 = .ok (.iload 4, 2) := by decide +kernel
theorem dX10_visit_113 : decode cX10_visit 113 = .ok (.imul, 1) := by decide +kernel
theorem dX10_visit_114 : decode cX10_visit 114 = .ok (.iadd, 1) := by decide +kernel
theorem dX10_visit_115 : decode cX10_visit 115 = .ok (.iload 4, 2) := by decide +kernel
theorem dX10_visit_117 : decode cX10_visit 117 = .ok (.iload 8, 2) := by decide +kernel
theorem dX10_visit_119 : decode cX10_visit 119 = .ok (.imul, 1) := by decide +kernel
theorem dX10_visit_120 : decode cX10_visit 120 = .ok (.iload 5, 2) := by decide +kernel
theorem dX10_visit_122 : decode cX10_visit 122 = .ok (.iload 6, 2) := by decide +kernel
theorem dX10_visit_124 : decode cX10_visit 124 = .ok (.iconst 1, 1) := by decide +kernel
theorem dX10_visit_125 : decode cX10_visit 125 = .ok (.iadd, 1) := by decide +kernel
theorem dX10_visit_126 : decode cX10_visit 126 = .ok (.invokestatic 27, 3) := by decide +kernel
theorem dX10_visit_129 : decode cX10_visit 129 = .ok (.iinc 9 1, 3) := by decide +kernel
theorem dX10_visit_132 : decode cX10_visit 132 = .ok (.goto (-35), 3) := by decide +kernel
theorem dX10_visit_135 : decode cX10_visit 135 = .ok (.return_, 1) := by decide +kernel
noncomputable def Tr_visit_L97 (rec : St → Nat → Int32 → Int32 → Int32 → Int32 → Int32 → Option St) (l1 : Nat) (l3 : Int32) (l4 : Int32) (l5 : Int32) (l6 : Int32) (l7 : Int32) (l8 : Int32) (σ : St) (x9 : Int32) : Option ((Int32 × St) ⊕ St) :=
  if l8 ≤ x9 then (some (.inr σ)) else (bd (rec σ l1 l7 (l3 + (x9 * l4)) (l4 * l8) l5 (l6 + 1)) (fun σ12 => bnd (x9 + 1) (fun v13 => some (.inl (v13, σ12)))))
set_option maxRecDepth 100000 in
set_option maxHeartbeats 4000000 in
theorem tb_Tr_visit_L97 {V : Ev} {Γ : Cn} {rec : St → Nat → Int32 → Int32 → Int32 → Int32 → Int32 → Option St} {dr : Nat} {fin : Option Value × St} {l1 : Nat} {l3 : Int32} {l4 : Int32} {l5 : Int32} {l6 : Int32} {l7 : Int32} {l8 : Int32} {σ : St} {x9 : Int32} {o : ((Int32 × St) ⊕ St)} (X : Cx V Γ M_X10_visit) (hdr : 3 ≤ dr) (hrec : ∀ {σ0 : St} {a1' : Nat} {p2' : Int32} {p3' : Int32} {p4' : Int32} {p5' : Int32} {p6' : Int32} {o : St} (k1' : okCl a1'), rec σ0 a1' p2' p3' p4' p5' p6' = some o → Rs V dr M_X10_visit [.ref (V.2.2.1 + 35), .ref (V.2.2.1 + a1'), .int p2', .int p3', .int p4', .int p5', .int p6'] σ0 (none, o)) {A : ((Int32 × St) ⊕ St) → Prop} (k_l1 : okCl l1) (hb97 : ∀ (x9 : Int32) (σ9 : St), A (.inl (x9, σ9)) → Go V Γ M_X10_visit (Zm V Γ (dr + 1) fin) 97 [(0, .ref (V.2.2.1 + 35)), (1, .ref (V.2.2.1 + l1)), (3, .int l3), (4, .int l4), (5, .int l5), (6, .int l6), (7, .int l7), (8, .int l8), (9, .int x9)] [] σ9) (hx97 : ∀ (σ9 : St), A (.inr σ9) → Go V Γ M_X10_visit (Zm V Γ (dr + 1) fin) 135 [] [] σ9) (h : Tr_visit_L97 rec l1 l3 l4 l5 l6 l7 l8 σ x9 = some o) (hA : A o) : Go V Γ M_X10_visit (Zm V Γ (dr + 1) fin) 97 [(0, .ref (V.2.2.1 + 35)), (1, .ref (V.2.2.1 + l1)), (3, .int l3), (4, .int l4), (5, .int l5), (6, .int l6), (7, .int l7), (8, .int l8), (9, .int x9)] [] σ := by
  unfold Tr_visit_L97 at h
  refine g_iload (pc := 97) X 8 rfl dX10_visit_97 ?_
  refine g_iload (pc := 99) X 7 rfl dX10_visit_99 ?_
  refine g_icmp_ge (pc := 101) (tgt := 135) X dX10_visit_101 rfl (fun c14 => ?_) (fun c14 => ?_)
  · replace h := if_t c14 h
    refine g_sub [] rfl ?_
    cases h
    exact hx97 _ hA
  · replace h := if_f c14 h
    refine g_aload_n (pc := 104) X 0 rfl dX10_visit_104 ?_
    refine g_aload_n (pc := 105) X 1 rfl dX10_visit_105 ?_
    refine g_iload (pc := 106) X 6 rfl dX10_visit_106 ?_
    refine g_iload_n (pc := 108) X 2 rfl dX10_visit_108 ?_
    refine g_iload (pc := 109) X 8 rfl dX10_visit_109 ?_
    refine g_iload (pc := 111) X 3 rfl dX10_visit_111 ?_
    refine g_imul (pc := 113) X dX10_visit_113 ?_
    refine g_iadd (pc := 114) X dX10_visit_114 ?_
    refine g_iload (pc := 115) X 3 rfl dX10_visit_115 ?_
    refine g_iload (pc := 117) X 7 rfl dX10_visit_117 ?_
    refine g_imul (pc := 119) X dX10_visit_119 ?_
    refine g_iload (pc := 120) X 4 rfl dX10_visit_120 ?_
    refine g_iload (pc := 122) X 5 rfl dX10_visit_122 ?_
    refine g_iconst (v := 1) (pc := 124) X rfl dX10_visit_124 ?_
    refine g_iadd (pc := 125) X dX10_visit_125 ?_
    obtain ⟨σ12, hc11, h⟩ := bd_e h
    refine g_callS (pc := 126) X k_ml_X10_27 (hrec k_l1 hc11) rfl (room_ok (Nat.le_refl _) (Nat.le_of_ble_eq_true rfl)) ⟨Nat.le_refl _, Nat.le_refl _⟩ _ rfl (Nat.le_of_ble_eq_true rfl) dX10_visit_126 ?_
    show Go V Γ M_X10_visit (Zm V Γ (dr + 1) fin) 129 [(0, .ref (V.2.2.1 + 35)), (1, .ref (V.2.2.1 + l1)), (3, .int l3), (4, .int l4), (5, .int l5), (6, .int l6), (7, .int l7), (8, .int l8), (9, .int x9)] [] σ12
    obtain ⟨v13, e_v13, h⟩ := bnd_e h
    refine g_iinc (pc := 129) (v := v13) X [(9, .int v13), (0, .ref (V.2.2.1 + 35)), (1, .ref (V.2.2.1 + l1)), (3, .int l3), (4, .int l4), (5, .int l5), (6, .int l6), (7, .int l7), (8, .int l8)] 8 rfl (by rw [e_v13]; rfl) (Nat.le_of_ble_eq_true rfl) rfl dX10_visit_129 ?_
    refine g_goto (pc := 132) (tgt := 97) X dX10_visit_132 rfl ?_
    refine g_sub [1, 2, 3, 4, 5, 6, 7, 8, 0] rfl ?_
    cases h
    exact hb97 _ _ hA
set_option maxRecDepth 100000 in
theorem tl_Tr_visit_L97 {V : Ev} {Γ : Cn} {rec : St → Nat → Int32 → Int32 → Int32 → Int32 → Int32 → Option St} {dr : Nat} {fin : Option Value × St} {l1 : Nat} {l3 : Int32} {l4 : Int32} {l5 : Int32} {l6 : Int32} {l7 : Int32} {l8 : Int32} {x9 : Int32} {σ9 : St} (X : Cx V Γ M_X10_visit) (hdr : 3 ≤ dr) (hrec : ∀ {σ0 : St} {a1' : Nat} {p2' : Int32} {p3' : Int32} {p4' : Int32} {p5' : Int32} {p6' : Int32} {o : St} (k1' : okCl a1'), rec σ0 a1' p2' p3' p4' p5' p6' = some o → Rs V dr M_X10_visit [.ref (V.2.2.1 + 35), .ref (V.2.2.1 + a1'), .int p2', .int p3', .int p4', .int p5', .int p6'] σ0 (none, o)) (k_l1 : okCl l1) {σ8 : St} {n : Nat} (h : iter (fun s : (Int32 × St) => Tr_visit_L97 rec l1 l3 l4 l5 l6 l7 l8 s.2 s.1) n (x9, σ9) = some σ8) (hK : Go V Γ M_X10_visit (Zm V Γ (dr + 1) fin) 135 [] [] σ8) : Go V Γ M_X10_visit (Zm V Γ (dr + 1) fin) 97 [(0, .ref (V.2.2.1 + 35)), (1, .ref (V.2.2.1 + l1)), (3, .int l3), (4, .int l4), (5, .int l5), (6, .int l6), (7, .int l7), (8, .int l8), (9, .int x9)] [] σ9 := by
  refine iter_go (G := (fun s : (Int32 × St) => Go V Γ M_X10_visit (Zm V Γ (dr + 1) fin) 97 [(0, .ref (V.2.2.1 + 35)), (1, .ref (V.2.2.1 + l1)), (3, .int l3), (4, .int l4), (5, .int l5), (6, .int l6), (7, .int l7), (8, .int l8), (9, .int s.1)] [] s.2)) (fun s o ho hS => ?_) n (x9, σ9) h
  exact tb_Tr_visit_L97 X hdr hrec k_l1 (fun _ _ h9 => h9) (fun _ he => by cases he; exact hK) ho hS
noncomputable def Tr_visit_F (rec : St → Nat → Int32 → Int32 → Int32 → Int32 → Int32 → Option St) (σ : St) (a1 : Nat) (p2 : Int32) (p3 : Int32) (p4 : Int32) (p5 : Int32) (p6 : Int32) : Option St :=
  bnd (wI σ 35 2 ((σ.1 35 2) + 1)) (fun σ1 => bnd (wI σ1 35 3 (jmax (σ1.1 35 3) p4)) (fun σ2 => bd (Cl_touching σ2 a1 p2 p3 p4) (fun r4 => if r4 = 0 then (bnd (wI σ2 35 1 ((σ2.1 35 1) + 1)) (fun σ20 => some σ20)) else (bd (Cl_anyModulusDivides σ2 a1 r4 p4) (fun r6 => if r6 = 0 then (if 40 ≤ p6 then (some σ2) else (bd (RC_partBy_ p5 p4) (fun r8 => bd (RC_leastPrimeOf r8) (fun r10 => bd (iter (fun s : (Int32 × St) => Tr_visit_L97 rec a1 p3 p4 p5 p6 r4 r10 s.2 s.1) FUEL (0, σ2)) (fun σ15 => some σ15))))) else (bnd (wI σ2 35 0 ((σ2.1 35 0) + 1)) (fun σ18 => some σ18)))))))
set_option maxRecDepth 100000 in
set_option maxHeartbeats 4000000 in
theorem tm_Tr_visit_F {V : Ev} {Γ : Cn} {rec : St → Nat → Int32 → Int32 → Int32 → Int32 → Int32 → Option St} {dr : Nat} {fin : Option Value × St} {σ : St} {a1 : Nat} {p2 : Int32} {p3 : Int32} {p4 : Int32} {p5 : Int32} {p6 : Int32} {o : St} (X : Cx V Γ M_X10_visit) (hdr : 3 ≤ dr) (hrec : ∀ {σ0 : St} {a1' : Nat} {p2' : Int32} {p3' : Int32} {p4' : Int32} {p5' : Int32} {p6' : Int32} {o : St} (k1' : okCl a1'), rec σ0 a1' p2' p3' p4' p5' p6' = some o → Rs V dr M_X10_visit [.ref (V.2.2.1 + 35), .ref (V.2.2.1 + a1'), .int p2', .int p3', .int p4', .int p5', .int p6'] σ0 (none, o)) {A : St → Prop} (k1 : okCl a1) (hr : ∀ (σ9 : St), A σ9 → (none, σ9) = fin) (h : Tr_visit_F rec σ a1 p2 p3 p4 p5 p6 = some o) (hA : A o) : Go V Γ M_X10_visit (Zm V Γ (dr + 1) fin) 0 [(0, .ref (V.2.2.1 + 35)), (1, .ref (V.2.2.1 + a1)), (2, .int p2), (3, .int p3), (4, .int p4), (5, .int p5), (6, .int p6)] [] σ := by
  unfold Tr_visit_F at h
  refine g_aload_n (pc := 0) X 0 rfl dX10_visit_0 ?_
  refine g_dup (pc := 1) X rfl dX10_visit_1 ?_
  refine g_getI (pc := 2) X k_fl_X10_16 s_35 rfl dX10_visit_2 ?_
  refine g_iconst (v := 1) (pc := 5) X rfl dX10_visit_5 ?_
  refine g_iadd (pc := 6) X dX10_visit_6 ?_
  refine g_putI (pc := 7) X k_fl_X10_16 s_35 rfl rfl rfl dX10_visit_7 ?_
  obtain ⟨σ1, e_σ1, h⟩ := bnd_e h
  refine g_nmS e_σ1 ?_
  refine g_aload_n (pc := 10) X 0 rfl dX10_visit_10 ?_
  refine g_aload_n (pc := 11) X 0 rfl dX10_visit_11 ?_
  refine g_getI (pc := 12) X k_fl_X10_19 s_35 rfl dX10_visit_12 ?_
  refine g_iload (pc := 15) X 4 rfl dX10_visit_15 ?_
  refine g_max (pc := 17) X k_ml_X10_31 (by show 1 ≤ _ + 1; omega) (by show _ ≤ 100 * (_ + 1); simp [Value.category]; omega) (Nat.le_refl _) (Nat.le_refl _) dX10_visit_17 ?_
  refine g_putI (pc := 20) X k_fl_X10_19 s_35 rfl rfl rfl dX10_visit_20 ?_
  obtain ⟨σ2, e_σ2, h⟩ := bnd_e h
  refine g_nmS e_σ2 ?_
  refine g_aload_n (pc := 23) X 1 rfl dX10_visit_23 ?_
  refine g_iload_n (pc := 24) X 2 rfl dX10_visit_24 ?_
  refine g_iload_n (pc := 25) X 3 rfl dX10_visit_25 ?_
  refine g_iload (pc := 26) X 4 rfl dX10_visit_26 ?_
  obtain ⟨r4, hc3, h⟩ := bd_e h
  refine g_callV (pc := 28) X k_ml_X10_37 (run_Cl_touching k1 hc3) (sCl_0 k1) rfl (room_ok (by omega) (Nat.le_of_ble_eq_true rfl)) ⟨Nat.le_refl _, Nat.le_refl _⟩ _ rfl (Nat.le_of_ble_eq_true rfl) dX10_visit_28 ?_
  show Go V Γ M_X10_visit (Zm V Γ (dr + 1) fin) 31 [(0, .ref (V.2.2.1 + 35)), (1, .ref (V.2.2.1 + a1)), (2, .int p2), (3, .int p3), (4, .int p4), (5, .int p5), (6, .int p6)] [.int r4] σ2
  refine g_istore (pc := 31) X [(7, .int r4), (0, .ref (V.2.2.1 + 35)), (1, .ref (V.2.2.1 + a1)), (2, .int p2), (3, .int p3), (4, .int p4), (5, .int p5), (6, .int p6)] (Nat.le_of_ble_eq_true rfl) rfl dX10_visit_31 ?_
  refine g_iload (pc := 33) X 0 rfl dX10_visit_33 ?_
  refine g_if_ne (pc := 35) (tgt := 51) X dX10_visit_35 rfl (fun c21 => ?_) (fun c21 => ?_)
  · replace h := if_f c21 h
    refine g_aload_n (pc := 51) X 2 rfl dX10_visit_51 ?_
    refine g_iload (pc := 52) X 0 rfl dX10_visit_52 ?_
    refine g_iload (pc := 54) X 5 rfl dX10_visit_54 ?_
    obtain ⟨r6, hc5, h⟩ := bd_e h
    refine g_callV (pc := 56) X k_ml_X10_41 (run_Cl_anyModulusDivides k1 hc5) (sCl_0 k1) rfl (room_ok (by omega) (Nat.le_of_ble_eq_true rfl)) ⟨Nat.le_refl _, Nat.le_refl _⟩ _ rfl (Nat.le_of_ble_eq_true rfl) dX10_visit_56 ?_
    show Go V Γ M_X10_visit (Zm V Γ (dr + 1) fin) 59 [(7, .int r4), (0, .ref (V.2.2.1 + 35)), (1, .ref (V.2.2.1 + a1)), (2, .int p2), (3, .int p3), (4, .int p4), (5, .int p5), (6, .int p6)] [.int r6] σ2
    refine g_if_eq (pc := 59) (tgt := 75) X dX10_visit_59 rfl (fun c19 => ?_) (fun c19 => ?_)
    · replace h := if_t c19 h
      refine g_iload (pc := 75) X 7 rfl dX10_visit_75 ?_
      refine g_bipush (v := 40) (pc := 77) X (by decide) dX10_visit_77 ?_
      refine g_icmp_ge (pc := 79) (tgt := 135) X dX10_visit_79 rfl (fun c17 => ?_) (fun c17 => ?_)
      · replace h := if_t c17 h
        cases h
        exact g_vret (pc := 135) X rfl (hr _ hA) dX10_visit_135
      · replace h := if_f c17 h
        refine g_iload (pc := 82) X 6 rfl dX10_visit_82 ?_
        refine g_iload (pc := 84) X 5 rfl dX10_visit_84 ?_
        obtain ⟨r8, hc7, h⟩ := bd_e h
        refine g_callS (pc := 86) X k_ml_X10_45 (run_RC_partBy_  hc7) rfl (room_ok (by omega) (Nat.le_of_ble_eq_true rfl)) ⟨Nat.le_refl _, Nat.le_refl _⟩ _ rfl (Nat.le_of_ble_eq_true rfl) dX10_visit_86 ?_
        show Go V Γ M_X10_visit (Zm V Γ (dr + 1) fin) 89 [(7, .int r4), (0, .ref (V.2.2.1 + 35)), (1, .ref (V.2.2.1 + a1)), (2, .int p2), (3, .int p3), (4, .int p4), (5, .int p5), (6, .int p6)] [.int r8] σ2
        obtain ⟨r10, hc9, h⟩ := bd_e h
        refine g_callS (pc := 89) X k_ml_X10_50 (run_RC_leastPrimeOf  hc9) rfl (room_ok (by omega) (Nat.le_of_ble_eq_true rfl)) ⟨Nat.le_refl _, Nat.le_refl _⟩ _ rfl (Nat.le_of_ble_eq_true rfl) dX10_visit_89 ?_
        show Go V Γ M_X10_visit (Zm V Γ (dr + 1) fin) 92 [(7, .int r4), (0, .ref (V.2.2.1 + 35)), (1, .ref (V.2.2.1 + a1)), (2, .int p2), (3, .int p3), (4, .int p4), (5, .int p5), (6, .int p6)] [.int r10] σ2
        refine g_istore (pc := 92) X [(8, .int r10), (7, .int r4), (0, .ref (V.2.2.1 + 35)), (1, .ref (V.2.2.1 + a1)), (2, .int p2), (3, .int p3), (4, .int p4), (5, .int p5), (6, .int p6)] (Nat.le_of_ble_eq_true rfl) rfl dX10_visit_92 ?_
        refine g_iconst (v := 0) (pc := 94) X rfl dX10_visit_94 ?_
        refine g_istore (pc := 95) X [(9, .int 0), (8, .int r10), (7, .int r4), (0, .ref (V.2.2.1 + 35)), (1, .ref (V.2.2.1 + a1)), (2, .int p2), (3, .int p3), (4, .int p4), (5, .int p5), (6, .int p6)] (Nat.le_of_ble_eq_true rfl) rfl dX10_visit_95 ?_
        refine g_sub [3, 4, 6, 7, 8, 9, 2, 1, 0] rfl ?_
        obtain ⟨σ15, hi16, h⟩ := bd_e h
        refine tl_Tr_visit_L97 X hdr hrec k1 hi16 ?_
        cases h
        exact g_vret (pc := 135) X rfl (hr _ hA) dX10_visit_135
    · replace h := if_f c19 h
      refine g_aload_n (pc := 62) X 1 rfl dX10_visit_62 ?_
      refine g_dup (pc := 63) X rfl dX10_visit_63 ?_
      refine g_getI (pc := 64) X k_fl_X10_7 s_35 rfl dX10_visit_64 ?_
      refine g_iconst (v := 1) (pc := 67) X rfl dX10_visit_67 ?_
      refine g_iadd (pc := 68) X dX10_visit_68 ?_
      refine g_putI (pc := 69) X k_fl_X10_7 s_35 rfl rfl rfl dX10_visit_69 ?_
      obtain ⟨σ18, e_σ18, h⟩ := bnd_e h
      refine g_nmS e_σ18 ?_
      refine g_goto (pc := 72) (tgt := 135) X dX10_visit_72 rfl ?_
      cases h
      exact g_vret (pc := 135) X rfl (hr _ hA) dX10_visit_135
  · replace h := if_t c21 h
    refine g_aload_n (pc := 38) X 1 rfl dX10_visit_38 ?_
    refine g_dup (pc := 39) X rfl dX10_visit_39 ?_
    refine g_getI (pc := 40) X k_fl_X10_13 s_35 rfl dX10_visit_40 ?_
    refine g_iconst (v := 1) (pc := 43) X rfl dX10_visit_43 ?_
    refine g_iadd (pc := 44) X dX10_visit_44 ?_
    refine g_putI (pc := 45) X k_fl_X10_13 s_35 rfl rfl rfl dX10_visit_45 ?_
    obtain ⟨σ20, e_σ20, h⟩ := bnd_e h
    refine g_nmS e_σ20 ?_
    refine g_goto (pc := 48) (tgt := 135) X dX10_visit_48 rfl ?_
    cases h
    exact g_vret (pc := 135) X rfl (hr _ hA) dX10_visit_135
set_option maxRecDepth 100000 in
theorem run_Tr_visit_F {V : Ev} {rec : St → Nat → Int32 → Int32 → Int32 → Int32 → Int32 → Option St} {dr : Nat} (hdr : 3 ≤ dr) {σ : St} {a1 : Nat} {p2 : Int32} {p3 : Int32} {p4 : Int32} {p5 : Int32} {p6 : Int32} {o : St} (k1 : okCl a1) (hrec : ∀ {σ0 : St} {a1' : Nat} {p2' : Int32} {p3' : Int32} {p4' : Int32} {p5' : Int32} {p6' : Int32} {o : St} (k1' : okCl a1'), rec σ0 a1' p2' p3' p4' p5' p6' = some o → Rs V dr M_X10_visit [.ref (V.2.2.1 + 35), .ref (V.2.2.1 + a1'), .int p2', .int p3', .int p4', .int p5', .int p6'] σ0 (none, o)) (h : Tr_visit_F rec σ a1 p2 p3 p4 p5 p6 = some o) : Rs V (dr + 1) M_X10_visit [.ref (V.2.2.1 + 35), .ref (V.2.2.1 + a1), .int p2, .int p3, .int p4, .int p5, .int p6] σ (none, o) := by
  refine Rs.of (by decide +kernel) (Nat.le_of_ble_eq_true rfl) (fun Γ X => ?_)
  exact tm_Tr_visit_F X hdr hrec (A := fun o1 => o1 = o) k1 (fun _ e => by rw [e]) h rfl
noncomputable def Tr_visit : Nat → St → Nat → Int32 → Int32 → Int32 → Int32 → Int32 → Option St
  | 0 => fun _ _ _ _ _ _ _ => none
  | n + 1 => fun σ a1 p2 p3 p4 p5 p6 => Tr_visit_F (Tr_visit n) σ a1 p2 p3 p4 p5 p6
theorem run_Tr_visit {V : Ev} : ∀ (n : Nat) {σ : St} {a1 : Nat} {p2 : Int32} {p3 : Int32} {p4 : Int32} {p5 : Int32} {p6 : Int32} {o : St} (k1 : okCl a1), Tr_visit n σ a1 p2 p3 p4 p5 p6 = some o → Rs V (n + 3) M_X10_visit [.ref (V.2.2.1 + 35), .ref (V.2.2.1 + a1), .int p2, .int p3, .int p4, .int p5, .int p6] σ (none, o)
  | 0 => by intros; rename_i h; cases h
  | n + 1 => fun k1 h => run_Tr_visit_F (rec := Tr_visit n) (dr := n + 3) (Nat.le_add_left _ _) k1 (fun k1' h => run_Tr_visit n k1' h) h
theorem dX10_grow_0 : decode cX10_grow 0 = .ok (.aload_n 0, 1) := by decide +kernel
theorem dX10_grow_1 : decode cX10_grow 1 = .ok (.iconst 0, 1) := by decide +kernel
theorem dX10_grow_2 : decode cX10_grow 2 = .ok (.putfield 7, 3) := by decide +kernel
theorem dX10_grow_5 : decode cX10_grow 5 = .ok (.aload_n 0, 1) := by decide +kernel
theorem dX10_grow_6 : decode cX10_grow 6 = .ok (.iconst 0, 1) := by decide +kernel
theorem dX10_grow_7 : decode cX10_grow 7 = .ok (.putfield 13, 3) := by decide +kernel
theorem dX10_grow_10 : decode cX10_grow 10 = .ok (.aload_n 0, 1) := by decide +kernel
theorem dX10_grow_11 : decode cX10_grow 11 = .ok (.iconst 0, 1) := by decide +kernel
theorem dX10_grow_12 : decode cX10_grow 12 = .ok (.putfield 16, 3) := by decide +kernel
theorem dX10_grow_15 : decode cX10_grow 15 = .ok (.aload_n 0, 1) := by decide +kernel
theorem dX10_grow_16 : decode cX10_grow 16 = .ok (.iconst 0, 1) := by decide +kernel
theorem dX10_grow_17 : decode cX10_grow 17 = .ok (.putfield 19, 3) := by decide +kernel
theorem dX10_grow_20 : decode cX10_grow 20 = .ok (.aload_n 0, 1) := by decide +kernel
theorem dX10_grow_21 : decode cX10_grow 21 = .ok (.aload_n 1, 1) := by decide +kernel
theorem dX10_grow_22 : decode cX10_grow 22 = .ok (.aload_n 1, 1) := by decide +kernel
theorem dX10_grow_23 : decode cX10_grow 23 = .ok (.getfield 22, 3) := by decide +kernel
theorem dX10_grow_26 : decode cX10_grow 26 = .ok (.iconst 0, 1) := by decide +kernel
theorem dX10_grow_27 : decode cX10_grow 27 = .ok (.iconst 1, 1) := by decide +kernel
theorem dX10_grow_28 : decode cX10_grow 28 = .ok (.iload_n 2, 1) := by decide +kernel
theorem dX10_grow_29 : decode cX10_grow 29 = .ok (.iconst 0, 1) := by decide +kernel
theorem dX10_grow_30 : decode cX10_grow 30 = .ok (.invokestatic 27, 3) := by decide +kernel
theorem dX10_grow_33 : decode cX10_grow 33 = .ok (.return_, 1) := by decide +kernel
noncomputable def Tr_grow (σ : St) (a1 : Nat) (p2 : Int32) : Option St :=
  bnd (wI σ 35 0 0) (fun σ1 => bnd (wI σ1 35 1 0) (fun σ2 => bnd (wI σ2 35 2 0) (fun σ3 => bnd (wI σ3 35 3 0) (fun σ4 => bd (Tr_visit 60 σ4 a1 (σ4.1 a1 4) 0 1 p2 0) (fun σ6 => some σ6)))))
set_option maxRecDepth 100000 in
set_option maxHeartbeats 4000000 in
theorem tm_Tr_grow {V : Ev} {Γ : Cn} {fin : Option Value × St} {σ : St} {a1 : Nat} {p2 : Int32} {o : St} (X : Cx V Γ M_X10_grow) {A : St → Prop} (k1 : okCl a1) (hr : ∀ (σ9 : St), A σ9 → (none, σ9) = fin) (h : Tr_grow σ a1 p2 = some o) (hA : A o) : Go V Γ M_X10_grow (Zm V Γ 64 fin) 0 [(0, .ref (V.2.2.1 + 35)), (1, .ref (V.2.2.1 + a1)), (2, .int p2)] [] σ := by
  unfold Tr_grow at h
  refine g_aload_n (pc := 0) X 0 rfl dX10_grow_0 ?_
  refine g_iconst (v := 0) (pc := 1) X rfl dX10_grow_1 ?_
  refine g_putI (pc := 2) X k_fl_X10_7 s_35 rfl rfl rfl dX10_grow_2 ?_
  obtain ⟨σ1, e_σ1, h⟩ := bnd_e h
  refine g_nmS e_σ1 ?_
  refine g_aload_n (pc := 5) X 0 rfl dX10_grow_5 ?_
  refine g_iconst (v := 0) (pc := 6) X rfl dX10_grow_6 ?_
  refine g_putI (pc := 7) X k_fl_X10_13 s_35 rfl rfl rfl dX10_grow_7 ?_
  obtain ⟨σ2, e_σ2, h⟩ := bnd_e h
  refine g_nmS e_σ2 ?_
  refine g_aload_n (pc := 10) X 0 rfl dX10_grow_10 ?_
  refine g_iconst (v := 0) (pc := 11) X rfl dX10_grow_11 ?_
  refine g_putI (pc := 12) X k_fl_X10_16 s_35 rfl rfl rfl dX10_grow_12 ?_
  obtain ⟨σ3, e_σ3, h⟩ := bnd_e h
  refine g_nmS e_σ3 ?_
  refine g_aload_n (pc := 15) X 0 rfl dX10_grow_15 ?_
  refine g_iconst (v := 0) (pc := 16) X rfl dX10_grow_16 ?_
  refine g_putI (pc := 17) X k_fl_X10_19 s_35 rfl rfl rfl dX10_grow_17 ?_
  obtain ⟨σ4, e_σ4, h⟩ := bnd_e h
  refine g_nmS e_σ4 ?_
  refine g_aload_n (pc := 20) X 0 rfl dX10_grow_20 ?_
  refine g_aload_n (pc := 21) X 1 rfl dX10_grow_21 ?_
  refine g_aload_n (pc := 22) X 1 rfl dX10_grow_22 ?_
  refine g_getI (pc := 23) X k_fl_X10_22 (sCl_0 k1) rfl dX10_grow_23 ?_
  refine g_iconst (v := 0) (pc := 26) X rfl dX10_grow_26 ?_
  refine g_iconst (v := 1) (pc := 27) X rfl dX10_grow_27 ?_
  refine g_iload_n (pc := 28) X 2 rfl dX10_grow_28 ?_
  refine g_iconst (v := 0) (pc := 29) X rfl dX10_grow_29 ?_
  obtain ⟨σ6, hc5, h⟩ := bd_e h
  refine g_callS (pc := 30) X k_ml_X10_27 (run_Tr_visit 60 k1 hc5) rfl (room_ok (Nat.le_of_ble_eq_true rfl) (Nat.le_of_ble_eq_true rfl)) ⟨Nat.le_refl _, Nat.le_refl _⟩ _ rfl (Nat.le_of_ble_eq_true rfl) dX10_grow_30 ?_
  show Go V Γ M_X10_grow (Zm V Γ 64 fin) 33 [(0, .ref (V.2.2.1 + 35)), (1, .ref (V.2.2.1 + a1)), (2, .int p2)] [] σ6
  cases h
  exact g_vret (pc := 33) X rfl (hr _ hA) dX10_grow_33
set_option maxRecDepth 100000 in
theorem run_Tr_grow {V : Ev} {σ : St} {a1 : Nat} {p2 : Int32} {o : St} (k1 : okCl a1)  (h : Tr_grow σ a1 p2 = some o) : Rs V 64 M_X10_grow [.ref (V.2.2.1 + 35), .ref (V.2.2.1 + a1), .int p2] σ (none, o) := by
  refine Rs.of (by decide +kernel) (Nat.le_of_ble_eq_true rfl) (fun Γ X => ?_)
  exact tm_Tr_grow X (A := fun o1 => o1 = o) k1 (fun _ e => by rw [e]) h rfl
theorem dX10_leafWith_0 : decode cX10_leafWith 0 = .ok (.iconst 1, 1) := by decide +kernel
theorem dX10_leafWith_1 : decode cX10_leafWith 1 = .ok (.istore_n 3, 1) := by decide +kernel
theorem dX10_leafWith_2 : decode cX10_leafWith 2 = .ok (.iconst 0, 1) := by decide +kernel
theorem dX10_leafWith_3 : decode cX10_leafWith 3 = .ok (.istore 4, 2) := by decide +kernel
theorem dX10_leafWith_5 : decode cX10_leafWith 5 = .ok (.iload 4, 2) := by decide +kernel
theorem dX10_leafWith_7 : decode cX10_leafWith 7 = .ok (.bipush 40, 2) := by decide +kernel
theorem dX10_leafWith_9 : decode cX10_leafWith 9 = .ok (.if_icmp .ge 53, 3) := by decide +kernel
theorem dX10_leafWith_12 : decode cX10_leafWith 12 = .ok (.aload_n 0, 1) := by decide +kernel
theorem dX10_leafWith_13 : decode cX10_leafWith 13 = .ok (.aload_n 0, 1) := by decide +kernel
theorem dX10_leafWith_14 : decode cX10_leafWith 14 = .ok (.getfield 22, 3) := by decide +kernel
theorem dX10_leafWith_17 : decode cX10_leafWith 17 = .ok (.iload_n 2, 1) := by decide +kernel
theorem dX10_leafWith_18 : decode cX10_leafWith 18 = .ok (.iload_n 3, 1) := by decide +kernel
theorem dX10_leafWith_19 : decode cX10_leafWith 19 = .ok (.invokestatic 54, 3) := by decide +kernel
theorem dX10_leafWith_22 : decode cX10_leafWith 22 = .ok (.iload_n 3, 1) := by decide +kernel
theorem dX10_leafWith_23 : decode cX10_leafWith 23 = .ok (.invokevirtual 37, 3) := by decide +kernel
theorem dX10_leafWith_26 : decode cX10_leafWith 26 = .ok (.istore 5, 2) := by decide +kernel
theorem dX10_leafWith_28 : decode cX10_leafWith 28 = .ok (.iload 5, 2) := by decide +kernel
theorem dX10_leafWith_30 : decode cX10_leafWith 30 = .ok (.ifCond .eq 13, 3) := by decide +kernel
theorem dX10_leafWith_33 : decode cX10_leafWith 33 = .ok (.aload_n 0, 1) := by decide +kernel
theorem dX10_leafWith_34 : decode cX10_leafWith 34 = .ok (.iload 5, 2) := by decide +kernel
theorem dX10_leafWith_36 : decode cX10_leafWith 36 = .ok (.iload_n 3, 1) := by decide +kernel
theorem dX10_leafWith_37 : decode cX10_leafWith 37 = .ok (.invokevirtual 41, 3) := by decide +kernel
theorem dX10_leafWith_40 : decode cX10_leafWith 40 = .ok (.ifCond .eq 5, 3) := by decide +kernel
theorem dX10_leafWith_43 : decode cX10_leafWith 43 = .ok (.iload_n 3, 1) := by decide +kernel
theorem dX10_leafWith_44 : decode cX10_leafWith 44 = .ok (.ireturn, 1) := by decide +kernel
theorem dX10_leafWith_45 : decode cX10_leafWith 45 = .ok (.iload_n 3, 1) := by decide +kernel
theorem dX10_leafWith_46 : decode cX10_leafWith 46 = .ok (.iload_n 1, 1) := by decide +kernel
theorem dX10_leafWith_47 : decode cX10_leafWith 47 = .ok (.iload_n 3, 1) := by decide +kernel
theorem dX10_leafWith_48 : decode cX10_leafWith 48 = .ok (.invokestatic 45, 3) := by decide +kernel
theorem dX10_leafWith_51 : decode cX10_leafWith 51 = .ok (.invokestatic 50, 3) := by decide +kernel
theorem dX10_leafWith_54 : decode cX10_leafWith 54 = .ok (.imul, 1) := by decide +kernel
theorem dX10_leafWith_55 : decode cX10_leafWith 55 = .ok (.istore_n 3, 1) := by decide +kernel
theorem dX10_leafWith_56 : decode cX10_leafWith 56 = .ok (.iinc 4 1, 3) := by decide +kernel
theorem dX10_leafWith_59 : decode cX10_leafWith 59 = .ok (.goto (-54), 3) := by decide +kernel
theorem dX10_leafWith_62 : decode cX10_leafWith 62 = .ok (.iload_n 3, 1) := by decide +kernel
theorem dX10_leafWith_63 : decode cX10_leafWith 63 = .ok (.ireturn, 1) := by decide +kernel
noncomputable def Tr_leafWith_L5 (l0 : Nat) (l1 : Int32) (l2 : Int32) (σ : St) (x3 : Int32) (x4 : Int32) : Option ((Int32 × Int32) ⊕ Int32) :=
  if 40 ≤ x4 then (some (.inr x3)) else (bd (RC_leftBy l2 x3) (fun r2 => bd (Cl_touching σ l0 (σ.1 l0 4) r2 x3) (fun r4 => if r4 = 0 then (some (.inr x3)) else (bd (Cl_anyModulusDivides σ l0 r4 x3) (fun r6 => if r6 = 0 then (bd (RC_partBy_ l1 x3) (fun r8 => bd (RC_leastPrimeOf r8) (fun r10 => bnd ((x3 * r10)) (fun v11 => bnd (x4 + 1) (fun v12 => some (.inl (v11, v12))))))) else (some (.inr x3)))))))
set_option maxRecDepth 100000 in
set_option maxHeartbeats 4000000 in
theorem tb_Tr_leafWith_L5 {V : Ev} {Γ : Cn} {fin : Option Value × St} {l0 : Nat} {l1 : Int32} {l2 : Int32} {σ : St} {x3 : Int32} {x4 : Int32} {o : ((Int32 × Int32) ⊕ Int32)} (X : Cx V Γ M_X10_leafWith) {A : ((Int32 × Int32) ⊕ Int32) → Prop} (k_l0 : okCl l0) (hr : ∀ (r : Int32), A (.inr r) → (some (.int r), σ) = fin) (hb5 : ∀ (x3 : Int32) (x4 : Int32), A (.inl (x3, x4)) → Go V Γ M_X10_leafWith (Zm V Γ 3 fin) 5 [(0, .ref (V.2.2.1 + l0)), (1, .int l1), (2, .int l2), (3, .int x3), (4, .int x4)] [] σ) (h : Tr_leafWith_L5 l0 l1 l2 σ x3 x4 = some o) (hA : A o) : Go V Γ M_X10_leafWith (Zm V Γ 3 fin) 5 [(0, .ref (V.2.2.1 + l0)), (1, .int l1), (2, .int l2), (3, .int x3), (4, .int x4)] [] σ := by
  unfold Tr_leafWith_L5 at h
  refine g_iload (pc := 5) X 4 rfl dX10_leafWith_5 ?_
  refine g_bipush (v := 40) (pc := 7) X (by decide) dX10_leafWith_7 ?_
  refine g_icmp_ge (pc := 9) (tgt := 62) X dX10_leafWith_9 rfl (fun c15 => ?_) (fun c15 => ?_)
  · replace h := if_t c15 h
    refine g_iload_n (pc := 62) X 3 rfl dX10_leafWith_62 ?_
    cases h
    exact g_iret (pc := 63) X rfl rfl (hr _ hA) dX10_leafWith_63
  · replace h := if_f c15 h
    refine g_aload_n (pc := 12) X 0 rfl dX10_leafWith_12 ?_
    refine g_aload_n (pc := 13) X 0 rfl dX10_leafWith_13 ?_
    refine g_getI (pc := 14) X k_fl_X10_22 (sCl_0 k_l0) rfl dX10_leafWith_14 ?_
    refine g_iload_n (pc := 17) X 2 rfl dX10_leafWith_17 ?_
    refine g_iload_n (pc := 18) X 3 rfl dX10_leafWith_18 ?_
    obtain ⟨r2, hc1, h⟩ := bd_e h
    refine g_callS (pc := 19) X k_ml_X10_54 (run_RC_leftBy  hc1) rfl (room_ok (Nat.le_of_ble_eq_true rfl) (Nat.le_of_ble_eq_true rfl)) ⟨Nat.le_refl _, Nat.le_refl _⟩ _ rfl (Nat.le_of_ble_eq_true rfl) dX10_leafWith_19 ?_
    show Go V Γ M_X10_leafWith (Zm V Γ 3 fin) 22 [(0, .ref (V.2.2.1 + l0)), (1, .int l1), (2, .int l2), (3, .int x3), (4, .int x4)] [.int r2, .int (σ.1 l0 4), .ref (V.2.2.1 + l0)] σ
    refine g_iload_n (pc := 22) X 3 rfl dX10_leafWith_22 ?_
    obtain ⟨r4, hc3, h⟩ := bd_e h
    refine g_callV (pc := 23) X k_ml_X10_37 (run_Cl_touching k_l0 hc3) (sCl_0 k_l0) rfl (room_ok (Nat.le_of_ble_eq_true rfl) (Nat.le_of_ble_eq_true rfl)) ⟨Nat.le_refl _, Nat.le_refl _⟩ _ rfl (Nat.le_of_ble_eq_true rfl) dX10_leafWith_23 ?_
    show Go V Γ M_X10_leafWith (Zm V Γ 3 fin) 26 [(0, .ref (V.2.2.1 + l0)), (1, .int l1), (2, .int l2), (3, .int x3), (4, .int x4)] [.int r4] σ
    refine g_istore (pc := 26) X [(5, .int r4), (0, .ref (V.2.2.1 + l0)), (1, .int l1), (2, .int l2), (3, .int x3), (4, .int x4)] (Nat.le_of_ble_eq_true rfl) rfl dX10_leafWith_26 ?_
    refine g_iload (pc := 28) X 0 rfl dX10_leafWith_28 ?_
    refine g_if_eq (pc := 30) (tgt := 43) X dX10_leafWith_30 rfl (fun c14 => ?_) (fun c14 => ?_)
    · replace h := if_t c14 h
      refine g_iload_n (pc := 43) X 4 rfl dX10_leafWith_43 ?_
      cases h
      exact g_iret (pc := 44) X rfl rfl (hr _ hA) dX10_leafWith_44
    · replace h := if_f c14 h
      refine g_aload_n (pc := 33) X 1 rfl dX10_leafWith_33 ?_
      refine g_iload (pc := 34) X 0 rfl dX10_leafWith_34 ?_
      refine g_iload_n (pc := 36) X 4 rfl dX10_leafWith_36 ?_
      obtain ⟨r6, hc5, h⟩ := bd_e h
      refine g_callV (pc := 37) X k_ml_X10_41 (run_Cl_anyModulusDivides k_l0 hc5) (sCl_0 k_l0) rfl (room_ok (Nat.le_of_ble_eq_true rfl) (Nat.le_of_ble_eq_true rfl)) ⟨Nat.le_refl _, Nat.le_refl _⟩ _ rfl (Nat.le_of_ble_eq_true rfl) dX10_leafWith_37 ?_
      show Go V Γ M_X10_leafWith (Zm V Γ 3 fin) 40 [(5, .int r4), (0, .ref (V.2.2.1 + l0)), (1, .int l1), (2, .int l2), (3, .int x3), (4, .int x4)] [.int r6] σ
      refine g_if_eq (pc := 40) (tgt := 45) X dX10_leafWith_40 rfl (fun c13 => ?_) (fun c13 => ?_)
      · replace h := if_t c13 h
        refine g_iload_n (pc := 45) X 4 rfl dX10_leafWith_45 ?_
        refine g_iload_n (pc := 46) X 2 rfl dX10_leafWith_46 ?_
        refine g_iload_n (pc := 47) X 4 rfl dX10_leafWith_47 ?_
        obtain ⟨r8, hc7, h⟩ := bd_e h
        refine g_callS (pc := 48) X k_ml_X10_45 (run_RC_partBy_  hc7) rfl (room_ok (Nat.le_of_ble_eq_true rfl) (Nat.le_of_ble_eq_true rfl)) ⟨Nat.le_refl _, Nat.le_refl _⟩ _ rfl (Nat.le_of_ble_eq_true rfl) dX10_leafWith_48 ?_
        show Go V Γ M_X10_leafWith (Zm V Γ 3 fin) 51 [(5, .int r4), (0, .ref (V.2.2.1 + l0)), (1, .int l1), (2, .int l2), (3, .int x3), (4, .int x4)] [.int r8, .int x3] σ
        obtain ⟨r10, hc9, h⟩ := bd_e h
        refine g_callS (pc := 51) X k_ml_X10_50 (run_RC_leastPrimeOf  hc9) rfl (room_ok (Nat.le_of_ble_eq_true rfl) (Nat.le_of_ble_eq_true rfl)) ⟨Nat.le_refl _, Nat.le_refl _⟩ _ rfl (Nat.le_of_ble_eq_true rfl) dX10_leafWith_51 ?_
        show Go V Γ M_X10_leafWith (Zm V Γ 3 fin) 54 [(5, .int r4), (0, .ref (V.2.2.1 + l0)), (1, .int l1), (2, .int l2), (3, .int x3), (4, .int x4)] [.int r10, .int x3] σ
        refine g_imul (pc := 54) X dX10_leafWith_54 ?_
        obtain ⟨v11, e_v11, h⟩ := bnd_e h
        refine g_nmI e_v11 ?_
        refine g_istore_n (pc := 55) X [(3, .int v11), (5, .int r4), (0, .ref (V.2.2.1 + l0)), (1, .int l1), (2, .int l2), (4, .int x4)] rfl (Nat.le_of_ble_eq_true rfl) rfl dX10_leafWith_55 ?_
        obtain ⟨v12, e_v12, h⟩ := bnd_e h
        refine g_iinc (pc := 56) (v := v12) X [(4, .int v12), (3, .int v11), (5, .int r4), (0, .ref (V.2.2.1 + l0)), (1, .int l1), (2, .int l2)] 5 rfl (by rw [e_v12]; rfl) (Nat.le_of_ble_eq_true rfl) rfl dX10_leafWith_56 ?_
        refine g_goto (pc := 59) (tgt := 5) X dX10_leafWith_59 rfl ?_
        refine g_sub [3, 4, 5, 1, 0] rfl ?_
        cases h
        exact hb5 _ _ hA
      · replace h := if_f c13 h
        refine g_iload_n (pc := 43) X 4 rfl dX10_leafWith_43 ?_
        cases h
        exact g_iret (pc := 44) X rfl rfl (hr _ hA) dX10_leafWith_44
set_option maxRecDepth 100000 in
theorem tl_Tr_leafWith_L5 {V : Ev} {Γ : Cn} {fin : Option Value × St} {l0 : Nat} {l1 : Int32} {l2 : Int32} {σ : St} {x3 : Int32} {x4 : Int32} (X : Cx V Γ M_X10_leafWith) (k_l0 : okCl l0) {e : Int32} {A : Int32 → Prop} (hr : ∀ (r : Int32), A r → (some (.int r), σ) = fin) {n : Nat} (h : iter (fun s : (Int32 × Int32) => Tr_leafWith_L5 l0 l1 l2 σ s.1 s.2) n (x3, x4) = some e) (hA : A e) : Go V Γ M_X10_leafWith (Zm V Γ 3 fin) 5 [(0, .ref (V.2.2.1 + l0)), (1, .int l1), (2, .int l2), (3, .int x3), (4, .int x4)] [] σ := by
  refine iter_go (G := (fun s : (Int32 × Int32) => Go V Γ M_X10_leafWith (Zm V Γ 3 fin) 5 [(0, .ref (V.2.2.1 + l0)), (1, .int l1), (2, .int l2), (3, .int s.1), (4, .int s.2)] [] σ)) (fun s o ho hS => ?_) n (x3, x4) h
  exact tb_Tr_leafWith_L5 X k_l0 (fun z0 he => hr z0 (by rw [he]; exact hA)) (fun _ _ h9 => h9) ho hS
noncomputable def Tr_leafWith (σ : St) (a0 : Nat) (p1 : Int32) (p2 : Int32) : Option Int32 :=
  iter (fun s : (Int32 × Int32) => Tr_leafWith_L5 a0 p1 p2 σ s.1 s.2) FUEL (1, 0)
set_option maxRecDepth 100000 in
set_option maxHeartbeats 4000000 in
theorem tm_Tr_leafWith {V : Ev} {Γ : Cn} {fin : Option Value × St} {σ : St} {a0 : Nat} {p1 : Int32} {p2 : Int32} {o : Int32} (X : Cx V Γ M_X10_leafWith) {A : Int32 → Prop} (k0 : okCl a0) (hr : ∀ (r : Int32), A r → (some (.int r), σ) = fin) (h : Tr_leafWith σ a0 p1 p2 = some o) (hA : A o) : Go V Γ M_X10_leafWith (Zm V Γ 3 fin) 0 [(0, .ref (V.2.2.1 + a0)), (1, .int p1), (2, .int p2)] [] σ := by
  unfold Tr_leafWith at h
  refine g_iconst (v := 1) (pc := 0) X rfl dX10_leafWith_0 ?_
  refine g_istore_n (pc := 1) X [(3, .int 1), (0, .ref (V.2.2.1 + a0)), (1, .int p1), (2, .int p2)] rfl (Nat.le_of_ble_eq_true rfl) rfl dX10_leafWith_1 ?_
  refine g_iconst (v := 0) (pc := 2) X rfl dX10_leafWith_2 ?_
  refine g_istore (pc := 3) X [(4, .int 0), (3, .int 1), (0, .ref (V.2.2.1 + a0)), (1, .int p1), (2, .int p2)] (Nat.le_of_ble_eq_true rfl) rfl dX10_leafWith_3 ?_
  refine g_sub [2, 3, 4, 1, 0] rfl ?_
  exact tl_Tr_leafWith_L5 X k0 hr h hA
set_option maxRecDepth 100000 in
theorem run_Tr_leafWith {V : Ev} {σ : St} {a0 : Nat} {p1 : Int32} {p2 : Int32} {o : Int32} (k0 : okCl a0)  (h : Tr_leafWith σ a0 p1 p2 = some o) : Rs V 3 M_X10_leafWith [.ref (V.2.2.1 + a0), .int p1, .int p2] σ (some (.int o), σ) := by
  refine Rs.of (by decide +kernel) (Nat.le_of_ble_eq_true rfl) (fun Γ X => ?_)
  exact tm_Tr_leafWith X (A := fun o1 => o1 = o) k0 (fun _ e => by rw [e]) h rfl
theorem dX11_status_0 : decode cX11_status 0 = .ok (.aload_n 0, 1) := by decide +kernel
theorem dX11_status_1 : decode cX11_status 1 = .ok (.getfield 9, 3) := by decide +kernel
theorem dX11_status_4 : decode cX11_status 4 = .ok (.ireturn, 1) := by decide +kernel
noncomputable def RC_status (σ : St) : Option Int32 :=
  some (σ.1 0 0)
set_option maxRecDepth 100000 in
set_option maxHeartbeats 4000000 in
theorem tm_RC_status {V : Ev} {Γ : Cn} {fin : Option Value × St} {σ : St} {o : Int32} (X : Cx V Γ M_X11_status) {A : Int32 → Prop}  (hr : ∀ (r : Int32), A r → (some (.int r), σ) = fin) (h : RC_status σ = some o) (hA : A o) : Go V Γ M_X11_status (Zm V Γ 0 fin) 0 [(0, .ref (V.2.2.1 + 0))] [] σ := by
  unfold RC_status at h
  refine g_aload_n (pc := 0) X 0 rfl dX11_status_0 ?_
  refine g_getI (pc := 1) X k_fl_X11_9 s_0 rfl dX11_status_1 ?_
  cases h
  exact g_iret (pc := 4) X rfl rfl (hr _ hA) dX11_status_4
set_option maxRecDepth 100000 in
theorem run_RC_status {V : Ev} {σ : St} {o : Int32}   (h : RC_status σ = some o) : Rs V 0 M_X11_status [.ref (V.2.2.1 + 0)] σ (some (.int o), σ) := by
  refine Rs.of (by decide +kernel) (Nat.le_of_ble_eq_true rfl) (fun Γ X => ?_)
  exact tm_RC_status X (A := fun o1 => o1 = o)  (fun _ e => by rw [e]) h rfl
theorem dX11_top_0 : decode cX11_top 0 = .ok (.aload_n 0, 1) := by decide +kernel
theorem dX11_top_1 : decode cX11_top 1 = .ok (.getfield 13, 3) := by decide +kernel
theorem dX11_top_4 : decode cX11_top 4 = .ok (.lreturn, 1) := by decide +kernel
noncomputable def RC_top (σ : St) : Option Int64 :=
  some (σ.2 0 1)
set_option maxRecDepth 100000 in
set_option maxHeartbeats 4000000 in
theorem tm_RC_top {V : Ev} {Γ : Cn} {fin : Option Value × St} {σ : St} {o : Int64} (X : Cx V Γ M_X11_top) {A : Int64 → Prop}  (hr : ∀ (r : Int64), A r → (some (.long r), σ) = fin) (h : RC_top σ = some o) (hA : A o) : Go V Γ M_X11_top (Zm V Γ 0 fin) 0 [(0, .ref (V.2.2.1 + 0))] [] σ := by
  unfold RC_top at h
  refine g_aload_n (pc := 0) X 0 rfl dX11_top_0 ?_
  refine g_getL (pc := 1) X k_fl_X11_13 s_0 rfl dX11_top_1 ?_
  cases h
  exact g_lret (pc := 4) X rfl (hr _ hA) dX11_top_4
set_option maxRecDepth 100000 in
theorem run_RC_top {V : Ev} {σ : St} {o : Int64}   (h : RC_top σ = some o) : Rs V 0 M_X11_top [.ref (V.2.2.1 + 0)] σ (some (.long o), σ) := by
  refine Rs.of (by decide +kernel) (Nat.le_of_ble_eq_true rfl) (fun Γ X => ?_)
  exact tm_RC_top X (A := fun o1 => o1 = o)  (fun _ e => by rw [e]) h rfl
theorem dX11_bottom_0 : decode cX11_bottom 0 = .ok (.aload_n 0, 1) := by decide +kernel
theorem dX11_bottom_1 : decode cX11_bottom 1 = .ok (.getfield 17, 3) := by decide +kernel
theorem dX11_bottom_4 : decode cX11_bottom 4 = .ok (.lreturn, 1) := by decide +kernel
noncomputable def RC_bottom (σ : St) : Option Int64 :=
  some (σ.2 0 2)
set_option maxRecDepth 100000 in
set_option maxHeartbeats 4000000 in
theorem tm_RC_bottom {V : Ev} {Γ : Cn} {fin : Option Value × St} {σ : St} {o : Int64} (X : Cx V Γ M_X11_bottom) {A : Int64 → Prop}  (hr : ∀ (r : Int64), A r → (some (.long r), σ) = fin) (h : RC_bottom σ = some o) (hA : A o) : Go V Γ M_X11_bottom (Zm V Γ 0 fin) 0 [(0, .ref (V.2.2.1 + 0))] [] σ := by
  unfold RC_bottom at h
  refine g_aload_n (pc := 0) X 0 rfl dX11_bottom_0 ?_
  refine g_getL (pc := 1) X k_fl_X11_17 s_0 rfl dX11_bottom_1 ?_
  cases h
  exact g_lret (pc := 4) X rfl (hr _ hA) dX11_bottom_4
set_option maxRecDepth 100000 in
theorem run_RC_bottom {V : Ev} {σ : St} {o : Int64}   (h : RC_bottom σ = some o) : Rs V 0 M_X11_bottom [.ref (V.2.2.1 + 0)] σ (some (.long o), σ) := by
  refine Rs.of (by decide +kernel) (Nat.le_of_ble_eq_true rfl) (fun Γ X => ?_)
  exact tm_RC_bottom X (A := fun o1 => o1 = o)  (fun _ e => by rw [e]) h rfl
theorem dX11_deny_0 : decode cX11_deny 0 = .ok (.aload_n 0, 1) := by decide +kernel
theorem dX11_deny_1 : decode cX11_deny 1 = .ok (.iload_n 1, 1) := by decide +kernel
theorem dX11_deny_2 : decode cX11_deny 2 = .ok (.putfield 9, 3) := by decide +kernel
theorem dX11_deny_5 : decode cX11_deny 5 = .ok (.iconst 0, 1) := by decide +kernel
theorem dX11_deny_6 : decode cX11_deny 6 = .ok (.ireturn, 1) := by decide +kernel
noncomputable def RC_deny (σ : St) (p1 : Int32) : Option (Int32 × St) :=
  bnd (wI σ 0 0 p1) (fun σ1 => some (0, σ1))
set_option maxRecDepth 100000 in
set_option maxHeartbeats 4000000 in
theorem tm_RC_deny {V : Ev} {Γ : Cn} {fin : Option Value × St} {σ : St} {p1 : Int32} {o : (Int32 × St)} (X : Cx V Γ M_X11_deny) {A : (Int32 × St) → Prop}  (hr : ∀ (r : Int32) (σ9 : St), A (r, σ9) → (some (.int r), σ9) = fin) (h : RC_deny σ p1 = some o) (hA : A o) : Go V Γ M_X11_deny (Zm V Γ 0 fin) 0 [(0, .ref (V.2.2.1 + 0)), (1, .int p1)] [] σ := by
  unfold RC_deny at h
  refine g_aload_n (pc := 0) X 0 rfl dX11_deny_0 ?_
  refine g_iload_n (pc := 1) X 1 rfl dX11_deny_1 ?_
  refine g_putI (pc := 2) X k_fl_X11_9 s_0 rfl rfl rfl dX11_deny_2 ?_
  obtain ⟨σ1, e_σ1, h⟩ := bnd_e h
  refine g_nmS e_σ1 ?_
  refine g_iconst (v := 0) (pc := 5) X rfl dX11_deny_5 ?_
  cases h
  exact g_iret (pc := 6) X rfl nz0.1 (hr _ _ hA) dX11_deny_6
set_option maxRecDepth 100000 in
theorem run_RC_deny {V : Ev} {σ : St} {p1 : Int32} {o : (Int32 × St)}   (h : RC_deny σ p1 = some o) : Rs V 0 M_X11_deny [.ref (V.2.2.1 + 0), .int p1] σ (some (.int o.1), o.2) := by
  refine Rs.of (by decide +kernel) (Nat.le_of_ble_eq_true rfl) (fun Γ X => ?_)
  exact tm_RC_deny X (A := fun o1 => o1 = o)  (fun _ _ e => by rw [← e]) h rfl
theorem dX11_agree_0 : decode cX11_agree 0 = .ok (.aload_n 0, 1) := by decide +kernel
theorem dX11_agree_1 : decode cX11_agree 1 = .ok (.iconst 0, 1) := by decide +kernel
theorem dX11_agree_2 : decode cX11_agree 2 = .ok (.putfield 9, 3) := by decide +kernel
theorem dX11_agree_5 : decode cX11_agree 5 = .ok (.iconst 1, 1) := by decide +kernel
theorem dX11_agree_6 : decode cX11_agree 6 = .ok (.ireturn, 1) := by decide +kernel
noncomputable def RC_agree (σ : St) : Option (Int32 × St) :=
  bnd (wI σ 0 0 0) (fun σ1 => some (1, σ1))
set_option maxRecDepth 100000 in
set_option maxHeartbeats 4000000 in
theorem tm_RC_agree {V : Ev} {Γ : Cn} {fin : Option Value × St} {σ : St} {o : (Int32 × St)} (X : Cx V Γ M_X11_agree) {A : (Int32 × St) → Prop}  (hr : ∀ (r : Int32) (σ9 : St), A (r, σ9) → (some (.int r), σ9) = fin) (h : RC_agree σ = some o) (hA : A o) : Go V Γ M_X11_agree (Zm V Γ 0 fin) 0 [(0, .ref (V.2.2.1 + 0))] [] σ := by
  unfold RC_agree at h
  refine g_aload_n (pc := 0) X 0 rfl dX11_agree_0 ?_
  refine g_iconst (v := 0) (pc := 1) X rfl dX11_agree_1 ?_
  refine g_putI (pc := 2) X k_fl_X11_9 s_0 rfl rfl rfl dX11_agree_2 ?_
  obtain ⟨σ1, e_σ1, h⟩ := bnd_e h
  refine g_nmS e_σ1 ?_
  refine g_iconst (v := 1) (pc := 5) X rfl dX11_agree_5 ?_
  cases h
  exact g_iret (pc := 6) X rfl nz1.1 (hr _ _ hA) dX11_agree_6
set_option maxRecDepth 100000 in
theorem run_RC_agree {V : Ev} {σ : St} {o : (Int32 × St)}   (h : RC_agree σ = some o) : Rs V 0 M_X11_agree [.ref (V.2.2.1 + 0)] σ (some (.int o.1), o.2) := by
  refine Rs.of (by decide +kernel) (Nat.le_of_ble_eq_true rfl) (fun Γ X => ?_)
  exact tm_RC_agree X (A := fun o1 => o1 = o)  (fun _ _ e => by rw [← e]) h rfl
theorem dX11_tray_0 : decode cX11_tray 0 = .ok (.iload_n 1, 1) := by decide +kernel
theorem dX11_tray_1 : decode cX11_tray 1 = .ok (.i2l, 1) := by decide +kernel
theorem dX11_tray_2 : decode cX11_tray 2 = .ok (.lconst 0, 1) := by decide +kernel
theorem dX11_tray_3 : decode cX11_tray 3 = .ok (.ldc2_w 96, 3) := by decide +kernel
theorem dX11_tray_6 : decode cX11_tray 6 = .ok (.invokestatic 98, 3) := by decide +kernel
theorem dX11_tray_9 : decode cX11_tray 9 = .ok (.ifCond .eq 27, 3) := by decide +kernel
theorem dX11_tray_12 : decode cX11_tray 12 = .ok (.iload_n 2, 1) := by decide +kernel
theorem dX11_tray_13 : decode cX11_tray 13 = .ok (.i2l, 1) := by decide +kernel
theorem dX11_tray_14 : decode cX11_tray 14 = .ok (.lconst 0, 1) := by decide +kernel
theorem dX11_tray_15 : decode cX11_tray 15 = .ok (.ldc2_w 96, 3) := by decide +kernel
theorem dX11_tray_18 : decode cX11_tray 18 = .ok (.invokestatic 98, 3) := by decide +kernel
theorem dX11_tray_21 : decode cX11_tray 21 = .ok (.ifCond .eq 15, 3) := by decide +kernel
theorem dX11_tray_24 : decode cX11_tray 24 = .ok (.iload_n 3, 1) := by decide +kernel
theorem dX11_tray_25 : decode cX11_tray 25 = .ok (.i2l, 1) := by decide +kernel
theorem dX11_tray_26 : decode cX11_tray 26 = .ok (.lconst 0, 1) := by decide +kernel
theorem dX11_tray_27 : decode cX11_tray 27 = .ok (.ldc2_w 102, 3) := by decide +kernel
theorem dX11_tray_30 : decode cX11_tray 30 = .ok (.invokestatic 98, 3) := by decide +kernel
theorem dX11_tray_33 : decode cX11_tray 33 = .ok (.ifCond .ne 9, 3) := by decide +kernel
theorem dX11_tray_36 : decode cX11_tray 36 = .ok (.aload_n 0, 1) := by decide +kernel
theorem dX11_tray_37 : decode cX11_tray 37 = .ok (.iconst 1, 1) := by decide +kernel
theorem dX11_tray_38 : decode cX11_tray 38 = .ok (.invokevirtual 104, 3) := by decide +kernel
theorem dX11_tray_41 : decode cX11_tray 41 = .ok (.ireturn, 1) := by decide +kernel
theorem dX11_tray_42 : decode cX11_tray 42 = .ok (.aload_n 0, 1) := by decide +kernel
theorem dX11_tray_43 : decode cX11_tray 43 = .ok (.getfield 22, 3) := by decide +kernel
theorem dX11_tray_46 : decode cX11_tray 46 = .ok (.iload_n 1, 1) := by decide +kernel
theorem dX11_tray_47 : decode cX11_tray 47 = .ok (.aaload, 1) := by decide +kernel
theorem dX11_tray_48 : decode cX11_tray 48 = .ok (.iload_n 2, 1) := by decide +kernel
theorem dX11_tray_49 : decode cX11_tray 49 = .ok (.iload_n 3, 1) := by decide +kernel
theorem dX11_tray_50 : decode cX11_tray 50 = .ok (.invokevirtual 108, 3) := by decide +kernel
theorem dX11_tray_53 : decode cX11_tray 53 = .ok (.aload_n 0, 1) := by decide +kernel
theorem dX11_tray_54 : decode cX11_tray 54 = .ok (.invokevirtual 112, 3) := by decide +kernel
theorem dX11_tray_57 : decode cX11_tray 57 = .ok (.ireturn, 1) := by decide +kernel
noncomputable def RC_tray (σ : St) (p1 : Int32) (p2 : Int32) (p3 : Int32) : Option (Int32 × St) :=
  bd (RC_within p1.toInt64 0 3) (fun r2 => if r2 = 0 then (bd2 (RC_deny σ 1) (fun r4 σ5 => chk (ckz r4) (some (r4, σ5)))) else (bd (RC_within p2.toInt64 0 3) (fun r8 => if r8 = 0 then (bd2 (RC_deny σ 1) (fun r10 σ11 => chk (ckz r10) (some (r10, σ11)))) else (bd (RC_within p3.toInt64 0 60) (fun r14 => if r14 = 0 then (bd2 (RC_deny σ 1) (fun r23 σ24 => chk (ckz r23) (some (r23, σ24)))) else (chk (ix p1 4) (bd (Ty_lay σ (rfs 1 (tn p1)) p2 p3) (fun σ17 => bd2 (RC_agree σ17) (fun r19 σ20 => chk (ckz r19) (some (r19, σ20)))))))))))
set_option maxRecDepth 100000 in
set_option maxHeartbeats 4000000 in
theorem tm_RC_tray {V : Ev} {Γ : Cn} {fin : Option Value × St} {σ : St} {p1 : Int32} {p2 : Int32} {p3 : Int32} {o : (Int32 × St)} (X : Cx V Γ M_X11_tray) {A : (Int32 × St) → Prop}  (hr : ∀ (r : Int32) (σ9 : St), A (r, σ9) → (some (.int r), σ9) = fin) (h : RC_tray σ p1 p2 p3 = some o) (hA : A o) : Go V Γ M_X11_tray (Zm V Γ 2 fin) 0 [(0, .ref (V.2.2.1 + 0)), (1, .int p1), (2, .int p2), (3, .int p3)] [] σ := by
  unfold RC_tray at h
  refine g_iload_n (pc := 0) X 1 rfl dX11_tray_0 ?_
  refine g_i2l (pc := 1) X dX11_tray_1 ?_
  refine g_lconst (v := 0) (pc := 2) X rfl dX11_tray_2 ?_
  refine g_ldc2 (v := 3) (pc := 3) X k_constl_X11_96 dX11_tray_3 ?_
  obtain ⟨r2, hc1, h⟩ := bd_e h
  refine g_callS (pc := 6) X k_ml_X11_98 (run_RC_within  hc1) rfl (room_ok (Nat.le_of_ble_eq_true rfl) (Nat.le_of_ble_eq_true rfl)) ⟨Nat.le_refl _, Nat.le_refl _⟩ _ rfl (Nat.le_of_ble_eq_true rfl) dX11_tray_6 ?_
  show Go V Γ M_X11_tray (Zm V Γ 2 fin) 9 [(0, .ref (V.2.2.1 + 0)), (1, .int p1), (2, .int p2), (3, .int p3)] [.int r2] σ
  refine g_if_eq (pc := 9) (tgt := 36) X dX11_tray_9 rfl (fun c28 => ?_) (fun c28 => ?_)
  · replace h := if_t c28 h
    refine g_aload_n (pc := 36) X 0 rfl dX11_tray_36 ?_
    refine g_iconst (v := 1) (pc := 37) X rfl dX11_tray_37 ?_
    obtain ⟨r4, σ5, hc3, h⟩ := bd2_e h
    refine g_callV (pc := 38) X k_ml_X11_104 (run_RC_deny  hc3) s_0 rfl (room_ok (Nat.le_of_ble_eq_true rfl) (Nat.le_of_ble_eq_true rfl)) ⟨Nat.le_refl _, Nat.le_refl _⟩ _ rfl (Nat.le_of_ble_eq_true rfl) dX11_tray_38 ?_
    show Go V Γ M_X11_tray (Zm V Γ 2 fin) 41 [(0, .ref (V.2.2.1 + 0)), (1, .int p1), (2, .int p2), (3, .int p3)] [.int r4] σ5
    obtain ⟨c6, h⟩ := chk_e h
    cases h
    exact g_iret (pc := 41) X rfl (ckz_e c6).1 (hr _ _ hA) dX11_tray_41
  · replace h := if_f c28 h
    refine g_iload_n (pc := 12) X 2 rfl dX11_tray_12 ?_
    refine g_i2l (pc := 13) X dX11_tray_13 ?_
    refine g_lconst (v := 0) (pc := 14) X rfl dX11_tray_14 ?_
    refine g_ldc2 (v := 3) (pc := 15) X k_constl_X11_96 dX11_tray_15 ?_
    obtain ⟨r8, hc7, h⟩ := bd_e h
    refine g_callS (pc := 18) X k_ml_X11_98 (run_RC_within  hc7) rfl (room_ok (Nat.le_of_ble_eq_true rfl) (Nat.le_of_ble_eq_true rfl)) ⟨Nat.le_refl _, Nat.le_refl _⟩ _ rfl (Nat.le_of_ble_eq_true rfl) dX11_tray_18 ?_
    show Go V Γ M_X11_tray (Zm V Γ 2 fin) 21 [(0, .ref (V.2.2.1 + 0)), (1, .int p1), (2, .int p2), (3, .int p3)] [.int r8] σ
    refine g_if_eq (pc := 21) (tgt := 36) X dX11_tray_21 rfl (fun c27 => ?_) (fun c27 => ?_)
    · replace h := if_t c27 h
      refine g_aload_n (pc := 36) X 0 rfl dX11_tray_36 ?_
      refine g_iconst (v := 1) (pc := 37) X rfl dX11_tray_37 ?_
      obtain ⟨r10, σ11, hc9, h⟩ := bd2_e h
      refine g_callV (pc := 38) X k_ml_X11_104 (run_RC_deny  hc9) s_0 rfl (room_ok (Nat.le_of_ble_eq_true rfl) (Nat.le_of_ble_eq_true rfl)) ⟨Nat.le_refl _, Nat.le_refl _⟩ _ rfl (Nat.le_of_ble_eq_true rfl) dX11_tray_38 ?_
      show Go V Γ M_X11_tray (Zm V Γ 2 fin) 41 [(0, .ref (V.2.2.1 + 0)), (1, .int p1), (2, .int p2), (3, .int p3)] [.int r10] σ11
      obtain ⟨c12, h⟩ := chk_e h
      cases h
      exact g_iret (pc := 41) X rfl (ckz_e c12).1 (hr _ _ hA) dX11_tray_41
    · replace h := if_f c27 h
      refine g_iload_n (pc := 24) X 3 rfl dX11_tray_24 ?_
      refine g_i2l (pc := 25) X dX11_tray_25 ?_
      refine g_lconst (v := 0) (pc := 26) X rfl dX11_tray_26 ?_
      refine g_ldc2 (v := 60) (pc := 27) X k_constl_X11_102 dX11_tray_27 ?_
      obtain ⟨r14, hc13, h⟩ := bd_e h
      refine g_callS (pc := 30) X k_ml_X11_98 (run_RC_within  hc13) rfl (room_ok (Nat.le_of_ble_eq_true rfl) (Nat.le_of_ble_eq_true rfl)) ⟨Nat.le_refl _, Nat.le_refl _⟩ _ rfl (Nat.le_of_ble_eq_true rfl) dX11_tray_30 ?_
      show Go V Γ M_X11_tray (Zm V Γ 2 fin) 33 [(0, .ref (V.2.2.1 + 0)), (1, .int p1), (2, .int p2), (3, .int p3)] [.int r14] σ
      refine g_if_ne (pc := 33) (tgt := 42) X dX11_tray_33 rfl (fun c26 => ?_) (fun c26 => ?_)
      · replace h := if_f c26 h
        refine g_aload_n (pc := 42) X 0 rfl dX11_tray_42 ?_
        refine g_getR (r := 1) (pc := 43) X k_fl_X11_22 s_0 rfl dX11_tray_43 ?_
        refine g_iload_n (pc := 46) X 1 rfl dX11_tray_46 ?_
        obtain ⟨c15, h⟩ := chk_e h
        refine g_aald (ak := 0) (pc := 47) X s_1 rfl rfl c15 dX11_tray_47 ?_
        refine g_iload_n (pc := 48) X 2 rfl dX11_tray_48 ?_
        refine g_iload_n (pc := 49) X 3 rfl dX11_tray_49 ?_
        obtain ⟨σ17, hc16, h⟩ := bd_e h
        refine g_callV (pc := 50) X k_ml_X11_108 (run_Ty_lay (okTy_of c15) hc16) (sTy_0 (okTy_of c15)) rfl (room_ok (Nat.le_of_ble_eq_true rfl) (Nat.le_of_ble_eq_true rfl)) ⟨Nat.le_refl _, Nat.le_refl _⟩ _ rfl (Nat.le_of_ble_eq_true rfl) dX11_tray_50 ?_
        show Go V Γ M_X11_tray (Zm V Γ 2 fin) 53 [(0, .ref (V.2.2.1 + 0)), (1, .int p1), (2, .int p2), (3, .int p3)] [] σ17
        refine g_aload_n (pc := 53) X 0 rfl dX11_tray_53 ?_
        obtain ⟨r19, σ20, hc18, h⟩ := bd2_e h
        refine g_callV (pc := 54) X k_ml_X11_112 (run_RC_agree  hc18) s_0 rfl (room_ok (Nat.le_of_ble_eq_true rfl) (Nat.le_of_ble_eq_true rfl)) ⟨Nat.le_refl _, Nat.le_refl _⟩ _ rfl (Nat.le_of_ble_eq_true rfl) dX11_tray_54 ?_
        show Go V Γ M_X11_tray (Zm V Γ 2 fin) 57 [(0, .ref (V.2.2.1 + 0)), (1, .int p1), (2, .int p2), (3, .int p3)] [.int r19] σ20
        obtain ⟨c21, h⟩ := chk_e h
        cases h
        exact g_iret (pc := 57) X rfl (ckz_e c21).1 (hr _ _ hA) dX11_tray_57
      · replace h := if_t c26 h
        refine g_aload_n (pc := 36) X 0 rfl dX11_tray_36 ?_
        refine g_iconst (v := 1) (pc := 37) X rfl dX11_tray_37 ?_
        obtain ⟨r23, σ24, hc22, h⟩ := bd2_e h
        refine g_callV (pc := 38) X k_ml_X11_104 (run_RC_deny  hc22) s_0 rfl (room_ok (Nat.le_of_ble_eq_true rfl) (Nat.le_of_ble_eq_true rfl)) ⟨Nat.le_refl _, Nat.le_refl _⟩ _ rfl (Nat.le_of_ble_eq_true rfl) dX11_tray_38 ?_
        show Go V Γ M_X11_tray (Zm V Γ 2 fin) 41 [(0, .ref (V.2.2.1 + 0)), (1, .int p1), (2, .int p2), (3, .int p3)] [.int r23] σ24
        obtain ⟨c25, h⟩ := chk_e h
        cases h
        exact g_iret (pc := 41) X rfl (ckz_e c25).1 (hr _ _ hA) dX11_tray_41
set_option maxRecDepth 100000 in
theorem run_RC_tray {V : Ev} {σ : St} {p1 : Int32} {p2 : Int32} {p3 : Int32} {o : (Int32 × St)}   (h : RC_tray σ p1 p2 p3 = some o) : Rs V 2 M_X11_tray [.ref (V.2.2.1 + 0), .int p1, .int p2, .int p3] σ (some (.int o.1), o.2) := by
  refine Rs.of (by decide +kernel) (Nat.le_of_ble_eq_true rfl) (fun Γ X => ?_)
  exact tm_RC_tray X (A := fun o1 => o1 = o)  (fun _ _ e => by rw [← e]) h rfl
theorem dX11_trayTrouble_0 : decode cX11_trayTrouble 0 = .ok (.iload_n 1, 1) := by decide +kernel
theorem dX11_trayTrouble_1 : decode cX11_trayTrouble 1 = .ok (.i2l, 1) := by decide +kernel
theorem dX11_trayTrouble_2 : decode cX11_trayTrouble 2 = .ok (.lconst 0, 1) := by decide +kernel
theorem dX11_trayTrouble_3 : decode cX11_trayTrouble 3 = .ok (.ldc2_w 96, 3) := by decide +kernel
theorem dX11_trayTrouble_6 : decode cX11_trayTrouble 6 = .ok (.invokestatic 98, 3) := by decide +kernel
theorem dX11_trayTrouble_9 : decode cX11_trayTrouble 9 = .ok (.ifCond .ne 5, 3) := by decide +kernel
theorem dX11_trayTrouble_12 : decode cX11_trayTrouble 12 = .ok (.iconst 1, 1) := by decide +kernel
theorem dX11_trayTrouble_13 : decode cX11_trayTrouble 13 = .ok (.ireturn, 1) := by decide +kernel
theorem dX11_trayTrouble_14 : decode cX11_trayTrouble 14 = .ok (.aload_n 0, 1) := by decide +kernel
theorem dX11_trayTrouble_15 : decode cX11_trayTrouble 15 = .ok (.getfield 22, 3) := by decide +kernel
theorem dX11_trayTrouble_18 : decode cX11_trayTrouble 18 = .ok (.iload_n 1, 1) := by decide +kernel
theorem dX11_trayTrouble_19 : decode cX11_trayTrouble 19 = .ok (.aaload, 1) := by decide +kernel
theorem dX11_trayTrouble_20 : decode cX11_trayTrouble 20 = .ok (.invokevirtual 146, 3) := by decide +kernel
theorem dX11_trayTrouble_23 : decode cX11_trayTrouble 23 = .ok (.ifCond .eq 7, 3) := by decide +kernel
theorem dX11_trayTrouble_26 : decode cX11_trayTrouble 26 = .ok (.iconst 2, 1) := by decide +kernel
theorem dX11_trayTrouble_27 : decode cX11_trayTrouble 27 = .ok (.goto 4, 3) := by decide +kernel
theorem dX11_trayTrouble_30 : decode cX11_trayTrouble 30 = .ok (.iconst 0, 1) := by decide +kernel
theorem dX11_trayTrouble_31 : decode cX11_trayTrouble 31 = .ok (.ireturn, 1) := by decide +kernel
noncomputable def RC_trayTrouble (σ : St) (p1 : Int32) : Option Int32 :=
  bd (RC_within p1.toInt64 0 3) (fun r2 => if r2 = 0 then (some 1) else (chk (ix p1 4) (bd (Ty_isMissing σ (rfs 1 (tn p1))) (fun r5 => if r5 = 0 then (some 0) else (some 2)))))
set_option maxRecDepth 100000 in
set_option maxHeartbeats 4000000 in
theorem tm_RC_trayTrouble {V : Ev} {Γ : Cn} {fin : Option Value × St} {σ : St} {p1 : Int32} {o : Int32} (X : Cx V Γ M_X11_trayTrouble) {A : Int32 → Prop}  (hr : ∀ (r : Int32), A r → (some (.int r), σ) = fin) (h : RC_trayTrouble σ p1 = some o) (hA : A o) : Go V Γ M_X11_trayTrouble (Zm V Γ 1 fin) 0 [(0, .ref (V.2.2.1 + 0)), (1, .int p1)] [] σ := by
  unfold RC_trayTrouble at h
  refine g_iload_n (pc := 0) X 1 rfl dX11_trayTrouble_0 ?_
  refine g_i2l (pc := 1) X dX11_trayTrouble_1 ?_
  refine g_lconst (v := 0) (pc := 2) X rfl dX11_trayTrouble_2 ?_
  refine g_ldc2 (v := 3) (pc := 3) X k_constl_X11_96 dX11_trayTrouble_3 ?_
  obtain ⟨r2, hc1, h⟩ := bd_e h
  refine g_callS (pc := 6) X k_ml_X11_98 (run_RC_within  hc1) rfl (room_ok (Nat.le_of_ble_eq_true rfl) (Nat.le_of_ble_eq_true rfl)) ⟨Nat.le_refl _, Nat.le_refl _⟩ _ rfl (Nat.le_of_ble_eq_true rfl) dX11_trayTrouble_6 ?_
  show Go V Γ M_X11_trayTrouble (Zm V Γ 1 fin) 9 [(0, .ref (V.2.2.1 + 0)), (1, .int p1)] [.int r2] σ
  refine g_if_ne (pc := 9) (tgt := 14) X dX11_trayTrouble_9 rfl (fun c7 => ?_) (fun c7 => ?_)
  · replace h := if_f c7 h
    refine g_aload_n (pc := 14) X 0 rfl dX11_trayTrouble_14 ?_
    refine g_getR (r := 1) (pc := 15) X k_fl_X11_22 s_0 rfl dX11_trayTrouble_15 ?_
    refine g_iload_n (pc := 18) X 1 rfl dX11_trayTrouble_18 ?_
    obtain ⟨c3, h⟩ := chk_e h
    refine g_aald (ak := 0) (pc := 19) X s_1 rfl rfl c3 dX11_trayTrouble_19 ?_
    obtain ⟨r5, hc4, h⟩ := bd_e h
    refine g_callV (pc := 20) X k_ml_X11_146 (run_Ty_isMissing (okTy_of c3) hc4) (sTy_0 (okTy_of c3)) rfl (room_ok (Nat.le_of_ble_eq_true rfl) (Nat.le_of_ble_eq_true rfl)) ⟨Nat.le_refl _, Nat.le_refl _⟩ _ rfl (Nat.le_of_ble_eq_true rfl) dX11_trayTrouble_20 ?_
    show Go V Γ M_X11_trayTrouble (Zm V Γ 1 fin) 23 [(0, .ref (V.2.2.1 + 0)), (1, .int p1)] [.int r5] σ
    refine g_if_eq (pc := 23) (tgt := 30) X dX11_trayTrouble_23 rfl (fun c6 => ?_) (fun c6 => ?_)
    · replace h := if_t c6 h
      refine g_iconst (v := 0) (pc := 30) X rfl dX11_trayTrouble_30 ?_
      cases h
      exact g_iret (pc := 31) X rfl rfl (hr _ hA) dX11_trayTrouble_31
    · replace h := if_f c6 h
      refine g_iconst (v := 2) (pc := 26) X rfl dX11_trayTrouble_26 ?_
      refine g_goto (pc := 27) (tgt := 31) X dX11_trayTrouble_27 rfl ?_
      cases h
      exact g_iret (pc := 31) X rfl rfl (hr _ hA) dX11_trayTrouble_31
  · replace h := if_t c7 h
    refine g_iconst (v := 1) (pc := 12) X rfl dX11_trayTrouble_12 ?_
    cases h
    exact g_iret (pc := 13) X rfl rfl (hr _ hA) dX11_trayTrouble_13
set_option maxRecDepth 100000 in
theorem run_RC_trayTrouble {V : Ev} {σ : St} {p1 : Int32} {o : Int32}   (h : RC_trayTrouble σ p1 = some o) : Rs V 1 M_X11_trayTrouble [.ref (V.2.2.1 + 0), .int p1] σ (some (.int o), σ) := by
  refine Rs.of (by decide +kernel) (Nat.le_of_ble_eq_true rfl) (fun Γ X => ?_)
  exact tm_RC_trayTrouble X (A := fun o1 => o1 = o)  (fun _ e => by rw [e]) h rfl
theorem dX11_placeTrouble_0 : decode cX11_placeTrouble 0 = .ok (.aload_n 0, 1) := by decide +kernel
theorem dX11_placeTrouble_1 : decode cX11_placeTrouble 1 = .ok (.iload_n 1, 1) := by decide +kernel
theorem dX11_placeTrouble_2 : decode cX11_placeTrouble 2 = .ok (.invokevirtual 156, 3) := by decide +kernel
theorem dX11_placeTrouble_5 : decode cX11_placeTrouble 5 = .ok (.istore_n 3, 1) := by decide +kernel
theorem dX11_placeTrouble_6 : decode cX11_placeTrouble 6 = .ok (.iload_n 3, 1) := by decide +kernel
theorem dX11_placeTrouble_7 : decode cX11_placeTrouble 7 = .ok (.ifCond .eq 5, 3) := by decide +kernel
theorem dX11_placeTrouble_10 : decode cX11_placeTrouble 10 = .ok (.iload_n 3, 1) := by decide +kernel
theorem dX11_placeTrouble_11 : decode cX11_placeTrouble 11 = .ok (.ireturn, 1) := by decide +kernel
theorem dX11_placeTrouble_12 : decode cX11_placeTrouble 12 = .ok (.aload_n 0, 1) := by decide +kernel
theorem dX11_placeTrouble_13 : decode cX11_placeTrouble 13 = .ok (.getfield 22, 3) := by decide +kernel
theorem dX11_placeTrouble_16 : decode cX11_placeTrouble 16 = .ok (.iload_n 1, 1) := by decide +kernel
theorem dX11_placeTrouble_17 : decode cX11_placeTrouble 17 = .ok (.aaload, 1) := by decide +kernel
theorem dX11_placeTrouble_18 : decode cX11_placeTrouble 18 = .ok (.iload_n 2, 1) := by decide +kernel
theorem dX11_placeTrouble_19 : decode cX11_placeTrouble 19 = .ok (.iconst 1, 1) := by decide +kernel
theorem dX11_placeTrouble_20 : decode cX11_placeTrouble 20 = .ok (.invokevirtual 152, 3) := by decide +kernel
theorem dX11_placeTrouble_23 : decode cX11_placeTrouble 23 = .ok (.ifCond .eq 7, 3) := by decide +kernel
theorem dX11_placeTrouble_26 : decode cX11_placeTrouble 26 = .ok (.iconst 0, 1) := by decide +kernel
theorem dX11_placeTrouble_27 : decode cX11_placeTrouble 27 = .ok (.goto 4, 3) := by decide +kernel
theorem dX11_placeTrouble_30 : decode cX11_placeTrouble 30 = .ok (.iconst 3, 1) := by decide +kernel
theorem dX11_placeTrouble_31 : decode cX11_placeTrouble 31 = .ok (.ireturn, 1) := by decide +kernel
noncomputable def RC_placeTrouble (σ : St) (p1 : Int32) (p2 : Int32) : Option Int32 :=
  bd (RC_trayTrouble σ p1) (fun r2 => if r2 = 0 then (chk (ix p1 4) (bd (Ty_holds σ (rfs 1 (tn p1)) p2 1) (fun r5 => if r5 = 0 then (some 3) else (some 0)))) else (some r2))
set_option maxRecDepth 100000 in
set_option maxHeartbeats 4000000 in
theorem tm_RC_placeTrouble {V : Ev} {Γ : Cn} {fin : Option Value × St} {σ : St} {p1 : Int32} {p2 : Int32} {o : Int32} (X : Cx V Γ M_X11_placeTrouble) {A : Int32 → Prop}  (hr : ∀ (r : Int32), A r → (some (.int r), σ) = fin) (h : RC_placeTrouble σ p1 p2 = some o) (hA : A o) : Go V Γ M_X11_placeTrouble (Zm V Γ 2 fin) 0 [(0, .ref (V.2.2.1 + 0)), (1, .int p1), (2, .int p2)] [] σ := by
  unfold RC_placeTrouble at h
  refine g_aload_n (pc := 0) X 0 rfl dX11_placeTrouble_0 ?_
  refine g_iload_n (pc := 1) X 1 rfl dX11_placeTrouble_1 ?_
  obtain ⟨r2, hc1, h⟩ := bd_e h
  refine g_callV (pc := 2) X k_ml_X11_156 (run_RC_trayTrouble  hc1) s_0 rfl (room_ok (Nat.le_of_ble_eq_true rfl) (Nat.le_of_ble_eq_true rfl)) ⟨Nat.le_refl _, Nat.le_refl _⟩ _ rfl (Nat.le_of_ble_eq_true rfl) dX11_placeTrouble_2 ?_
  show Go V Γ M_X11_placeTrouble (Zm V Γ 2 fin) 5 [(0, .ref (V.2.2.1 + 0)), (1, .int p1), (2, .int p2)] [.int r2] σ
  refine g_istore_n (pc := 5) X [(3, .int r2), (0, .ref (V.2.2.1 + 0)), (1, .int p1), (2, .int p2)] rfl (Nat.le_of_ble_eq_true rfl) rfl dX11_placeTrouble_5 ?_
  refine g_iload_n (pc := 6) X 0 rfl dX11_placeTrouble_6 ?_
  refine g_if_eq (pc := 7) (tgt := 12) X dX11_placeTrouble_7 rfl (fun c7 => ?_) (fun c7 => ?_)
  · replace h := if_t c7 h
    refine g_aload_n (pc := 12) X 1 rfl dX11_placeTrouble_12 ?_
    refine g_getR (r := 1) (pc := 13) X k_fl_X11_22 s_0 rfl dX11_placeTrouble_13 ?_
    refine g_iload_n (pc := 16) X 2 rfl dX11_placeTrouble_16 ?_
    obtain ⟨c3, h⟩ := chk_e h
    refine g_aald (ak := 0) (pc := 17) X s_1 rfl rfl c3 dX11_placeTrouble_17 ?_
    refine g_iload_n (pc := 18) X 3 rfl dX11_placeTrouble_18 ?_
    refine g_iconst (v := 1) (pc := 19) X rfl dX11_placeTrouble_19 ?_
    obtain ⟨r5, hc4, h⟩ := bd_e h
    refine g_callV (pc := 20) X k_ml_X11_152 (run_Ty_holds (okTy_of c3) hc4) (sTy_0 (okTy_of c3)) rfl (room_ok (Nat.le_of_ble_eq_true rfl) (Nat.le_of_ble_eq_true rfl)) ⟨Nat.le_refl _, Nat.le_refl _⟩ _ rfl (Nat.le_of_ble_eq_true rfl) dX11_placeTrouble_20 ?_
    show Go V Γ M_X11_placeTrouble (Zm V Γ 2 fin) 23 [(3, .int r2), (0, .ref (V.2.2.1 + 0)), (1, .int p1), (2, .int p2)] [.int r5] σ
    refine g_if_eq (pc := 23) (tgt := 30) X dX11_placeTrouble_23 rfl (fun c6 => ?_) (fun c6 => ?_)
    · replace h := if_t c6 h
      refine g_iconst (v := 3) (pc := 30) X rfl dX11_placeTrouble_30 ?_
      cases h
      exact g_iret (pc := 31) X rfl rfl (hr _ hA) dX11_placeTrouble_31
    · replace h := if_f c6 h
      refine g_iconst (v := 0) (pc := 26) X rfl dX11_placeTrouble_26 ?_
      refine g_goto (pc := 27) (tgt := 31) X dX11_placeTrouble_27 rfl ?_
      cases h
      exact g_iret (pc := 31) X rfl rfl (hr _ hA) dX11_placeTrouble_31
  · replace h := if_f c7 h
    refine g_iload_n (pc := 10) X 0 rfl dX11_placeTrouble_10 ?_
    cases h
    exact g_iret (pc := 11) X rfl rfl (hr _ hA) dX11_placeTrouble_11
set_option maxRecDepth 100000 in
theorem run_RC_placeTrouble {V : Ev} {σ : St} {p1 : Int32} {p2 : Int32} {o : Int32}   (h : RC_placeTrouble σ p1 p2 = some o) : Rs V 2 M_X11_placeTrouble [.ref (V.2.2.1 + 0), .int p1, .int p2] σ (some (.int o), σ) := by
  refine Rs.of (by decide +kernel) (Nat.le_of_ble_eq_true rfl) (fun Γ X => ?_)
  exact tm_RC_placeTrouble X (A := fun o1 => o1 = o)  (fun _ e => by rw [e]) h rfl
theorem dX11_write_0 : decode cX11_write 0 = .ok (.aload_n 0, 1) := by decide +kernel
theorem dX11_write_1 : decode cX11_write 1 = .ok (.iload_n 1, 1) := by decide +kernel
theorem dX11_write_2 : decode cX11_write 2 = .ok (.iload_n 2, 1) := by decide +kernel
theorem dX11_write_3 : decode cX11_write 3 = .ok (.invokevirtual 116, 3) := by decide +kernel
theorem dX11_write_6 : decode cX11_write 6 = .ok (.istore 5, 2) := by decide +kernel
theorem dX11_write_8 : decode cX11_write 8 = .ok (.iload 5, 2) := by decide +kernel
theorem dX11_write_10 : decode cX11_write 10 = .ok (.ifCond .eq 10, 3) := by decide +kernel
theorem dX11_write_13 : decode cX11_write 13 = .ok (.aload_n 0, 1) := by decide +kernel
theorem dX11_write_14 : decode cX11_write 14 = .ok (.iload 5, 2) := by decide +kernel
theorem dX11_write_16 : decode cX11_write 16 = .ok (.invokevirtual 104, 3) := by decide +kernel
theorem dX11_write_19 : decode cX11_write 19 = .ok (.ireturn, 1) := by decide +kernel
theorem dX11_write_20 : decode cX11_write 20 = .ok (.aload_n 0, 1) := by decide +kernel
theorem dX11_write_21 : decode cX11_write 21 = .ok (.getfield 22, 3) := by decide +kernel
theorem dX11_write_24 : decode cX11_write 24 = .ok (.iload_n 1, 1) := by decide +kernel
theorem dX11_write_25 : decode cX11_write 25 = .ok (.aaload, 1) := by decide +kernel
theorem dX11_write_26 : decode cX11_write 26 = .ok (.iload_n 2, 1) := by decide +kernel
theorem dX11_write_27 : decode cX11_write 27 = .ok (.lload_n 3, 1) := by decide +kernel
theorem dX11_write_28 : decode cX11_write 28 = .ok (.invokevirtual 120, 3) := by decide +kernel
theorem dX11_write_31 : decode cX11_write 31 = .ok (.aload_n 0, 1) := by decide +kernel
theorem dX11_write_32 : decode cX11_write 32 = .ok (.invokevirtual 112, 3) := by decide +kernel
theorem dX11_write_35 : decode cX11_write 35 = .ok (.ireturn, 1) := by decide +kernel
noncomputable def RC_write (σ : St) (p1 : Int32) (p2 : Int32) (p3 : Int64) : Option (Int32 × St) :=
  bd (RC_placeTrouble σ p1 p2) (fun r2 => if r2 = 0 then (chk (ix p1 4) (bd (Ty_put σ (rfs 1 (tn p1)) p2 p3) (fun σ5 => bd2 (RC_agree σ5) (fun r7 σ8 => chk (ckz r7) (some (r7, σ8)))))) else (bd2 (RC_deny σ r2) (fun r11 σ12 => chk (ckz r11) (some (r11, σ12)))))
set_option maxRecDepth 100000 in
set_option maxHeartbeats 4000000 in
theorem tm_RC_write {V : Ev} {Γ : Cn} {fin : Option Value × St} {σ : St} {p1 : Int32} {p2 : Int32} {p3 : Int64} {o : (Int32 × St)} (X : Cx V Γ M_X11_write) {A : (Int32 × St) → Prop}  (hr : ∀ (r : Int32) (σ9 : St), A (r, σ9) → (some (.int r), σ9) = fin) (h : RC_write σ p1 p2 p3 = some o) (hA : A o) : Go V Γ M_X11_write (Zm V Γ 3 fin) 0 [(0, .ref (V.2.2.1 + 0)), (1, .int p1), (2, .int p2), (3, .long p3)] [] σ := by
  unfold RC_write at h
  refine g_aload_n (pc := 0) X 0 rfl dX11_write_0 ?_
  refine g_iload_n (pc := 1) X 1 rfl dX11_write_1 ?_
  refine g_iload_n (pc := 2) X 2 rfl dX11_write_2 ?_
  obtain ⟨r2, hc1, h⟩ := bd_e h
  refine g_callV (pc := 3) X k_ml_X11_116 (run_RC_placeTrouble  hc1) s_0 rfl (room_ok (Nat.le_of_ble_eq_true rfl) (Nat.le_of_ble_eq_true rfl)) ⟨Nat.le_refl _, Nat.le_refl _⟩ _ rfl (Nat.le_of_ble_eq_true rfl) dX11_write_3 ?_
  show Go V Γ M_X11_write (Zm V Γ 3 fin) 6 [(0, .ref (V.2.2.1 + 0)), (1, .int p1), (2, .int p2), (3, .long p3)] [.int r2] σ
  refine g_istore (pc := 6) X [(5, .int r2), (0, .ref (V.2.2.1 + 0)), (1, .int p1), (2, .int p2), (3, .long p3)] (Nat.le_of_ble_eq_true rfl) rfl dX11_write_6 ?_
  refine g_iload (pc := 8) X 0 rfl dX11_write_8 ?_
  refine g_if_eq (pc := 10) (tgt := 20) X dX11_write_10 rfl (fun c14 => ?_) (fun c14 => ?_)
  · replace h := if_t c14 h
    refine g_aload_n (pc := 20) X 1 rfl dX11_write_20 ?_
    refine g_getR (r := 1) (pc := 21) X k_fl_X11_22 s_0 rfl dX11_write_21 ?_
    refine g_iload_n (pc := 24) X 2 rfl dX11_write_24 ?_
    obtain ⟨c3, h⟩ := chk_e h
    refine g_aald (ak := 0) (pc := 25) X s_1 rfl rfl c3 dX11_write_25 ?_
    refine g_iload_n (pc := 26) X 3 rfl dX11_write_26 ?_
    refine g_lload_n (pc := 27) X 4 rfl dX11_write_27 ?_
    obtain ⟨σ5, hc4, h⟩ := bd_e h
    refine g_callV (pc := 28) X k_ml_X11_120 (run_Ty_put (okTy_of c3) hc4) (sTy_0 (okTy_of c3)) rfl (room_ok (Nat.le_of_ble_eq_true rfl) (Nat.le_of_ble_eq_true rfl)) ⟨Nat.le_refl _, Nat.le_refl _⟩ _ rfl (Nat.le_of_ble_eq_true rfl) dX11_write_28 ?_
    show Go V Γ M_X11_write (Zm V Γ 3 fin) 31 [(5, .int r2), (0, .ref (V.2.2.1 + 0)), (1, .int p1), (2, .int p2), (3, .long p3)] [] σ5
    refine g_aload_n (pc := 31) X 1 rfl dX11_write_31 ?_
    obtain ⟨r7, σ8, hc6, h⟩ := bd2_e h
    refine g_callV (pc := 32) X k_ml_X11_112 (run_RC_agree  hc6) s_0 rfl (room_ok (Nat.le_of_ble_eq_true rfl) (Nat.le_of_ble_eq_true rfl)) ⟨Nat.le_refl _, Nat.le_refl _⟩ _ rfl (Nat.le_of_ble_eq_true rfl) dX11_write_32 ?_
    show Go V Γ M_X11_write (Zm V Γ 3 fin) 35 [(5, .int r2), (0, .ref (V.2.2.1 + 0)), (1, .int p1), (2, .int p2), (3, .long p3)] [.int r7] σ8
    obtain ⟨c9, h⟩ := chk_e h
    cases h
    exact g_iret (pc := 35) X rfl (ckz_e c9).1 (hr _ _ hA) dX11_write_35
  · replace h := if_f c14 h
    refine g_aload_n (pc := 13) X 1 rfl dX11_write_13 ?_
    refine g_iload (pc := 14) X 0 rfl dX11_write_14 ?_
    obtain ⟨r11, σ12, hc10, h⟩ := bd2_e h
    refine g_callV (pc := 16) X k_ml_X11_104 (run_RC_deny  hc10) s_0 rfl (room_ok (Nat.le_of_ble_eq_true rfl) (Nat.le_of_ble_eq_true rfl)) ⟨Nat.le_refl _, Nat.le_refl _⟩ _ rfl (Nat.le_of_ble_eq_true rfl) dX11_write_16 ?_
    show Go V Γ M_X11_write (Zm V Γ 3 fin) 19 [(5, .int r2), (0, .ref (V.2.2.1 + 0)), (1, .int p1), (2, .int p2), (3, .long p3)] [.int r11] σ12
    obtain ⟨c13, h⟩ := chk_e h
    cases h
    exact g_iret (pc := 19) X rfl (ckz_e c13).1 (hr _ _ hA) dX11_write_19
set_option maxRecDepth 100000 in
theorem run_RC_write {V : Ev} {σ : St} {p1 : Int32} {p2 : Int32} {p3 : Int64} {o : (Int32 × St)}   (h : RC_write σ p1 p2 p3 = some o) : Rs V 3 M_X11_write [.ref (V.2.2.1 + 0), .int p1, .int p2, .long p3] σ (some (.int o.1), o.2) := by
  refine Rs.of (by decide +kernel) (Nat.le_of_ble_eq_true rfl) (fun Γ X => ?_)
  exact tm_RC_write X (A := fun o1 => o1 = o)  (fun _ _ e => by rw [← e]) h rfl
theorem dX11_refuse_0 : decode cX11_refuse 0 = .ok (.aload_n 0, 1) := by decide +kernel
theorem dX11_refuse_1 : decode cX11_refuse 1 = .ok (.iload_n 1, 1) := by decide +kernel
theorem dX11_refuse_2 : decode cX11_refuse 2 = .ok (.putfield 9, 3) := by decide +kernel
theorem dX11_refuse_5 : decode cX11_refuse 5 = .ok (.iconst (-1), 1) := by decide +kernel
theorem dX11_refuse_6 : decode cX11_refuse 6 = .ok (.ireturn, 1) := by decide +kernel
noncomputable def RC_refuse (σ : St) (p1 : Int32) : Option (Int32 × St) :=
  bnd (wI σ 0 0 p1) (fun σ1 => some ((-1), σ1))
set_option maxRecDepth 100000 in
set_option maxHeartbeats 4000000 in
theorem tm_RC_refuse {V : Ev} {Γ : Cn} {fin : Option Value × St} {σ : St} {p1 : Int32} {o : (Int32 × St)} (X : Cx V Γ M_X11_refuse) {A : (Int32 × St) → Prop}  (hr : ∀ (r : Int32) (σ9 : St), A (r, σ9) → (some (.int r), σ9) = fin) (h : RC_refuse σ p1 = some o) (hA : A o) : Go V Γ M_X11_refuse (Zm V Γ 0 fin) 0 [(0, .ref (V.2.2.1 + 0)), (1, .int p1)] [] σ := by
  unfold RC_refuse at h
  refine g_aload_n (pc := 0) X 0 rfl dX11_refuse_0 ?_
  refine g_iload_n (pc := 1) X 1 rfl dX11_refuse_1 ?_
  refine g_putI (pc := 2) X k_fl_X11_9 s_0 rfl rfl rfl dX11_refuse_2 ?_
  obtain ⟨σ1, e_σ1, h⟩ := bnd_e h
  refine g_nmS e_σ1 ?_
  refine g_iconst (v := (-1)) (pc := 5) X rfl dX11_refuse_5 ?_
  cases h
  exact g_iret (pc := 6) X rfl rfl (hr _ _ hA) dX11_refuse_6
set_option maxRecDepth 100000 in
theorem run_RC_refuse {V : Ev} {σ : St} {p1 : Int32} {o : (Int32 × St)}   (h : RC_refuse σ p1 = some o) : Rs V 0 M_X11_refuse [.ref (V.2.2.1 + 0), .int p1] σ (some (.int o.1), o.2) := by
  refine Rs.of (by decide +kernel) (Nat.le_of_ble_eq_true rfl) (fun Γ X => ?_)
  exact tm_RC_refuse X (A := fun o1 => o1 = o)  (fun _ _ e => by rw [← e]) h rfl
theorem dX11_read_0 : decode cX11_read 0 = .ok (.aload_n 0, 1) := by decide +kernel
theorem dX11_read_1 : decode cX11_read 1 = .ok (.iload_n 1, 1) := by decide +kernel
theorem dX11_read_2 : decode cX11_read 2 = .ok (.iload_n 2, 1) := by decide +kernel
theorem dX11_read_3 : decode cX11_read 3 = .ok (.invokevirtual 116, 3) := by decide +kernel
theorem dX11_read_6 : decode cX11_read 6 = .ok (.istore_n 3, 1) := by decide +kernel
theorem dX11_read_7 : decode cX11_read 7 = .ok (.iload_n 3, 1) := by decide +kernel
theorem dX11_read_8 : decode cX11_read 8 = .ok (.ifCond .eq 10, 3) := by decide +kernel
theorem dX11_read_11 : decode cX11_read 11 = .ok (.aload_n 0, 1) := by decide +kernel
theorem dX11_read_12 : decode cX11_read 12 = .ok (.iload_n 3, 1) := by decide +kernel
theorem dX11_read_13 : decode cX11_read 13 = .ok (.invokevirtual 124, 3) := by decide +kernel
theorem dX11_read_16 : decode cX11_read 16 = .ok (.i2l, 1) := by decide +kernel
theorem dX11_read_17 : decode cX11_read 17 = .ok (.lreturn, 1) := by decide +kernel
theorem dX11_read_18 : decode cX11_read 18 = .ok (.aload_n 0, 1) := by decide +kernel
theorem dX11_read_19 : decode cX11_read 19 = .ok (.iconst 0, 1) := by decide +kernel
theorem dX11_read_20 : decode cX11_read 20 = .ok (.putfield 9, 3) := by decide +kernel
theorem dX11_read_23 : decode cX11_read 23 = .ok (.aload_n 0, 1) := by decide +kernel
theorem dX11_read_24 : decode cX11_read 24 = .ok (.getfield 22, 3) := by decide +kernel
theorem dX11_read_27 : decode cX11_read 27 = .ok (.iload_n 1, 1) := by decide +kernel
theorem dX11_read_28 : decode cX11_read 28 = .ok (.aaload, 1) := by decide +kernel
theorem dX11_read_29 : decode cX11_read 29 = .ok (.iload_n 2, 1) := by decide +kernel
theorem dX11_read_30 : decode cX11_read 30 = .ok (.invokevirtual 128, 3) := by decide +kernel
theorem dX11_read_33 : decode cX11_read 33 = .ok (.lreturn, 1) := by decide +kernel
noncomputable def RC_read (σ : St) (p1 : Int32) (p2 : Int32) : Option (Int64 × St) :=
  bd (RC_placeTrouble σ p1 p2) (fun r2 => if r2 = 0 then (bnd (wI σ 0 0 0) (fun σ3 => chk (ix p1 4) (bd (Ty_at σ3 (rfs 1 (tn p1)) p2) (fun r6 => some (r6, σ3))))) else (bd2 (RC_refuse σ r2) (fun r8 σ9 => some (r8.toInt64, σ9))))
set_option maxRecDepth 100000 in
set_option maxHeartbeats 4000000 in
theorem tm_RC_read {V : Ev} {Γ : Cn} {fin : Option Value × St} {σ : St} {p1 : Int32} {p2 : Int32} {o : (Int64 × St)} (X : Cx V Γ M_X11_read) {A : (Int64 × St) → Prop}  (hr : ∀ (r : Int64) (σ9 : St), A (r, σ9) → (some (.long r), σ9) = fin) (h : RC_read σ p1 p2 = some o) (hA : A o) : Go V Γ M_X11_read (Zm V Γ 3 fin) 0 [(0, .ref (V.2.2.1 + 0)), (1, .int p1), (2, .int p2)] [] σ := by
  unfold RC_read at h
  refine g_aload_n (pc := 0) X 0 rfl dX11_read_0 ?_
  refine g_iload_n (pc := 1) X 1 rfl dX11_read_1 ?_
  refine g_iload_n (pc := 2) X 2 rfl dX11_read_2 ?_
  obtain ⟨r2, hc1, h⟩ := bd_e h
  refine g_callV (pc := 3) X k_ml_X11_116 (run_RC_placeTrouble  hc1) s_0 rfl (room_ok (Nat.le_of_ble_eq_true rfl) (Nat.le_of_ble_eq_true rfl)) ⟨Nat.le_refl _, Nat.le_refl _⟩ _ rfl (Nat.le_of_ble_eq_true rfl) dX11_read_3 ?_
  show Go V Γ M_X11_read (Zm V Γ 3 fin) 6 [(0, .ref (V.2.2.1 + 0)), (1, .int p1), (2, .int p2)] [.int r2] σ
  refine g_istore_n (pc := 6) X [(3, .int r2), (0, .ref (V.2.2.1 + 0)), (1, .int p1), (2, .int p2)] rfl (Nat.le_of_ble_eq_true rfl) rfl dX11_read_6 ?_
  refine g_iload_n (pc := 7) X 0 rfl dX11_read_7 ?_
  refine g_if_eq (pc := 8) (tgt := 18) X dX11_read_8 rfl (fun c10 => ?_) (fun c10 => ?_)
  · replace h := if_t c10 h
    refine g_aload_n (pc := 18) X 1 rfl dX11_read_18 ?_
    refine g_iconst (v := 0) (pc := 19) X rfl dX11_read_19 ?_
    refine g_putI (pc := 20) X k_fl_X11_9 s_0 rfl rfl rfl dX11_read_20 ?_
    obtain ⟨σ3, e_σ3, h⟩ := bnd_e h
    refine g_nmS e_σ3 ?_
    refine g_aload_n (pc := 23) X 1 rfl dX11_read_23 ?_
    refine g_getR (r := 1) (pc := 24) X k_fl_X11_22 s_0 rfl dX11_read_24 ?_
    refine g_iload_n (pc := 27) X 2 rfl dX11_read_27 ?_
    obtain ⟨c4, h⟩ := chk_e h
    refine g_aald (ak := 0) (pc := 28) X s_1 rfl rfl c4 dX11_read_28 ?_
    refine g_iload_n (pc := 29) X 3 rfl dX11_read_29 ?_
    obtain ⟨r6, hc5, h⟩ := bd_e h
    refine g_callV (pc := 30) X k_ml_X11_128 (run_Ty_at (okTy_of c4) hc5) (sTy_0 (okTy_of c4)) rfl (room_ok (Nat.le_of_ble_eq_true rfl) (Nat.le_of_ble_eq_true rfl)) ⟨Nat.le_refl _, Nat.le_refl _⟩ _ rfl (Nat.le_of_ble_eq_true rfl) dX11_read_30 ?_
    show Go V Γ M_X11_read (Zm V Γ 3 fin) 33 [(3, .int r2), (0, .ref (V.2.2.1 + 0)), (1, .int p1), (2, .int p2)] [.long r6] σ3
    cases h
    exact g_lret (pc := 33) X rfl (hr _ _ hA) dX11_read_33
  · replace h := if_f c10 h
    refine g_aload_n (pc := 11) X 1 rfl dX11_read_11 ?_
    refine g_iload_n (pc := 12) X 0 rfl dX11_read_12 ?_
    obtain ⟨r8, σ9, hc7, h⟩ := bd2_e h
    refine g_callV (pc := 13) X k_ml_X11_124 (run_RC_refuse  hc7) s_0 rfl (room_ok (Nat.le_of_ble_eq_true rfl) (Nat.le_of_ble_eq_true rfl)) ⟨Nat.le_refl _, Nat.le_refl _⟩ _ rfl (Nat.le_of_ble_eq_true rfl) dX11_read_13 ?_
    show Go V Γ M_X11_read (Zm V Γ 3 fin) 16 [(3, .int r2), (0, .ref (V.2.2.1 + 0)), (1, .int p1), (2, .int p2)] [.int r8] σ9
    refine g_i2l (pc := 16) X dX11_read_16 ?_
    cases h
    exact g_lret (pc := 17) X rfl (hr _ _ hA) dX11_read_17
set_option maxRecDepth 100000 in
theorem run_RC_read {V : Ev} {σ : St} {p1 : Int32} {p2 : Int32} {o : (Int64 × St)}   (h : RC_read σ p1 p2 = some o) : Rs V 3 M_X11_read [.ref (V.2.2.1 + 0), .int p1, .int p2] σ (some (.long o.1), o.2) := by
  refine Rs.of (by decide +kernel) (Nat.le_of_ble_eq_true rfl) (fun Γ X => ?_)
  exact tm_RC_read X (A := fun o1 => o1 = o)  (fun _ _ e => by rw [← e]) h rfl
theorem dX11_pourTrouble_0 : decode cX11_pourTrouble 0 = .ok (.iload_n 1, 1) := by decide +kernel
theorem dX11_pourTrouble_1 : decode cX11_pourTrouble 1 = .ok (.i2l, 1) := by decide +kernel
theorem dX11_pourTrouble_2 : decode cX11_pourTrouble 2 = .ok (.lconst 0, 1) := by decide +kernel
theorem dX11_pourTrouble_3 : decode cX11_pourTrouble 3 = .ok (.ldc2_w 96, 3) := by decide +kernel
theorem dX11_pourTrouble_6 : decode cX11_pourTrouble 6 = .ok (.invokestatic 98, 3) := by decide +kernel
theorem dX11_pourTrouble_9 : decode cX11_pourTrouble 9 = .ok (.ifCond .eq 29, 3) := by decide +kernel
theorem dX11_pourTrouble_12 : decode cX11_pourTrouble 12 = .ok (.iload_n 3, 1) := by decide +kernel
theorem dX11_pourTrouble_13 : decode cX11_pourTrouble 13 = .ok (.i2l, 1) := by decide +kernel
theorem dX11_pourTrouble_14 : decode cX11_pourTrouble 14 = .ok (.lconst 0, 1) := by decide +kernel
theorem dX11_pourTrouble_15 : decode cX11_pourTrouble 15 = .ok (.ldc2_w 96, 3) := by decide +kernel
theorem dX11_pourTrouble_18 : decode cX11_pourTrouble 18 = .ok (.invokestatic 98, 3) := by decide +kernel
theorem dX11_pourTrouble_21 : decode cX11_pourTrouble 21 = .ok (.ifCond .eq 17, 3) := by decide +kernel
theorem dX11_pourTrouble_24 : decode cX11_pourTrouble 24 = .ok (.iload_n 2, 1) := by decide +kernel
theorem dX11_pourTrouble_25 : decode cX11_pourTrouble 25 = .ok (.ifCond .lt 13, 3) := by decide +kernel
theorem dX11_pourTrouble_28 : decode cX11_pourTrouble 28 = .ok (.iload 4, 2) := by decide +kernel
theorem dX11_pourTrouble_30 : decode cX11_pourTrouble 30 = .ok (.ifCond .lt 8, 3) := by decide +kernel
theorem dX11_pourTrouble_33 : decode cX11_pourTrouble 33 = .ok (.iload 5, 2) := by decide +kernel
theorem dX11_pourTrouble_35 : decode cX11_pourTrouble 35 = .ok (.ifCond .ge 5, 3) := by decide +kernel
theorem dX11_pourTrouble_38 : decode cX11_pourTrouble 38 = .ok (.iconst 1, 1) := by decide +kernel
theorem dX11_pourTrouble_39 : decode cX11_pourTrouble 39 = .ok (.ireturn, 1) := by decide +kernel
theorem dX11_pourTrouble_40 : decode cX11_pourTrouble 40 = .ok (.aload_n 0, 1) := by decide +kernel
theorem dX11_pourTrouble_41 : decode cX11_pourTrouble 41 = .ok (.getfield 22, 3) := by decide +kernel
theorem dX11_pourTrouble_44 : decode cX11_pourTrouble 44 = .ok (.iload_n 1, 1) := by decide +kernel
theorem dX11_pourTrouble_45 : decode cX11_pourTrouble 45 = .ok (.aaload, 1) := by decide +kernel
theorem dX11_pourTrouble_46 : decode cX11_pourTrouble 46 = .ok (.invokevirtual 146, 3) := by decide +kernel
theorem dX11_pourTrouble_49 : decode cX11_pourTrouble 49 = .ok (.ifCond .ne 15, 3) := by decide +kernel
theorem dX11_pourTrouble_52 : decode cX11_pourTrouble 52 = .ok (.aload_n 0, 1) := by decide +kernel
theorem dX11_pourTrouble_53 : decode cX11_pourTrouble 53 = .ok (.getfield 22, 3) := by decide +kernel
theorem dX11_pourTrouble_56 : decode cX11_pourTrouble 56 = .ok (.iload_n 3, 1) := by decide +kernel
theorem dX11_pourTrouble_57 : decode cX11_pourTrouble 57 = .ok (.aaload, 1) := by decide +kernel
theorem dX11_pourTrouble_58 : decode cX11_pourTrouble 58 = .ok (.invokevirtual 146, 3) := by decide +kernel
theorem dX11_pourTrouble_61 : decode cX11_pourTrouble 61 = .ok (.ifCond .eq 5, 3) := by decide +kernel
theorem dX11_pourTrouble_64 : decode cX11_pourTrouble 64 = .ok (.iconst 2, 1) := by decide +kernel
theorem dX11_pourTrouble_65 : decode cX11_pourTrouble 65 = .ok (.ireturn, 1) := by decide +kernel
theorem dX11_pourTrouble_66 : decode cX11_pourTrouble 66 = .ok (.aload_n 0, 1) := by decide +kernel
theorem dX11_pourTrouble_67 : decode cX11_pourTrouble 67 = .ok (.getfield 22, 3) := by decide +kernel
theorem dX11_pourTrouble_70 : decode cX11_pourTrouble 70 = .ok (.iload_n 1, 1) := by decide +kernel
theorem dX11_pourTrouble_71 : decode cX11_pourTrouble 71 = .ok (.aaload, 1) := by decide +kernel
theorem dX11_pourTrouble_72 : decode cX11_pourTrouble 72 = .ok (.getfield 149, 3) := by decide +kernel
theorem dX11_pourTrouble_75 : decode cX11_pourTrouble 75 = .ok (.aload_n 0, 1) := by decide +kernel
theorem dX11_pourTrouble_76 : decode cX11_pourTrouble 76 = .ok (.getfield 22, 3) := by decide +kernel
theorem dX11_pourTrouble_79 : decode cX11_pourTrouble 79 = .ok (.iload_n 3, 1) := by decide +kernel
theorem dX11_pourTrouble_80 : decode cX11_pourTrouble 80 = .ok (.aaload, 1) := by decide +kernel
theorem dX11_pourTrouble_81 : decode cX11_pourTrouble 81 = .ok (.getfield 149, 3) := by decide +kernel
theorem dX11_pourTrouble_84 : decode cX11_pourTrouble 84 = .ok (.if_icmp .eq 6, 3) := by decide +kernel
theorem dX11_pourTrouble_87 : decode cX11_pourTrouble 87 = .ok (.bipush 8, 2) := by decide +kernel
theorem dX11_pourTrouble_89 : decode cX11_pourTrouble 89 = .ok (.ireturn, 1) := by decide +kernel
theorem dX11_pourTrouble_90 : decode cX11_pourTrouble 90 = .ok (.aload_n 0, 1) := by decide +kernel
theorem dX11_pourTrouble_91 : decode cX11_pourTrouble 91 = .ok (.getfield 22, 3) := by decide +kernel
theorem dX11_pourTrouble_94 : decode cX11_pourTrouble 94 = .ok (.iload_n 1, 1) := by decide +kernel
theorem dX11_pourTrouble_95 : decode cX11_pourTrouble 95 = .ok (.aaload, 1) := by decide +kernel
theorem dX11_pourTrouble_96 : decode cX11_pourTrouble 96 = .ok (.iload_n 2, 1) := by decide +kernel
theorem dX11_pourTrouble_97 : decode cX11_pourTrouble 97 = .ok (.iload 5, 2) := by decide +kernel
theorem dX11_pourTrouble_99 : decode cX11_pourTrouble 99 = .ok (.invokevirtual 152, 3) := by decide +kernel
theorem dX11_pourTrouble_102 : decode cX11_pourTrouble 102 = .ok (.ifCond .eq 23, 3) := by decide +kernel
theorem dX11_pourTrouble_105 : decode cX11_pourTrouble 105 = .ok (.aload_n 0, 1) := by decide +kernel
theorem dX11_pourTrouble_106 : decode cX11_pourTrouble 106 = .ok (.getfield 22, 3) := by decide +kernel
theorem dX11_pourTrouble_109 : decode cX11_pourTrouble 109 = .ok (.iload_n 3, 1) := by decide +kernel
theorem dX11_pourTrouble_110 : decode cX11_pourTrouble 110 = .ok (.aaload, 1) := by decide +kernel
theorem dX11_pourTrouble_111 : decode cX11_pourTrouble 111 = .ok (.iload 4, 2) := by decide +kernel
theorem dX11_pourTrouble_113 : decode cX11_pourTrouble 113 = .ok (.iload 5, 2) := by decide +kernel
theorem dX11_pourTrouble_115 : decode cX11_pourTrouble 115 = .ok (.invokevirtual 152, 3) := by decide +kernel
theorem dX11_pourTrouble_118 : decode cX11_pourTrouble 118 = .ok (.ifCond .eq 7, 3) := by decide +kernel
theorem dX11_pourTrouble_121 : decode cX11_pourTrouble 121 = .ok (.iconst 0, 1) := by decide +kernel
theorem dX11_pourTrouble_122 : decode cX11_pourTrouble 122 = .ok (.goto 4, 3) := by decide +kernel
theorem dX11_pourTrouble_125 : decode cX11_pourTrouble 125 = .ok (.iconst 3, 1) := by decide +kernel
theorem dX11_pourTrouble_126 : decode cX11_pourTrouble 126 = .ok (.ireturn, 1) := by decide +kernel
noncomputable def RC_pourTrouble (σ : St) (p1 : Int32) (p2 : Int32) (p3 : Int32) (p4 : Int32) (p5 : Int32) : Option Int32 :=
  bd (RC_within p1.toInt64 0 3) (fun r2 => if r2 = 0 then (some 1) else (bd (RC_within p3.toInt64 0 3) (fun r4 => if r4 = 0 then (some 1) else (if p2 < 0 then (some 1) else (if p4 < 0 then (some 1) else (if 0 ≤ p5 then (chk (ix p1 4) (bd (Ty_isMissing σ (rfs 1 (tn p1))) (fun r7 => if r7 = 0 then (chk (ix p3 4) (bd (Ty_isMissing σ (rfs 1 (tn p3))) (fun r10 => if r10 = 0 then (chk (ix p1 4) (chk (ix p3 4) (if (σ.1 (rfs 1 (tn p1)) 1) = (σ.1 (rfs 1 (tn p3)) 1) then (chk (ix p1 4) (bd (Ty_holds σ (rfs 1 (tn p1)) p2 p5) (fun r15 => if r15 = 0 then (some 3) else (chk (ix p3 4) (bd (Ty_holds σ (rfs 1 (tn p3)) p4 p5) (fun r18 => if r18 = 0 then (some 3) else (some 0))))))) else (some 8)))) else (some 2)))) else (some 2)))) else (some 1)))))))
set_option maxRecDepth 100000 in
set_option maxHeartbeats 4000000 in
theorem tm_RC_pourTrouble {V : Ev} {Γ : Cn} {fin : Option Value × St} {σ : St} {p1 : Int32} {p2 : Int32} {p3 : Int32} {p4 : Int32} {p5 : Int32} {o : Int32} (X : Cx V Γ M_X11_pourTrouble) {A : Int32 → Prop}  (hr : ∀ (r : Int32), A r → (some (.int r), σ) = fin) (h : RC_pourTrouble σ p1 p2 p3 p4 p5 = some o) (hA : A o) : Go V Γ M_X11_pourTrouble (Zm V Γ 1 fin) 0 [(0, .ref (V.2.2.1 + 0)), (1, .int p1), (2, .int p2), (3, .int p3), (4, .int p4), (5, .int p5)] [] σ := by
  unfold RC_pourTrouble at h
  refine g_iload_n (pc := 0) X 1 rfl dX11_pourTrouble_0 ?_
  refine g_i2l (pc := 1) X dX11_pourTrouble_1 ?_
  refine g_lconst (v := 0) (pc := 2) X rfl dX11_pourTrouble_2 ?_
  refine g_ldc2 (v := 3) (pc := 3) X k_constl_X11_96 dX11_pourTrouble_3 ?_
  obtain ⟨r2, hc1, h⟩ := bd_e h
  refine g_callS (pc := 6) X k_ml_X11_98 (run_RC_within  hc1) rfl (room_ok (Nat.le_of_ble_eq_true rfl) (Nat.le_of_ble_eq_true rfl)) ⟨Nat.le_refl _, Nat.le_refl _⟩ _ rfl (Nat.le_of_ble_eq_true rfl) dX11_pourTrouble_6 ?_
  show Go V Γ M_X11_pourTrouble (Zm V Γ 1 fin) 9 [(0, .ref (V.2.2.1 + 0)), (1, .int p1), (2, .int p2), (3, .int p3), (4, .int p4), (5, .int p5)] [.int r2] σ
  refine g_if_eq (pc := 9) (tgt := 38) X dX11_pourTrouble_9 rfl (fun c28 => ?_) (fun c28 => ?_)
  · replace h := if_t c28 h
    refine g_iconst (v := 1) (pc := 38) X rfl dX11_pourTrouble_38 ?_
    cases h
    exact g_iret (pc := 39) X rfl rfl (hr _ hA) dX11_pourTrouble_39
  · replace h := if_f c28 h
    refine g_iload_n (pc := 12) X 3 rfl dX11_pourTrouble_12 ?_
    refine g_i2l (pc := 13) X dX11_pourTrouble_13 ?_
    refine g_lconst (v := 0) (pc := 14) X rfl dX11_pourTrouble_14 ?_
    refine g_ldc2 (v := 3) (pc := 15) X k_constl_X11_96 dX11_pourTrouble_15 ?_
    obtain ⟨r4, hc3, h⟩ := bd_e h
    refine g_callS (pc := 18) X k_ml_X11_98 (run_RC_within  hc3) rfl (room_ok (Nat.le_of_ble_eq_true rfl) (Nat.le_of_ble_eq_true rfl)) ⟨Nat.le_refl _, Nat.le_refl _⟩ _ rfl (Nat.le_of_ble_eq_true rfl) dX11_pourTrouble_18 ?_
    show Go V Γ M_X11_pourTrouble (Zm V Γ 1 fin) 21 [(0, .ref (V.2.2.1 + 0)), (1, .int p1), (2, .int p2), (3, .int p3), (4, .int p4), (5, .int p5)] [.int r4] σ
    refine g_if_eq (pc := 21) (tgt := 38) X dX11_pourTrouble_21 rfl (fun c27 => ?_) (fun c27 => ?_)
    · replace h := if_t c27 h
      refine g_iconst (v := 1) (pc := 38) X rfl dX11_pourTrouble_38 ?_
      cases h
      exact g_iret (pc := 39) X rfl rfl (hr _ hA) dX11_pourTrouble_39
    · replace h := if_f c27 h
      refine g_iload_n (pc := 24) X 2 rfl dX11_pourTrouble_24 ?_
      refine g_if_lt (pc := 25) (tgt := 38) X dX11_pourTrouble_25 rfl (fun c26 => ?_) (fun c26 => ?_)
      · replace h := if_t c26 h
        refine g_iconst (v := 1) (pc := 38) X rfl dX11_pourTrouble_38 ?_
        cases h
        exact g_iret (pc := 39) X rfl rfl (hr _ hA) dX11_pourTrouble_39
      · replace h := if_f c26 h
        refine g_iload (pc := 28) X 4 rfl dX11_pourTrouble_28 ?_
        refine g_if_lt (pc := 30) (tgt := 38) X dX11_pourTrouble_30 rfl (fun c25 => ?_) (fun c25 => ?_)
        · replace h := if_t c25 h
          refine g_iconst (v := 1) (pc := 38) X rfl dX11_pourTrouble_38 ?_
          cases h
          exact g_iret (pc := 39) X rfl rfl (hr _ hA) dX11_pourTrouble_39
        · replace h := if_f c25 h
          refine g_iload (pc := 33) X 5 rfl dX11_pourTrouble_33 ?_
          refine g_if_ge (pc := 35) (tgt := 40) X dX11_pourTrouble_35 rfl (fun c24 => ?_) (fun c24 => ?_)
          · replace h := if_t c24 h
            refine g_aload_n (pc := 40) X 0 rfl dX11_pourTrouble_40 ?_
            refine g_getR (r := 1) (pc := 41) X k_fl_X11_22 s_0 rfl dX11_pourTrouble_41 ?_
            refine g_iload_n (pc := 44) X 1 rfl dX11_pourTrouble_44 ?_
            obtain ⟨c5, h⟩ := chk_e h
            refine g_aald (ak := 0) (pc := 45) X s_1 rfl rfl c5 dX11_pourTrouble_45 ?_
            obtain ⟨r7, hc6, h⟩ := bd_e h
            refine g_callV (pc := 46) X k_ml_X11_146 (run_Ty_isMissing (okTy_of c5) hc6) (sTy_0 (okTy_of c5)) rfl (room_ok (Nat.le_of_ble_eq_true rfl) (Nat.le_of_ble_eq_true rfl)) ⟨Nat.le_refl _, Nat.le_refl _⟩ _ rfl (Nat.le_of_ble_eq_true rfl) dX11_pourTrouble_46 ?_
            show Go V Γ M_X11_pourTrouble (Zm V Γ 1 fin) 49 [(0, .ref (V.2.2.1 + 0)), (1, .int p1), (2, .int p2), (3, .int p3), (4, .int p4), (5, .int p5)] [.int r7] σ
            refine g_if_ne (pc := 49) (tgt := 64) X dX11_pourTrouble_49 rfl (fun c23 => ?_) (fun c23 => ?_)
            · replace h := if_f c23 h
              refine g_iconst (v := 2) (pc := 64) X rfl dX11_pourTrouble_64 ?_
              cases h
              exact g_iret (pc := 65) X rfl rfl (hr _ hA) dX11_pourTrouble_65
            · replace h := if_t c23 h
              refine g_aload_n (pc := 52) X 0 rfl dX11_pourTrouble_52 ?_
              refine g_getR (r := 1) (pc := 53) X k_fl_X11_22 s_0 rfl dX11_pourTrouble_53 ?_
              refine g_iload_n (pc := 56) X 3 rfl dX11_pourTrouble_56 ?_
              obtain ⟨c8, h⟩ := chk_e h
              refine g_aald (ak := 0) (pc := 57) X s_1 rfl rfl c8 dX11_pourTrouble_57 ?_
              obtain ⟨r10, hc9, h⟩ := bd_e h
              refine g_callV (pc := 58) X k_ml_X11_146 (run_Ty_isMissing (okTy_of c8) hc9) (sTy_0 (okTy_of c8)) rfl (room_ok (Nat.le_of_ble_eq_true rfl) (Nat.le_of_ble_eq_true rfl)) ⟨Nat.le_refl _, Nat.le_refl _⟩ _ rfl (Nat.le_of_ble_eq_true rfl) dX11_pourTrouble_58 ?_
              show Go V Γ M_X11_pourTrouble (Zm V Γ 1 fin) 61 [(0, .ref (V.2.2.1 + 0)), (1, .int p1), (2, .int p2), (3, .int p3), (4, .int p4), (5, .int p5)] [.int r10] σ
              refine g_if_eq (pc := 61) (tgt := 66) X dX11_pourTrouble_61 rfl (fun c22 => ?_) (fun c22 => ?_)
              · replace h := if_t c22 h
                refine g_aload_n (pc := 66) X 0 rfl dX11_pourTrouble_66 ?_
                refine g_getR (r := 1) (pc := 67) X k_fl_X11_22 s_0 rfl dX11_pourTrouble_67 ?_
                refine g_iload_n (pc := 70) X 1 rfl dX11_pourTrouble_70 ?_
                obtain ⟨c11, h⟩ := chk_e h
                refine g_aald (ak := 0) (pc := 71) X s_1 rfl rfl c11 dX11_pourTrouble_71 ?_
                refine g_getI (pc := 72) X k_fl_X11_149 (sTy_0 (okTy_of c11)) rfl dX11_pourTrouble_72 ?_
                refine g_aload_n (pc := 75) X 0 rfl dX11_pourTrouble_75 ?_
                refine g_getR (r := 1) (pc := 76) X k_fl_X11_22 s_0 rfl dX11_pourTrouble_76 ?_
                refine g_iload_n (pc := 79) X 3 rfl dX11_pourTrouble_79 ?_
                obtain ⟨c12, h⟩ := chk_e h
                refine g_aald (ak := 0) (pc := 80) X s_1 rfl rfl c12 dX11_pourTrouble_80 ?_
                refine g_getI (pc := 81) X k_fl_X11_149 (sTy_0 (okTy_of c12)) rfl dX11_pourTrouble_81 ?_
                refine g_icmp_eq (pc := 84) (tgt := 90) X dX11_pourTrouble_84 rfl (fun c21 => ?_) (fun c21 => ?_)
                · replace h := if_t c21 h
                  refine g_aload_n (pc := 90) X 0 rfl dX11_pourTrouble_90 ?_
                  refine g_getR (r := 1) (pc := 91) X k_fl_X11_22 s_0 rfl dX11_pourTrouble_91 ?_
                  refine g_iload_n (pc := 94) X 1 rfl dX11_pourTrouble_94 ?_
                  obtain ⟨c13, h⟩ := chk_e h
                  refine g_aald (ak := 0) (pc := 95) X s_1 rfl rfl c13 dX11_pourTrouble_95 ?_
                  refine g_iload_n (pc := 96) X 2 rfl dX11_pourTrouble_96 ?_
                  refine g_iload (pc := 97) X 5 rfl dX11_pourTrouble_97 ?_
                  obtain ⟨r15, hc14, h⟩ := bd_e h
                  refine g_callV (pc := 99) X k_ml_X11_152 (run_Ty_holds (okTy_of c13) hc14) (sTy_0 (okTy_of c13)) rfl (room_ok (Nat.le_of_ble_eq_true rfl) (Nat.le_of_ble_eq_true rfl)) ⟨Nat.le_refl _, Nat.le_refl _⟩ _ rfl (Nat.le_of_ble_eq_true rfl) dX11_pourTrouble_99 ?_
                  show Go V Γ M_X11_pourTrouble (Zm V Γ 1 fin) 102 [(0, .ref (V.2.2.1 + 0)), (1, .int p1), (2, .int p2), (3, .int p3), (4, .int p4), (5, .int p5)] [.int r15] σ
                  refine g_if_eq (pc := 102) (tgt := 125) X dX11_pourTrouble_102 rfl (fun c20 => ?_) (fun c20 => ?_)
                  · replace h := if_t c20 h
                    refine g_iconst (v := 3) (pc := 125) X rfl dX11_pourTrouble_125 ?_
                    cases h
                    exact g_iret (pc := 126) X rfl rfl (hr _ hA) dX11_pourTrouble_126
                  · replace h := if_f c20 h
                    refine g_aload_n (pc := 105) X 0 rfl dX11_pourTrouble_105 ?_
                    refine g_getR (r := 1) (pc := 106) X k_fl_X11_22 s_0 rfl dX11_pourTrouble_106 ?_
                    refine g_iload_n (pc := 109) X 3 rfl dX11_pourTrouble_109 ?_
                    obtain ⟨c16, h⟩ := chk_e h
                    refine g_aald (ak := 0) (pc := 110) X s_1 rfl rfl c16 dX11_pourTrouble_110 ?_
                    refine g_iload (pc := 111) X 4 rfl dX11_pourTrouble_111 ?_
                    refine g_iload (pc := 113) X 5 rfl dX11_pourTrouble_113 ?_
                    obtain ⟨r18, hc17, h⟩ := bd_e h
                    refine g_callV (pc := 115) X k_ml_X11_152 (run_Ty_holds (okTy_of c16) hc17) (sTy_0 (okTy_of c16)) rfl (room_ok (Nat.le_of_ble_eq_true rfl) (Nat.le_of_ble_eq_true rfl)) ⟨Nat.le_refl _, Nat.le_refl _⟩ _ rfl (Nat.le_of_ble_eq_true rfl) dX11_pourTrouble_115 ?_
                    show Go V Γ M_X11_pourTrouble (Zm V Γ 1 fin) 118 [(0, .ref (V.2.2.1 + 0)), (1, .int p1), (2, .int p2), (3, .int p3), (4, .int p4), (5, .int p5)] [.int r18] σ
                    refine g_if_eq (pc := 118) (tgt := 125) X dX11_pourTrouble_118 rfl (fun c19 => ?_) (fun c19 => ?_)
                    · replace h := if_t c19 h
                      refine g_iconst (v := 3) (pc := 125) X rfl dX11_pourTrouble_125 ?_
                      cases h
                      exact g_iret (pc := 126) X rfl rfl (hr _ hA) dX11_pourTrouble_126
                    · replace h := if_f c19 h
                      refine g_iconst (v := 0) (pc := 121) X rfl dX11_pourTrouble_121 ?_
                      refine g_goto (pc := 122) (tgt := 126) X dX11_pourTrouble_122 rfl ?_
                      cases h
                      exact g_iret (pc := 126) X rfl rfl (hr _ hA) dX11_pourTrouble_126
                · replace h := if_f c21 h
                  refine g_bipush (v := 8) (pc := 87) X (by decide) dX11_pourTrouble_87 ?_
                  cases h
                  exact g_iret (pc := 89) X rfl rfl (hr _ hA) dX11_pourTrouble_89
              · replace h := if_f c22 h
                refine g_iconst (v := 2) (pc := 64) X rfl dX11_pourTrouble_64 ?_
                cases h
                exact g_iret (pc := 65) X rfl rfl (hr _ hA) dX11_pourTrouble_65
          · replace h := if_f c24 h
            refine g_iconst (v := 1) (pc := 38) X rfl dX11_pourTrouble_38 ?_
            cases h
            exact g_iret (pc := 39) X rfl rfl (hr _ hA) dX11_pourTrouble_39
set_option maxRecDepth 100000 in
theorem run_RC_pourTrouble {V : Ev} {σ : St} {p1 : Int32} {p2 : Int32} {p3 : Int32} {p4 : Int32} {p5 : Int32} {o : Int32}   (h : RC_pourTrouble σ p1 p2 p3 p4 p5 = some o) : Rs V 1 M_X11_pourTrouble [.ref (V.2.2.1 + 0), .int p1, .int p2, .int p3, .int p4, .int p5] σ (some (.int o), σ) := by
  refine Rs.of (by decide +kernel) (Nat.le_of_ble_eq_true rfl) (fun Γ X => ?_)
  exact tm_RC_pourTrouble X (A := fun o1 => o1 = o)  (fun _ e => by rw [e]) h rfl
theorem dX11_pour_0 : decode cX11_pour 0 = .ok (.aload_n 0, 1) := by decide +kernel
theorem dX11_pour_1 : decode cX11_pour 1 = .ok (.iload_n 1, 1) := by decide +kernel
theorem dX11_pour_2 : decode cX11_pour 2 = .ok (.iload_n 2, 1) := by decide +kernel
theorem dX11_pour_3 : decode cX11_pour 3 = .ok (.iload_n 3, 1) := by decide +kernel
theorem dX11_pour_4 : decode cX11_pour 4 = .ok (.iload 4, 2) := by decide +kernel
theorem dX11_pour_6 : decode cX11_pour 6 = .ok (.iload 5, 2) := by decide +kernel
theorem dX11_pour_8 : decode cX11_pour 8 = .ok (.invokevirtual 132, 3) := by decide +kernel
theorem dX11_pour_11 : decode cX11_pour 11 = .ok (.istore 6, 2) := by decide +kernel
theorem dX11_pour_13 : decode cX11_pour 13 = .ok (.iload 6, 2) := by decide +kernel
theorem dX11_pour_15 : decode cX11_pour 15 = .ok (.ifCond .eq 10, 3) := by decide +kernel
theorem dX11_pour_18 : decode cX11_pour 18 = .ok (.aload_n 0, 1) := by decide +kernel
theorem dX11_pour_19 : decode cX11_pour 19 = .ok (.iload 6, 2) := by decide +kernel
theorem dX11_pour_21 : decode cX11_pour 21 = .ok (.invokevirtual 104, 3) := by decide +kernel
theorem dX11_pour_24 : decode cX11_pour 24 = .ok (.ireturn, 1) := by decide +kernel
theorem dX11_pour_25 : decode cX11_pour 25 = .ok (.aload_n 0, 1) := by decide +kernel
theorem dX11_pour_26 : decode cX11_pour 26 = .ok (.getfield 22, 3) := by decide +kernel
theorem dX11_pour_29 : decode cX11_pour 29 = .ok (.iload_n 1, 1) := by decide +kernel
theorem dX11_pour_30 : decode cX11_pour 30 = .ok (.aaload, 1) := by decide +kernel
theorem dX11_pour_31 : decode cX11_pour 31 = .ok (.getfield 136, 3) := by decide +kernel
theorem dX11_pour_34 : decode cX11_pour 34 = .ok (.iload_n 2, 1) := by decide +kernel
theorem dX11_pour_35 : decode cX11_pour 35 = .ok (.aload_n 0, 1) := by decide +kernel
theorem dX11_pour_36 : decode cX11_pour 36 = .ok (.getfield 22, 3) := by decide +kernel
theorem dX11_pour_39 : decode cX11_pour 39 = .ok (.iload_n 3, 1) := by decide +kernel
theorem dX11_pour_40 : decode cX11_pour 40 = .ok (.aaload, 1) := by decide +kernel
theorem dX11_pour_41 : decode cX11_pour 41 = .ok (.getfield 136, 3) := by decide +kernel
theorem dX11_pour_44 : decode cX11_pour 44 = .ok (.iload 4, 2) := by decide +kernel
theorem dX11_pour_46 : decode cX11_pour 46 = .ok (.iload 5, 2) := by decide +kernel
theorem dX11_pour_48 : decode cX11_pour 48 = .ok (.invokestatic 140, 3) := by decide +kernel
theorem dX11_pour_51 : decode cX11_pour 51 = .ok (.aload_n 0, 1) := by decide +kernel
theorem dX11_pour_52 : decode cX11_pour 52 = .ok (.invokevirtual 112, 3) := by decide +kernel
theorem dX11_pour_55 : decode cX11_pour 55 = .ok (.ireturn, 1) := by decide +kernel
noncomputable def RC_pour (σ : St) (p1 : Int32) (p2 : Int32) (p3 : Int32) (p4 : Int32) (p5 : Int32) : Option (Int32 × St) :=
  bd (RC_pourTrouble σ p1 p2 p3 p4 p5) (fun r2 => if r2 = 0 then (chk (ix p1 4) (chk (ix p3 4) (chk (cpk p2 p4 p5 60 60) (bnd (rL σ ((rfs 1 (tn p3)) + 1) (va_cpy (σ.2 ((rfs 1 (tn p1)) + 1)) (σ.2 ((rfs 1 (tn p3)) + 1)) (tn p2) (tn p4) (tn p5))) (fun σ6 => bd2 (RC_agree σ6) (fun r8 σ9 => chk (ckz r8) (some (r8, σ9)))))))) else (bd2 (RC_deny σ r2) (fun r12 σ13 => chk (ckz r12) (some (r12, σ13)))))
set_option maxRecDepth 100000 in
set_option maxHeartbeats 4000000 in
theorem tm_RC_pour {V : Ev} {Γ : Cn} {fin : Option Value × St} {σ : St} {p1 : Int32} {p2 : Int32} {p3 : Int32} {p4 : Int32} {p5 : Int32} {o : (Int32 × St)} (X : Cx V Γ M_X11_pour) {A : (Int32 × St) → Prop}  (hr : ∀ (r : Int32) (σ9 : St), A (r, σ9) → (some (.int r), σ9) = fin) (h : RC_pour σ p1 p2 p3 p4 p5 = some o) (hA : A o) : Go V Γ M_X11_pour (Zm V Γ 2 fin) 0 [(0, .ref (V.2.2.1 + 0)), (1, .int p1), (2, .int p2), (3, .int p3), (4, .int p4), (5, .int p5)] [] σ := by
  unfold RC_pour at h
  refine g_aload_n (pc := 0) X 0 rfl dX11_pour_0 ?_
  refine g_iload_n (pc := 1) X 1 rfl dX11_pour_1 ?_
  refine g_iload_n (pc := 2) X 2 rfl dX11_pour_2 ?_
  refine g_iload_n (pc := 3) X 3 rfl dX11_pour_3 ?_
  refine g_iload (pc := 4) X 4 rfl dX11_pour_4 ?_
  refine g_iload (pc := 6) X 5 rfl dX11_pour_6 ?_
  obtain ⟨r2, hc1, h⟩ := bd_e h
  refine g_callV (pc := 8) X k_ml_X11_132 (run_RC_pourTrouble  hc1) s_0 rfl (room_ok (Nat.le_of_ble_eq_true rfl) (Nat.le_of_ble_eq_true rfl)) ⟨Nat.le_refl _, Nat.le_refl _⟩ _ rfl (Nat.le_of_ble_eq_true rfl) dX11_pour_8 ?_
  show Go V Γ M_X11_pour (Zm V Γ 2 fin) 11 [(0, .ref (V.2.2.1 + 0)), (1, .int p1), (2, .int p2), (3, .int p3), (4, .int p4), (5, .int p5)] [.int r2] σ
  refine g_istore (pc := 11) X [(6, .int r2), (0, .ref (V.2.2.1 + 0)), (1, .int p1), (2, .int p2), (3, .int p3), (4, .int p4), (5, .int p5)] (Nat.le_of_ble_eq_true rfl) rfl dX11_pour_11 ?_
  refine g_iload (pc := 13) X 0 rfl dX11_pour_13 ?_
  refine g_if_eq (pc := 15) (tgt := 25) X dX11_pour_15 rfl (fun c15 => ?_) (fun c15 => ?_)
  · replace h := if_t c15 h
    refine g_aload_n (pc := 25) X 1 rfl dX11_pour_25 ?_
    refine g_getR (r := 1) (pc := 26) X k_fl_X11_22 s_0 rfl dX11_pour_26 ?_
    refine g_iload_n (pc := 29) X 2 rfl dX11_pour_29 ?_
    obtain ⟨c3, h⟩ := chk_e h
    refine g_aald (ak := 0) (pc := 30) X s_1 rfl rfl c3 dX11_pour_30 ?_
    refine g_getR (r := ((rfs 1 (tn p1)) + 1)) (pc := 31) X k_fl_X11_136 (sTy_0 (okTy_of c3)) rfl dX11_pour_31 ?_
    refine g_iload_n (pc := 34) X 3 rfl dX11_pour_34 ?_
    refine g_aload_n (pc := 35) X 1 rfl dX11_pour_35 ?_
    refine g_getR (r := 1) (pc := 36) X k_fl_X11_22 s_0 rfl dX11_pour_36 ?_
    refine g_iload_n (pc := 39) X 4 rfl dX11_pour_39 ?_
    obtain ⟨c4, h⟩ := chk_e h
    refine g_aald (ak := 0) (pc := 40) X s_1 rfl rfl c4 dX11_pour_40 ?_
    refine g_getR (r := ((rfs 1 (tn p3)) + 1)) (pc := 41) X k_fl_X11_136 (sTy_0 (okTy_of c4)) rfl dX11_pour_41 ?_
    refine g_iload (pc := 44) X 5 rfl dX11_pour_44 ?_
    refine g_iload (pc := 46) X 6 rfl dX11_pour_46 ?_
    obtain ⟨c5, h⟩ := chk_e h
    refine g_copyL (pc := 48) X k_ml_X11_140 (sTy_1 (okTy_of c3)) (sTy_1 (okTy_of c4)) c5 (Nat.le_of_ble_eq_true rfl) (Nat.le_of_ble_eq_true rfl) dX11_pour_48 ?_
    obtain ⟨σ6, e_σ6, h⟩ := bnd_e h
    refine g_nmS e_σ6 ?_
    refine g_aload_n (pc := 51) X 1 rfl dX11_pour_51 ?_
    obtain ⟨r8, σ9, hc7, h⟩ := bd2_e h
    refine g_callV (pc := 52) X k_ml_X11_112 (run_RC_agree  hc7) s_0 rfl (room_ok (Nat.le_of_ble_eq_true rfl) (Nat.le_of_ble_eq_true rfl)) ⟨Nat.le_refl _, Nat.le_refl _⟩ _ rfl (Nat.le_of_ble_eq_true rfl) dX11_pour_52 ?_
    show Go V Γ M_X11_pour (Zm V Γ 2 fin) 55 [(6, .int r2), (0, .ref (V.2.2.1 + 0)), (1, .int p1), (2, .int p2), (3, .int p3), (4, .int p4), (5, .int p5)] [.int r8] σ9
    obtain ⟨c10, h⟩ := chk_e h
    cases h
    exact g_iret (pc := 55) X rfl (ckz_e c10).1 (hr _ _ hA) dX11_pour_55
  · replace h := if_f c15 h
    refine g_aload_n (pc := 18) X 1 rfl dX11_pour_18 ?_
    refine g_iload (pc := 19) X 0 rfl dX11_pour_19 ?_
    obtain ⟨r12, σ13, hc11, h⟩ := bd2_e h
    refine g_callV (pc := 21) X k_ml_X11_104 (run_RC_deny  hc11) s_0 rfl (room_ok (Nat.le_of_ble_eq_true rfl) (Nat.le_of_ble_eq_true rfl)) ⟨Nat.le_refl _, Nat.le_refl _⟩ _ rfl (Nat.le_of_ble_eq_true rfl) dX11_pour_21 ?_
    show Go V Γ M_X11_pour (Zm V Γ 2 fin) 24 [(6, .int r2), (0, .ref (V.2.2.1 + 0)), (1, .int p1), (2, .int p2), (3, .int p3), (4, .int p4), (5, .int p5)] [.int r12] σ13
    obtain ⟨c14, h⟩ := chk_e h
    cases h
    exact g_iret (pc := 24) X rfl (ckz_e c14).1 (hr _ _ hA) dX11_pour_24
set_option maxRecDepth 100000 in
theorem run_RC_pour {V : Ev} {σ : St} {p1 : Int32} {p2 : Int32} {p3 : Int32} {p4 : Int32} {p5 : Int32} {o : (Int32 × St)}   (h : RC_pour σ p1 p2 p3 p4 p5 = some o) : Rs V 2 M_X11_pour [.ref (V.2.2.1 + 0), .int p1, .int p2, .int p3, .int p4, .int p5] σ (some (.int o.1), o.2) := by
  refine Rs.of (by decide +kernel) (Nat.le_of_ble_eq_true rfl) (fun Γ X => ?_)
  exact tm_RC_pour X (A := fun o1 => o1 = o)  (fun _ _ e => by rw [← e]) h rfl
theorem dX11_feed_0 : decode cX11_feed 0 = .ok (.aload_n 0, 1) := by decide +kernel
theorem dX11_feed_1 : decode cX11_feed 1 = .ok (.getfield 29, 3) := by decide +kernel
theorem dX11_feed_4 : decode cX11_feed 4 = .ok (.getfield 159, 3) := by decide +kernel
theorem dX11_feed_7 : decode cX11_feed 7 = .ok (.bipush 20, 2) := by decide +kernel
theorem dX11_feed_9 : decode cX11_feed 9 = .ok (.iadd, 1) := by decide +kernel
theorem dX11_feed_10 : decode cX11_feed 10 = .ok (.sipush 900, 3) := by decide +kernel
theorem dX11_feed_13 : decode cX11_feed 13 = .ok (.if_icmp .le 5, 3) := by decide +kernel
theorem dX11_feed_16 : decode cX11_feed 16 = .ok (.iconst (-1), 1) := by decide +kernel
theorem dX11_feed_17 : decode cX11_feed 17 = .ok (.ireturn, 1) := by decide +kernel
theorem dX11_feed_18 : decode cX11_feed 18 = .ok (.aload_n 0, 1) := by decide +kernel
theorem dX11_feed_19 : decode cX11_feed 19 = .ok (.getfield 29, 3) := by decide +kernel
theorem dX11_feed_22 : decode cX11_feed 22 = .ok (.iload_n 1, 1) := by decide +kernel
theorem dX11_feed_23 : decode cX11_feed 23 = .ok (.invokevirtual 162, 3) := by decide +kernel
theorem dX11_feed_26 : decode cX11_feed 26 = .ok (.aload_n 0, 1) := by decide +kernel
theorem dX11_feed_27 : decode cX11_feed 27 = .ok (.getfield 29, 3) := by decide +kernel
theorem dX11_feed_30 : decode cX11_feed 30 = .ok (.iload_n 2, 1) := by decide +kernel
theorem dX11_feed_31 : decode cX11_feed 31 = .ok (.invokevirtual 162, 3) := by decide +kernel
theorem dX11_feed_34 : decode cX11_feed 34 = .ok (.aload_n 0, 1) := by decide +kernel
theorem dX11_feed_35 : decode cX11_feed 35 = .ok (.getfield 29, 3) := by decide +kernel
theorem dX11_feed_38 : decode cX11_feed 38 = .ok (.iload_n 3, 1) := by decide +kernel
theorem dX11_feed_39 : decode cX11_feed 39 = .ok (.invokevirtual 162, 3) := by decide +kernel
theorem dX11_feed_42 : decode cX11_feed 42 = .ok (.aload_n 0, 1) := by decide +kernel
theorem dX11_feed_43 : decode cX11_feed 43 = .ok (.getfield 29, 3) := by decide +kernel
theorem dX11_feed_46 : decode cX11_feed 46 = .ok (.iload 4, 2) := by decide +kernel
theorem dX11_feed_48 : decode cX11_feed 48 = .ok (.invokevirtual 162, 3) := by decide +kernel
theorem dX11_feed_51 : decode cX11_feed 51 = .ok (.aload_n 0, 1) := by decide +kernel
theorem dX11_feed_52 : decode cX11_feed 52 = .ok (.getfield 29, 3) := by decide +kernel
theorem dX11_feed_55 : decode cX11_feed 55 = .ok (.iload 5, 2) := by decide +kernel
theorem dX11_feed_57 : decode cX11_feed 57 = .ok (.invokevirtual 162, 3) := by decide +kernel
theorem dX11_feed_60 : decode cX11_feed 60 = .ok (.aload_n 0, 1) := by decide +kernel
theorem dX11_feed_61 : decode cX11_feed 61 = .ok (.getfield 29, 3) := by decide +kernel
theorem dX11_feed_64 : decode cX11_feed 64 = .ok (.getfield 159, 3) := by decide +kernel
theorem dX11_feed_67 : decode cX11_feed 67 = .ok (.ireturn, 1) := by decide +kernel
noncomputable def RC_feed (σ : St) (p1 : Int32) (p2 : Int32) (p3 : Int32) (p4 : Int32) (p5 : Int32) : Option (Int32 × St) :=
  if ((σ.1 2 1) + 20) ≤ 900 then (bd (Re_append σ p1) (fun σ2 => bd (Re_append σ2 p2) (fun σ4 => bd (Re_append σ4 p3) (fun σ6 => bd (Re_append σ6 p4) (fun σ8 => bd (Re_append σ8 p5) (fun σ10 => some ((σ10.1 2 1), σ10))))))) else (some ((-1), σ))
set_option maxRecDepth 100000 in
set_option maxHeartbeats 4000000 in
theorem tm_RC_feed {V : Ev} {Γ : Cn} {fin : Option Value × St} {σ : St} {p1 : Int32} {p2 : Int32} {p3 : Int32} {p4 : Int32} {p5 : Int32} {o : (Int32 × St)} (X : Cx V Γ M_X11_feed) {A : (Int32 × St) → Prop}  (hr : ∀ (r : Int32) (σ9 : St), A (r, σ9) → (some (.int r), σ9) = fin) (h : RC_feed σ p1 p2 p3 p4 p5 = some o) (hA : A o) : Go V Γ M_X11_feed (Zm V Γ 1 fin) 0 [(0, .ref (V.2.2.1 + 0)), (1, .int p1), (2, .int p2), (3, .int p3), (4, .int p4), (5, .int p5)] [] σ := by
  unfold RC_feed at h
  refine g_aload_n (pc := 0) X 0 rfl dX11_feed_0 ?_
  refine g_getR (r := 2) (pc := 1) X k_fl_X11_29 s_0 rfl dX11_feed_1 ?_
  refine g_getI (pc := 4) X k_fl_X11_159 s_2 rfl dX11_feed_4 ?_
  refine g_bipush (v := 20) (pc := 7) X (by decide) dX11_feed_7 ?_
  refine g_iadd (pc := 9) X dX11_feed_9 ?_
  refine g_sipush (v := 900) (pc := 10) X (by decide) dX11_feed_10 ?_
  refine g_icmp_le (pc := 13) (tgt := 18) X dX11_feed_13 rfl (fun c11 => ?_) (fun c11 => ?_)
  · replace h := if_t c11 h
    refine g_aload_n (pc := 18) X 0 rfl dX11_feed_18 ?_
    refine g_getR (r := 2) (pc := 19) X k_fl_X11_29 s_0 rfl dX11_feed_19 ?_
    refine g_iload_n (pc := 22) X 1 rfl dX11_feed_22 ?_
    obtain ⟨σ2, hc1, h⟩ := bd_e h
    refine g_callV (pc := 23) X k_ml_X11_162 (run_Re_append  hc1) s_2 rfl (room_ok (Nat.le_of_ble_eq_true rfl) (Nat.le_of_ble_eq_true rfl)) ⟨Nat.le_refl _, Nat.le_refl _⟩ _ rfl (Nat.le_of_ble_eq_true rfl) dX11_feed_23 ?_
    show Go V Γ M_X11_feed (Zm V Γ 1 fin) 26 [(0, .ref (V.2.2.1 + 0)), (1, .int p1), (2, .int p2), (3, .int p3), (4, .int p4), (5, .int p5)] [] σ2
    refine g_aload_n (pc := 26) X 0 rfl dX11_feed_26 ?_
    refine g_getR (r := 2) (pc := 27) X k_fl_X11_29 s_0 rfl dX11_feed_27 ?_
    refine g_iload_n (pc := 30) X 2 rfl dX11_feed_30 ?_
    obtain ⟨σ4, hc3, h⟩ := bd_e h
    refine g_callV (pc := 31) X k_ml_X11_162 (run_Re_append  hc3) s_2 rfl (room_ok (Nat.le_of_ble_eq_true rfl) (Nat.le_of_ble_eq_true rfl)) ⟨Nat.le_refl _, Nat.le_refl _⟩ _ rfl (Nat.le_of_ble_eq_true rfl) dX11_feed_31 ?_
    show Go V Γ M_X11_feed (Zm V Γ 1 fin) 34 [(0, .ref (V.2.2.1 + 0)), (1, .int p1), (2, .int p2), (3, .int p3), (4, .int p4), (5, .int p5)] [] σ4
    refine g_aload_n (pc := 34) X 0 rfl dX11_feed_34 ?_
    refine g_getR (r := 2) (pc := 35) X k_fl_X11_29 s_0 rfl dX11_feed_35 ?_
    refine g_iload_n (pc := 38) X 3 rfl dX11_feed_38 ?_
    obtain ⟨σ6, hc5, h⟩ := bd_e h
    refine g_callV (pc := 39) X k_ml_X11_162 (run_Re_append  hc5) s_2 rfl (room_ok (Nat.le_of_ble_eq_true rfl) (Nat.le_of_ble_eq_true rfl)) ⟨Nat.le_refl _, Nat.le_refl _⟩ _ rfl (Nat.le_of_ble_eq_true rfl) dX11_feed_39 ?_
    show Go V Γ M_X11_feed (Zm V Γ 1 fin) 42 [(0, .ref (V.2.2.1 + 0)), (1, .int p1), (2, .int p2), (3, .int p3), (4, .int p4), (5, .int p5)] [] σ6
    refine g_aload_n (pc := 42) X 0 rfl dX11_feed_42 ?_
    refine g_getR (r := 2) (pc := 43) X k_fl_X11_29 s_0 rfl dX11_feed_43 ?_
    refine g_iload (pc := 46) X 4 rfl dX11_feed_46 ?_
    obtain ⟨σ8, hc7, h⟩ := bd_e h
    refine g_callV (pc := 48) X k_ml_X11_162 (run_Re_append  hc7) s_2 rfl (room_ok (Nat.le_of_ble_eq_true rfl) (Nat.le_of_ble_eq_true rfl)) ⟨Nat.le_refl _, Nat.le_refl _⟩ _ rfl (Nat.le_of_ble_eq_true rfl) dX11_feed_48 ?_
    show Go V Γ M_X11_feed (Zm V Γ 1 fin) 51 [(0, .ref (V.2.2.1 + 0)), (1, .int p1), (2, .int p2), (3, .int p3), (4, .int p4), (5, .int p5)] [] σ8
    refine g_aload_n (pc := 51) X 0 rfl dX11_feed_51 ?_
    refine g_getR (r := 2) (pc := 52) X k_fl_X11_29 s_0 rfl dX11_feed_52 ?_
    refine g_iload (pc := 55) X 5 rfl dX11_feed_55 ?_
    obtain ⟨σ10, hc9, h⟩ := bd_e h
    refine g_callV (pc := 57) X k_ml_X11_162 (run_Re_append  hc9) s_2 rfl (room_ok (Nat.le_of_ble_eq_true rfl) (Nat.le_of_ble_eq_true rfl)) ⟨Nat.le_refl _, Nat.le_refl _⟩ _ rfl (Nat.le_of_ble_eq_true rfl) dX11_feed_57 ?_
    show Go V Γ M_X11_feed (Zm V Γ 1 fin) 60 [(0, .ref (V.2.2.1 + 0)), (1, .int p1), (2, .int p2), (3, .int p3), (4, .int p4), (5, .int p5)] [] σ10
    refine g_aload_n (pc := 60) X 0 rfl dX11_feed_60 ?_
    refine g_getR (r := 2) (pc := 61) X k_fl_X11_29 s_0 rfl dX11_feed_61 ?_
    refine g_getI (pc := 64) X k_fl_X11_159 s_2 rfl dX11_feed_64 ?_
    cases h
    exact g_iret (pc := 67) X rfl rfl (hr _ _ hA) dX11_feed_67
  · replace h := if_f c11 h
    refine g_iconst (v := (-1)) (pc := 16) X rfl dX11_feed_16 ?_
    cases h
    exact g_iret (pc := 17) X rfl rfl (hr _ _ hA) dX11_feed_17
set_option maxRecDepth 100000 in
theorem run_RC_feed {V : Ev} {σ : St} {p1 : Int32} {p2 : Int32} {p3 : Int32} {p4 : Int32} {p5 : Int32} {o : (Int32 × St)}   (h : RC_feed σ p1 p2 p3 p4 p5 = some o) : Rs V 1 M_X11_feed [.ref (V.2.2.1 + 0), .int p1, .int p2, .int p3, .int p4, .int p5] σ (some (.int o.1), o.2) := by
  refine Rs.of (by decide +kernel) (Nat.le_of_ble_eq_true rfl) (fun Γ X => ?_)
  exact tm_RC_feed X (A := fun o1 => o1 = o)  (fun _ _ e => by rw [← e]) h rfl
theorem dX11_answer_0 : decode cX11_answer 0 = .ok (.aload_n 0, 1) := by decide +kernel
theorem dX11_answer_1 : decode cX11_answer 1 = .ok (.iconst 0, 1) := by decide +kernel
theorem dX11_answer_2 : decode cX11_answer 2 = .ok (.putfield 9, 3) := by decide +kernel
theorem dX11_answer_5 : decode cX11_answer 5 = .ok (.iload_n 1, 1) := by decide +kernel
theorem dX11_answer_6 : decode cX11_answer 6 = .ok (.ireturn, 1) := by decide +kernel
noncomputable def RC_answer (σ : St) (p1 : Int32) : Option (Int32 × St) :=
  bnd (wI σ 0 0 0) (fun σ1 => some (p1, σ1))
set_option maxRecDepth 100000 in
set_option maxHeartbeats 4000000 in
theorem tm_RC_answer {V : Ev} {Γ : Cn} {fin : Option Value × St} {σ : St} {p1 : Int32} {o : (Int32 × St)} (X : Cx V Γ M_X11_answer) {A : (Int32 × St) → Prop}  (hr : ∀ (r : Int32) (σ9 : St), A (r, σ9) → (some (.int r), σ9) = fin) (h : RC_answer σ p1 = some o) (hA : A o) : Go V Γ M_X11_answer (Zm V Γ 0 fin) 0 [(0, .ref (V.2.2.1 + 0)), (1, .int p1)] [] σ := by
  unfold RC_answer at h
  refine g_aload_n (pc := 0) X 0 rfl dX11_answer_0 ?_
  refine g_iconst (v := 0) (pc := 1) X rfl dX11_answer_1 ?_
  refine g_putI (pc := 2) X k_fl_X11_9 s_0 rfl rfl rfl dX11_answer_2 ?_
  obtain ⟨σ1, e_σ1, h⟩ := bnd_e h
  refine g_nmS e_σ1 ?_
  refine g_iload_n (pc := 5) X 1 rfl dX11_answer_5 ?_
  cases h
  exact g_iret (pc := 6) X rfl rfl (hr _ _ hA) dX11_answer_6
set_option maxRecDepth 100000 in
theorem run_RC_answer {V : Ev} {σ : St} {p1 : Int32} {o : (Int32 × St)}   (h : RC_answer σ p1 = some o) : Rs V 0 M_X11_answer [.ref (V.2.2.1 + 0), .int p1] σ (some (.int o.1), o.2) := by
  refine Rs.of (by decide +kernel) (Nat.le_of_ble_eq_true rfl) (fun Γ X => ?_)
  exact tm_RC_answer X (A := fun o1 => o1 = o)  (fun _ _ e => by rw [← e]) h rfl
theorem dX11_system_0 : decode cX11_system 0 = .ok (.iload_n 1, 1) := by decide +kernel
theorem dX11_system_1 : decode cX11_system 1 = .ok (.i2l, 1) := by decide +kernel
theorem dX11_system_2 : decode cX11_system 2 = .ok (.lconst 0, 1) := by decide +kernel
theorem dX11_system_3 : decode cX11_system 3 = .ok (.aload_n 0, 1) := by decide +kernel
theorem dX11_system_4 : decode cX11_system 4 = .ok (.getfield 29, 3) := by decide +kernel
theorem dX11_system_7 : decode cX11_system 7 = .ok (.getfield 159, 3) := by decide +kernel
theorem dX11_system_10 : decode cX11_system 10 = .ok (.i2l, 1) := by decide +kernel
theorem dX11_system_11 : decode cX11_system 11 = .ok (.invokestatic 98, 3) := by decide +kernel
theorem dX11_system_14 : decode cX11_system 14 = .ok (.ifCond .ne 9, 3) := by decide +kernel
theorem dX11_system_17 : decode cX11_system 17 = .ok (.aload_n 0, 1) := by decide +kernel
theorem dX11_system_18 : decode cX11_system 18 = .ok (.iconst 1, 1) := by decide +kernel
theorem dX11_system_19 : decode cX11_system 19 = .ok (.invokevirtual 124, 3) := by decide +kernel
theorem dX11_system_22 : decode cX11_system 22 = .ok (.ireturn, 1) := by decide +kernel
theorem dX11_system_23 : decode cX11_system 23 = .ok (.aload_n 0, 1) := by decide +kernel
theorem dX11_system_24 : decode cX11_system 24 = .ok (.getfield 29, 3) := by decide +kernel
theorem dX11_system_27 : decode cX11_system 27 = .ok (.iload_n 1, 1) := by decide +kernel
theorem dX11_system_28 : decode cX11_system 28 = .ok (.invokevirtual 166, 3) := by decide +kernel
theorem dX11_system_31 : decode cX11_system 31 = .ok (.aload_n 0, 1) := by decide +kernel
theorem dX11_system_32 : decode cX11_system 32 = .ok (.getfield 29, 3) := by decide +kernel
theorem dX11_system_35 : decode cX11_system 35 = .ok (.aload_n 0, 1) := by decide +kernel
theorem dX11_system_36 : decode cX11_system 36 = .ok (.getfield 40, 3) := by decide +kernel
theorem dX11_system_39 : decode cX11_system 39 = .ok (.invokestatic 169, 3) := by decide +kernel
theorem dX11_system_42 : decode cX11_system 42 = .ok (.ifCond .ne 10, 3) := by decide +kernel
theorem dX11_system_45 : decode cX11_system 45 = .ok (.aload_n 0, 1) := by decide +kernel
theorem dX11_system_46 : decode cX11_system 46 = .ok (.bipush 9, 2) := by decide +kernel
theorem dX11_system_48 : decode cX11_system 48 = .ok (.invokevirtual 124, 3) := by decide +kernel
theorem dX11_system_51 : decode cX11_system 51 = .ok (.ireturn, 1) := by decide +kernel
theorem dX11_system_52 : decode cX11_system 52 = .ok (.aload_n 0, 1) := by decide +kernel
theorem dX11_system_53 : decode cX11_system 53 = .ok (.getfield 36, 3) := by decide +kernel
theorem dX11_system_56 : decode cX11_system 56 = .ok (.aload_n 0, 1) := by decide +kernel
theorem dX11_system_57 : decode cX11_system 57 = .ok (.getfield 40, 3) := by decide +kernel
theorem dX11_system_60 : decode cX11_system 60 = .ok (.invokevirtual 175, 3) := by decide +kernel
theorem dX11_system_63 : decode cX11_system 63 = .ok (.aload_n 0, 1) := by decide +kernel
theorem dX11_system_64 : decode cX11_system 64 = .ok (.getfield 46, 3) := by decide +kernel
theorem dX11_system_67 : decode cX11_system 67 = .ok (.invokevirtual 179, 3) := by decide +kernel
theorem dX11_system_70 : decode cX11_system 70 = .ok (.aload_n 0, 1) := by decide +kernel
theorem dX11_system_71 : decode cX11_system 71 = .ok (.aload_n 0, 1) := by decide +kernel
theorem dX11_system_72 : decode cX11_system 72 = .ok (.getfield 36, 3) := by decide +kernel
theorem dX11_system_75 : decode cX11_system 75 = .ok (.getfield 182, 3) := by decide +kernel
theorem dX11_system_78 : decode cX11_system 78 = .ok (.invokevirtual 185, 3) := by decide +kernel
theorem dX11_system_81 : decode cX11_system 81 = .ok (.ireturn, 1) := by decide +kernel
noncomputable def RC_system (σ : St) (p1 : Int32) : Option (Int32 × St) :=
  bd (RC_within p1.toInt64 0 ((σ.1 2 1).toInt64)) (fun r2 => if r2 = 0 then (bd2 (RC_refuse σ 1) (fun r20 σ21 => some (r20, σ21))) else (bd (Re_begin σ p1) (fun σ4 => bd2 (ST_take σ4 11) (fun r6 σ7 => if r6 = 0 then (bd2 (RC_refuse σ7 9) (fun r16 σ17 => some (r16, σ17))) else (bd (Cl_copyFrom σ7 7 11) (fun σ9 => bd (Da_clear σ9 15) (fun σ11 => bd2 (RC_answer σ11 (σ11.1 7 3)) (fun r13 σ14 => some (r13, σ14)))))))))
set_option maxRecDepth 100000 in
set_option maxHeartbeats 4000000 in
theorem tm_RC_system {V : Ev} {Γ : Cn} {fin : Option Value × St} {σ : St} {p1 : Int32} {o : (Int32 × St)} (X : Cx V Γ M_X11_system) {A : (Int32 × St) → Prop}  (hr : ∀ (r : Int32) (σ9 : St), A (r, σ9) → (some (.int r), σ9) = fin) (h : RC_system σ p1 = some o) (hA : A o) : Go V Γ M_X11_system (Zm V Γ 10 fin) 0 [(0, .ref (V.2.2.1 + 0)), (1, .int p1)] [] σ := by
  unfold RC_system at h
  refine g_iload_n (pc := 0) X 1 rfl dX11_system_0 ?_
  refine g_i2l (pc := 1) X dX11_system_1 ?_
  refine g_lconst (v := 0) (pc := 2) X rfl dX11_system_2 ?_
  refine g_aload_n (pc := 3) X 0 rfl dX11_system_3 ?_
  refine g_getR (r := 2) (pc := 4) X k_fl_X11_29 s_0 rfl dX11_system_4 ?_
  refine g_getI (pc := 7) X k_fl_X11_159 s_2 rfl dX11_system_7 ?_
  refine g_i2l (pc := 10) X dX11_system_10 ?_
  obtain ⟨r2, hc1, h⟩ := bd_e h
  refine g_callS (pc := 11) X k_ml_X11_98 (run_RC_within  hc1) rfl (room_ok (Nat.le_of_ble_eq_true rfl) (Nat.le_of_ble_eq_true rfl)) ⟨Nat.le_refl _, Nat.le_refl _⟩ _ rfl (Nat.le_of_ble_eq_true rfl) dX11_system_11 ?_
  show Go V Γ M_X11_system (Zm V Γ 10 fin) 14 [(0, .ref (V.2.2.1 + 0)), (1, .int p1)] [.int r2] σ
  refine g_if_ne (pc := 14) (tgt := 23) X dX11_system_14 rfl (fun c22 => ?_) (fun c22 => ?_)
  · replace h := if_f c22 h
    refine g_aload_n (pc := 23) X 0 rfl dX11_system_23 ?_
    refine g_getR (r := 2) (pc := 24) X k_fl_X11_29 s_0 rfl dX11_system_24 ?_
    refine g_iload_n (pc := 27) X 1 rfl dX11_system_27 ?_
    obtain ⟨σ4, hc3, h⟩ := bd_e h
    refine g_callV (pc := 28) X k_ml_X11_166 (run_Re_begin  hc3) s_2 rfl (room_ok (Nat.le_of_ble_eq_true rfl) (Nat.le_of_ble_eq_true rfl)) ⟨Nat.le_refl _, Nat.le_refl _⟩ _ rfl (Nat.le_of_ble_eq_true rfl) dX11_system_28 ?_
    show Go V Γ M_X11_system (Zm V Γ 10 fin) 31 [(0, .ref (V.2.2.1 + 0)), (1, .int p1)] [] σ4
    refine g_aload_n (pc := 31) X 0 rfl dX11_system_31 ?_
    refine g_getR (r := 2) (pc := 32) X k_fl_X11_29 s_0 rfl dX11_system_32 ?_
    refine g_aload_n (pc := 35) X 0 rfl dX11_system_35 ?_
    refine g_getR (r := 11) (pc := 36) X k_fl_X11_40 s_0 rfl dX11_system_36 ?_
    obtain ⟨r6, σ7, hc5, h⟩ := bd2_e h
    refine g_callS (pc := 39) X k_ml_X11_169 (run_ST_take (oknCl_11) hc5) rfl (room_ok (Nat.le_of_ble_eq_true rfl) (Nat.le_of_ble_eq_true rfl)) ⟨Nat.le_refl _, Nat.le_refl _⟩ _ rfl (Nat.le_of_ble_eq_true rfl) dX11_system_39 ?_
    show Go V Γ M_X11_system (Zm V Γ 10 fin) 42 [(0, .ref (V.2.2.1 + 0)), (1, .int p1)] [.int r6] σ7
    refine g_if_ne (pc := 42) (tgt := 52) X dX11_system_42 rfl (fun c18 => ?_) (fun c18 => ?_)
    · replace h := if_f c18 h
      refine g_aload_n (pc := 52) X 0 rfl dX11_system_52 ?_
      refine g_getR (r := 7) (pc := 53) X k_fl_X11_36 s_0 rfl dX11_system_53 ?_
      refine g_aload_n (pc := 56) X 0 rfl dX11_system_56 ?_
      refine g_getR (r := 11) (pc := 57) X k_fl_X11_40 s_0 rfl dX11_system_57 ?_
      obtain ⟨σ9, hc8, h⟩ := bd_e h
      refine g_callV (pc := 60) X k_ml_X11_175 (run_Cl_copyFrom (oknCl_7) (oknCl_11) hc8) s_7 rfl (room_ok (Nat.le_of_ble_eq_true rfl) (Nat.le_of_ble_eq_true rfl)) ⟨Nat.le_refl _, Nat.le_refl _⟩ _ rfl (Nat.le_of_ble_eq_true rfl) dX11_system_60 ?_
      show Go V Γ M_X11_system (Zm V Γ 10 fin) 63 [(0, .ref (V.2.2.1 + 0)), (1, .int p1)] [] σ9
      refine g_aload_n (pc := 63) X 0 rfl dX11_system_63 ?_
      refine g_getR (r := 15) (pc := 64) X k_fl_X11_46 s_0 rfl dX11_system_64 ?_
      obtain ⟨σ11, hc10, h⟩ := bd_e h
      refine g_callV (pc := 67) X k_ml_X11_179 (run_Da_clear (oknDa_15) hc10) s_15 rfl (room_ok (Nat.le_of_ble_eq_true rfl) (Nat.le_of_ble_eq_true rfl)) ⟨Nat.le_refl _, Nat.le_refl _⟩ _ rfl (Nat.le_of_ble_eq_true rfl) dX11_system_67 ?_
      show Go V Γ M_X11_system (Zm V Γ 10 fin) 70 [(0, .ref (V.2.2.1 + 0)), (1, .int p1)] [] σ11
      refine g_aload_n (pc := 70) X 0 rfl dX11_system_70 ?_
      refine g_aload_n (pc := 71) X 0 rfl dX11_system_71 ?_
      refine g_getR (r := 7) (pc := 72) X k_fl_X11_36 s_0 rfl dX11_system_72 ?_
      refine g_getI (pc := 75) X k_fl_X11_182 s_7 rfl dX11_system_75 ?_
      obtain ⟨r13, σ14, hc12, h⟩ := bd2_e h
      refine g_callV (pc := 78) X k_ml_X11_185 (run_RC_answer  hc12) s_0 rfl (room_ok (Nat.le_of_ble_eq_true rfl) (Nat.le_of_ble_eq_true rfl)) ⟨Nat.le_refl _, Nat.le_refl _⟩ _ rfl (Nat.le_of_ble_eq_true rfl) dX11_system_78 ?_
      show Go V Γ M_X11_system (Zm V Γ 10 fin) 81 [(0, .ref (V.2.2.1 + 0)), (1, .int p1)] [.int r13] σ14
      cases h
      exact g_iret (pc := 81) X rfl rfl (hr _ _ hA) dX11_system_81
    · replace h := if_t c18 h
      refine g_aload_n (pc := 45) X 0 rfl dX11_system_45 ?_
      refine g_bipush (v := 9) (pc := 46) X (by decide) dX11_system_46 ?_
      obtain ⟨r16, σ17, hc15, h⟩ := bd2_e h
      refine g_callV (pc := 48) X k_ml_X11_124 (run_RC_refuse  hc15) s_0 rfl (room_ok (Nat.le_of_ble_eq_true rfl) (Nat.le_of_ble_eq_true rfl)) ⟨Nat.le_refl _, Nat.le_refl _⟩ _ rfl (Nat.le_of_ble_eq_true rfl) dX11_system_48 ?_
      show Go V Γ M_X11_system (Zm V Γ 10 fin) 51 [(0, .ref (V.2.2.1 + 0)), (1, .int p1)] [.int r16] σ17
      cases h
      exact g_iret (pc := 51) X rfl rfl (hr _ _ hA) dX11_system_51
  · replace h := if_t c22 h
    refine g_aload_n (pc := 17) X 0 rfl dX11_system_17 ?_
    refine g_iconst (v := 1) (pc := 18) X rfl dX11_system_18 ?_
    obtain ⟨r20, σ21, hc19, h⟩ := bd2_e h
    refine g_callV (pc := 19) X k_ml_X11_124 (run_RC_refuse  hc19) s_0 rfl (room_ok (Nat.le_of_ble_eq_true rfl) (Nat.le_of_ble_eq_true rfl)) ⟨Nat.le_refl _, Nat.le_refl _⟩ _ rfl (Nat.le_of_ble_eq_true rfl) dX11_system_19 ?_
    show Go V Γ M_X11_system (Zm V Γ 10 fin) 22 [(0, .ref (V.2.2.1 + 0)), (1, .int p1)] [.int r20] σ21
    cases h
    exact g_iret (pc := 22) X rfl rfl (hr _ _ hA) dX11_system_22
set_option maxRecDepth 100000 in
theorem run_RC_system {V : Ev} {σ : St} {p1 : Int32} {o : (Int32 × St)}   (h : RC_system σ p1 = some o) : Rs V 10 M_X11_system [.ref (V.2.2.1 + 0), .int p1] σ (some (.int o.1), o.2) := by
  refine Rs.of (by decide +kernel) (Nat.le_of_ble_eq_true rfl) (fun Γ X => ?_)
  exact tm_RC_system X (A := fun o1 => o1 = o)  (fun _ _ e => by rw [← e]) h rfl
theorem dX11_days_0 : decode cX11_days 0 = .ok (.iload_n 1, 1) := by decide +kernel
theorem dX11_days_1 : decode cX11_days 1 = .ok (.i2l, 1) := by decide +kernel
theorem dX11_days_2 : decode cX11_days 2 = .ok (.lconst 0, 1) := by decide +kernel
theorem dX11_days_3 : decode cX11_days 3 = .ok (.aload_n 0, 1) := by decide +kernel
theorem dX11_days_4 : decode cX11_days 4 = .ok (.getfield 29, 3) := by decide +kernel
theorem dX11_days_7 : decode cX11_days 7 = .ok (.getfield 159, 3) := by decide +kernel
theorem dX11_days_10 : decode cX11_days 10 = .ok (.sipush 300, 3) := by decide +kernel
theorem dX11_days_13 : decode cX11_days 13 = .ok (.invokestatic 188, 3) := by decide +kernel
theorem dX11_days_16 : decode cX11_days 16 = .ok (.i2l, 1) := by decide +kernel
theorem dX11_days_17 : decode cX11_days 17 = .ok (.invokestatic 98, 3) := by decide +kernel
theorem dX11_days_20 : decode cX11_days 20 = .ok (.ifCond .ne 9, 3) := by decide +kernel
theorem dX11_days_23 : decode cX11_days 23 = .ok (.aload_n 0, 1) := by decide +kernel
theorem dX11_days_24 : decode cX11_days 24 = .ok (.iconst 1, 1) := by decide +kernel
theorem dX11_days_25 : decode cX11_days 25 = .ok (.invokevirtual 124, 3) := by decide +kernel
theorem dX11_days_28 : decode cX11_days 28 = .ok (.ireturn, 1) := by decide +kernel
theorem dX11_days_29 : decode cX11_days 29 = .ok (.aload_n 0, 1) := by decide +kernel
theorem dX11_days_30 : decode cX11_days 30 = .ok (.getfield 29, 3) := by decide +kernel
theorem dX11_days_33 : decode cX11_days 33 = .ok (.iload_n 1, 1) := by decide +kernel
theorem dX11_days_34 : decode cX11_days 34 = .ok (.invokevirtual 166, 3) := by decide +kernel
theorem dX11_days_37 : decode cX11_days 37 = .ok (.aload_n 0, 1) := by decide +kernel
theorem dX11_days_38 : decode cX11_days 38 = .ok (.getfield 29, 3) := by decide +kernel
theorem dX11_days_41 : decode cX11_days 41 = .ok (.aload_n 0, 1) := by decide +kernel
theorem dX11_days_42 : decode cX11_days 42 = .ok (.getfield 36, 3) := by decide +kernel
theorem dX11_days_45 : decode cX11_days 45 = .ok (.aload_n 0, 1) := by decide +kernel
theorem dX11_days_46 : decode cX11_days 46 = .ok (.getfield 50, 3) := by decide +kernel
theorem dX11_days_49 : decode cX11_days 49 = .ok (.invokestatic 193, 3) := by decide +kernel
theorem dX11_days_52 : decode cX11_days 52 = .ok (.ifCond .ne 10, 3) := by decide +kernel
theorem dX11_days_55 : decode cX11_days 55 = .ok (.aload_n 0, 1) := by decide +kernel
theorem dX11_days_56 : decode cX11_days 56 = .ok (.bipush 9, 2) := by decide +kernel
theorem dX11_days_58 : decode cX11_days 58 = .ok (.invokevirtual 124, 3) := by decide +kernel
theorem dX11_days_61 : decode cX11_days 61 = .ok (.ireturn, 1) := by decide +kernel
theorem dX11_days_62 : decode cX11_days 62 = .ok (.aload_n 0, 1) := by decide +kernel
theorem dX11_days_63 : decode cX11_days 63 = .ok (.getfield 46, 3) := by decide +kernel
theorem dX11_days_66 : decode cX11_days 66 = .ok (.aload_n 0, 1) := by decide +kernel
theorem dX11_days_67 : decode cX11_days 67 = .ok (.getfield 50, 3) := by decide +kernel
theorem dX11_days_70 : decode cX11_days 70 = .ok (.invokevirtual 198, 3) := by decide +kernel
theorem dX11_days_73 : decode cX11_days 73 = .ok (.aload_n 0, 1) := by decide +kernel
theorem dX11_days_74 : decode cX11_days 74 = .ok (.aload_n 0, 1) := by decide +kernel
theorem dX11_days_75 : decode cX11_days 75 = .ok (.getfield 46, 3) := by decide +kernel
theorem dX11_days_78 : decode cX11_days 78 = .ok (.getfield 201, 3) := by decide +kernel
theorem dX11_days_81 : decode cX11_days 81 = .ok (.invokevirtual 185, 3) := by decide +kernel
theorem dX11_days_84 : decode cX11_days 84 = .ok (.ireturn, 1) := by decide +kernel
noncomputable def RC_days (σ : St) (p1 : Int32) : Option (Int32 × St) :=
  bd (RC_within p1.toInt64 0 ((jmin (σ.1 2 1) 300).toInt64)) (fun r2 => if r2 = 0 then (bd2 (RC_refuse σ 1) (fun r18 σ19 => some (r18, σ19))) else (bd (Re_begin σ p1) (fun σ4 => bd2 (DT_take σ4 7 22) (fun r6 σ7 => if r6 = 0 then (bd2 (RC_refuse σ7 9) (fun r14 σ15 => some (r14, σ15))) else (bd (Da_copyFrom σ7 15 22) (fun σ9 => bd2 (RC_answer σ9 (σ9.1 15 7)) (fun r11 σ12 => some (r11, σ12))))))))
set_option maxRecDepth 100000 in
set_option maxHeartbeats 4000000 in
theorem tm_RC_days {V : Ev} {Γ : Cn} {fin : Option Value × St} {σ : St} {p1 : Int32} {o : (Int32 × St)} (X : Cx V Γ M_X11_days) {A : (Int32 × St) → Prop}  (hr : ∀ (r : Int32) (σ9 : St), A (r, σ9) → (some (.int r), σ9) = fin) (h : RC_days σ p1 = some o) (hA : A o) : Go V Γ M_X11_days (Zm V Γ 10 fin) 0 [(0, .ref (V.2.2.1 + 0)), (1, .int p1)] [] σ := by
  unfold RC_days at h
  refine g_iload_n (pc := 0) X 1 rfl dX11_days_0 ?_
  refine g_i2l (pc := 1) X dX11_days_1 ?_
  refine g_lconst (v := 0) (pc := 2) X rfl dX11_days_2 ?_
  refine g_aload_n (pc := 3) X 0 rfl dX11_days_3 ?_
  refine g_getR (r := 2) (pc := 4) X k_fl_X11_29 s_0 rfl dX11_days_4 ?_
  refine g_getI (pc := 7) X k_fl_X11_159 s_2 rfl dX11_days_7 ?_
  refine g_sipush (v := 300) (pc := 10) X (by decide) dX11_days_10 ?_
  refine g_min (pc := 13) X k_ml_X11_188 (Nat.le_of_ble_eq_true rfl) (Nat.le_of_ble_eq_true rfl) (Nat.le_refl _) (Nat.le_refl _) dX11_days_13 ?_
  refine g_i2l (pc := 16) X dX11_days_16 ?_
  obtain ⟨r2, hc1, h⟩ := bd_e h
  refine g_callS (pc := 17) X k_ml_X11_98 (run_RC_within  hc1) rfl (room_ok (Nat.le_of_ble_eq_true rfl) (Nat.le_of_ble_eq_true rfl)) ⟨Nat.le_refl _, Nat.le_refl _⟩ _ rfl (Nat.le_of_ble_eq_true rfl) dX11_days_17 ?_
  show Go V Γ M_X11_days (Zm V Γ 10 fin) 20 [(0, .ref (V.2.2.1 + 0)), (1, .int p1)] [.int r2] σ
  refine g_if_ne (pc := 20) (tgt := 29) X dX11_days_20 rfl (fun c20 => ?_) (fun c20 => ?_)
  · replace h := if_f c20 h
    refine g_aload_n (pc := 29) X 0 rfl dX11_days_29 ?_
    refine g_getR (r := 2) (pc := 30) X k_fl_X11_29 s_0 rfl dX11_days_30 ?_
    refine g_iload_n (pc := 33) X 1 rfl dX11_days_33 ?_
    obtain ⟨σ4, hc3, h⟩ := bd_e h
    refine g_callV (pc := 34) X k_ml_X11_166 (run_Re_begin  hc3) s_2 rfl (room_ok (Nat.le_of_ble_eq_true rfl) (Nat.le_of_ble_eq_true rfl)) ⟨Nat.le_refl _, Nat.le_refl _⟩ _ rfl (Nat.le_of_ble_eq_true rfl) dX11_days_34 ?_
    show Go V Γ M_X11_days (Zm V Γ 10 fin) 37 [(0, .ref (V.2.2.1 + 0)), (1, .int p1)] [] σ4
    refine g_aload_n (pc := 37) X 0 rfl dX11_days_37 ?_
    refine g_getR (r := 2) (pc := 38) X k_fl_X11_29 s_0 rfl dX11_days_38 ?_
    refine g_aload_n (pc := 41) X 0 rfl dX11_days_41 ?_
    refine g_getR (r := 7) (pc := 42) X k_fl_X11_36 s_0 rfl dX11_days_42 ?_
    refine g_aload_n (pc := 45) X 0 rfl dX11_days_45 ?_
    refine g_getR (r := 22) (pc := 46) X k_fl_X11_50 s_0 rfl dX11_days_46 ?_
    obtain ⟨r6, σ7, hc5, h⟩ := bd2_e h
    refine g_callS (pc := 49) X k_ml_X11_193 (run_DT_take (oknCl_7) (oknDa_22) hc5) rfl (room_ok (Nat.le_of_ble_eq_true rfl) (Nat.le_of_ble_eq_true rfl)) ⟨Nat.le_refl _, Nat.le_refl _⟩ _ rfl (Nat.le_of_ble_eq_true rfl) dX11_days_49 ?_
    show Go V Γ M_X11_days (Zm V Γ 10 fin) 52 [(0, .ref (V.2.2.1 + 0)), (1, .int p1)] [.int r6] σ7
    refine g_if_ne (pc := 52) (tgt := 62) X dX11_days_52 rfl (fun c16 => ?_) (fun c16 => ?_)
    · replace h := if_f c16 h
      refine g_aload_n (pc := 62) X 0 rfl dX11_days_62 ?_
      refine g_getR (r := 15) (pc := 63) X k_fl_X11_46 s_0 rfl dX11_days_63 ?_
      refine g_aload_n (pc := 66) X 0 rfl dX11_days_66 ?_
      refine g_getR (r := 22) (pc := 67) X k_fl_X11_50 s_0 rfl dX11_days_67 ?_
      obtain ⟨σ9, hc8, h⟩ := bd_e h
      refine g_callV (pc := 70) X k_ml_X11_198 (run_Da_copyFrom (oknDa_15) (oknDa_22) hc8) s_15 rfl (room_ok (Nat.le_of_ble_eq_true rfl) (Nat.le_of_ble_eq_true rfl)) ⟨Nat.le_refl _, Nat.le_refl _⟩ _ rfl (Nat.le_of_ble_eq_true rfl) dX11_days_70 ?_
      show Go V Γ M_X11_days (Zm V Γ 10 fin) 73 [(0, .ref (V.2.2.1 + 0)), (1, .int p1)] [] σ9
      refine g_aload_n (pc := 73) X 0 rfl dX11_days_73 ?_
      refine g_aload_n (pc := 74) X 0 rfl dX11_days_74 ?_
      refine g_getR (r := 15) (pc := 75) X k_fl_X11_46 s_0 rfl dX11_days_75 ?_
      refine g_getI (pc := 78) X k_fl_X11_201 s_15 rfl dX11_days_78 ?_
      obtain ⟨r11, σ12, hc10, h⟩ := bd2_e h
      refine g_callV (pc := 81) X k_ml_X11_185 (run_RC_answer  hc10) s_0 rfl (room_ok (Nat.le_of_ble_eq_true rfl) (Nat.le_of_ble_eq_true rfl)) ⟨Nat.le_refl _, Nat.le_refl _⟩ _ rfl (Nat.le_of_ble_eq_true rfl) dX11_days_81 ?_
      show Go V Γ M_X11_days (Zm V Γ 10 fin) 84 [(0, .ref (V.2.2.1 + 0)), (1, .int p1)] [.int r11] σ12
      cases h
      exact g_iret (pc := 84) X rfl rfl (hr _ _ hA) dX11_days_84
    · replace h := if_t c16 h
      refine g_aload_n (pc := 55) X 0 rfl dX11_days_55 ?_
      refine g_bipush (v := 9) (pc := 56) X (by decide) dX11_days_56 ?_
      obtain ⟨r14, σ15, hc13, h⟩ := bd2_e h
      refine g_callV (pc := 58) X k_ml_X11_124 (run_RC_refuse  hc13) s_0 rfl (room_ok (Nat.le_of_ble_eq_true rfl) (Nat.le_of_ble_eq_true rfl)) ⟨Nat.le_refl _, Nat.le_refl _⟩ _ rfl (Nat.le_of_ble_eq_true rfl) dX11_days_58 ?_
      show Go V Γ M_X11_days (Zm V Γ 10 fin) 61 [(0, .ref (V.2.2.1 + 0)), (1, .int p1)] [.int r14] σ15
      cases h
      exact g_iret (pc := 61) X rfl rfl (hr _ _ hA) dX11_days_61
  · replace h := if_t c20 h
    refine g_aload_n (pc := 23) X 0 rfl dX11_days_23 ?_
    refine g_iconst (v := 1) (pc := 24) X rfl dX11_days_24 ?_
    obtain ⟨r18, σ19, hc17, h⟩ := bd2_e h
    refine g_callV (pc := 25) X k_ml_X11_124 (run_RC_refuse  hc17) s_0 rfl (room_ok (Nat.le_of_ble_eq_true rfl) (Nat.le_of_ble_eq_true rfl)) ⟨Nat.le_refl _, Nat.le_refl _⟩ _ rfl (Nat.le_of_ble_eq_true rfl) dX11_days_25 ?_
    show Go V Γ M_X11_days (Zm V Γ 10 fin) 28 [(0, .ref (V.2.2.1 + 0)), (1, .int p1)] [.int r18] σ19
    cases h
    exact g_iret (pc := 28) X rfl rfl (hr _ _ hA) dX11_days_28
set_option maxRecDepth 100000 in
theorem run_RC_days {V : Ev} {σ : St} {p1 : Int32} {o : (Int32 × St)}   (h : RC_days σ p1 = some o) : Rs V 10 M_X11_days [.ref (V.2.2.1 + 0), .int p1] σ (some (.int o.1), o.2) := by
  refine Rs.of (by decide +kernel) (Nat.le_of_ble_eq_true rfl) (fun Γ X => ?_)
  exact tm_RC_days X (A := fun o1 => o1 = o)  (fun _ _ e => by rw [← e]) h rfl
theorem dX11_fault_0 : decode cX11_fault 0 = .ok (.iload_n 1, 1) := by decide +kernel
theorem dX11_fault_1 : decode cX11_fault 1 = .ok (.ifCond .ne 11, 3) := by decide +kernel
theorem dX11_fault_4 : decode cX11_fault 4 = .ok (.aload_n 0, 1) := by decide +kernel
theorem dX11_fault_5 : decode cX11_fault 5 = .ok (.getfield 29, 3) := by decide +kernel
theorem dX11_fault_8 : decode cX11_fault 8 = .ok (.getfield 204, 3) := by decide +kernel
theorem dX11_fault_11 : decode cX11_fault 11 = .ok (.ireturn, 1) := by decide +kernel
theorem dX11_fault_12 : decode cX11_fault 12 = .ok (.iload_n 1, 1) := by decide +kernel
theorem dX11_fault_13 : decode cX11_fault 13 = .ok (.iconst 1, 1) := by decide +kernel
theorem dX11_fault_14 : decode cX11_fault 14 = .ok (.if_icmp .ne 13, 3) := by decide +kernel
theorem dX11_fault_17 : decode cX11_fault 17 = .ok (.aload_n 0, 1) := by decide +kernel
theorem dX11_fault_18 : decode cX11_fault 18 = .ok (.getfield 29, 3) := by decide +kernel
theorem dX11_fault_21 : decode cX11_fault 21 = .ok (.getfield 207, 3) := by decide +kernel
theorem dX11_fault_24 : decode cX11_fault 24 = .ok (.goto 4, 3) := by decide +kernel
theorem dX11_fault_27 : decode cX11_fault 27 = .ok (.iconst (-1), 1) := by decide +kernel
theorem dX11_fault_28 : decode cX11_fault 28 = .ok (.ireturn, 1) := by decide +kernel
noncomputable def RC_fault (σ : St) (p1 : Int32) : Option Int32 :=
  if p1 = 0 then (some (σ.1 2 9)) else (if p1 = 1 then (some (σ.1 2 10)) else (some (-1)))
set_option maxRecDepth 100000 in
set_option maxHeartbeats 4000000 in
theorem tm_RC_fault {V : Ev} {Γ : Cn} {fin : Option Value × St} {σ : St} {p1 : Int32} {o : Int32} (X : Cx V Γ M_X11_fault) {A : Int32 → Prop}  (hr : ∀ (r : Int32), A r → (some (.int r), σ) = fin) (h : RC_fault σ p1 = some o) (hA : A o) : Go V Γ M_X11_fault (Zm V Γ 0 fin) 0 [(0, .ref (V.2.2.1 + 0)), (1, .int p1)] [] σ := by
  unfold RC_fault at h
  refine g_iload_n (pc := 0) X 1 rfl dX11_fault_0 ?_
  refine g_if_ne (pc := 1) (tgt := 12) X dX11_fault_1 rfl (fun c2 => ?_) (fun c2 => ?_)
  · replace h := if_f c2 h
    refine g_iload_n (pc := 12) X 1 rfl dX11_fault_12 ?_
    refine g_iconst (v := 1) (pc := 13) X rfl dX11_fault_13 ?_
    refine g_icmp_ne (pc := 14) (tgt := 27) X dX11_fault_14 rfl (fun c1 => ?_) (fun c1 => ?_)
    · replace h := if_f c1 h
      refine g_iconst (v := (-1)) (pc := 27) X rfl dX11_fault_27 ?_
      cases h
      exact g_iret (pc := 28) X rfl rfl (hr _ hA) dX11_fault_28
    · replace h := if_t c1 h
      refine g_aload_n (pc := 17) X 0 rfl dX11_fault_17 ?_
      refine g_getR (r := 2) (pc := 18) X k_fl_X11_29 s_0 rfl dX11_fault_18 ?_
      refine g_getI (pc := 21) X k_fl_X11_207 s_2 rfl dX11_fault_21 ?_
      refine g_goto (pc := 24) (tgt := 28) X dX11_fault_24 rfl ?_
      cases h
      exact g_iret (pc := 28) X rfl rfl (hr _ hA) dX11_fault_28
  · replace h := if_t c2 h
    refine g_aload_n (pc := 4) X 0 rfl dX11_fault_4 ?_
    refine g_getR (r := 2) (pc := 5) X k_fl_X11_29 s_0 rfl dX11_fault_5 ?_
    refine g_getI (pc := 8) X k_fl_X11_204 s_2 rfl dX11_fault_8 ?_
    cases h
    exact g_iret (pc := 11) X rfl rfl (hr _ hA) dX11_fault_11
set_option maxRecDepth 100000 in
theorem run_RC_fault {V : Ev} {σ : St} {p1 : Int32} {o : Int32}   (h : RC_fault σ p1 = some o) : Rs V 0 M_X11_fault [.ref (V.2.2.1 + 0), .int p1] σ (some (.int o), σ) := by
  refine Rs.of (by decide +kernel) (Nat.le_of_ble_eq_true rfl) (fun Γ X => ?_)
  exact tm_RC_fault X (A := fun o1 => o1 = o)  (fun _ e => by rw [e]) h rfl
theorem dX11_sieved_0 : decode cX11_sieved 0 = .ok (.aload_n 0, 1) := by decide +kernel
theorem dX11_sieved_1 : decode cX11_sieved 1 = .ok (.getfield 67, 3) := by decide +kernel
theorem dX11_sieved_4 : decode cX11_sieved 4 = .ok (.aload_n 0, 1) := by decide +kernel
theorem dX11_sieved_5 : decode cX11_sieved 5 = .ok (.getfield 36, 3) := by decide +kernel
theorem dX11_sieved_8 : decode cX11_sieved 8 = .ok (.aload_n 0, 1) := by decide +kernel
theorem dX11_sieved_9 : decode cX11_sieved 9 = .ok (.getfield 36, 3) := by decide +kernel
theorem dX11_sieved_12 : decode cX11_sieved 12 = .ok (.getfield 213, 3) := by decide +kernel
theorem dX11_sieved_15 : decode cX11_sieved 15 = .ok (.invokevirtual 339, 3) := by decide +kernel
theorem dX11_sieved_18 : decode cX11_sieved 18 = .ok (.ireturn, 1) := by decide +kernel
noncomputable def RC_sieved (σ : St) : Option (Int32 × St) :=
  bd2 (Si_fill σ 7 (σ.1 7 4)) (fun r2 σ3 => chk (ckz r2) (some (r2, σ3)))
set_option maxRecDepth 100000 in
set_option maxHeartbeats 4000000 in
theorem tm_RC_sieved {V : Ev} {Γ : Cn} {fin : Option Value × St} {σ : St} {o : (Int32 × St)} (X : Cx V Γ M_X11_sieved) {A : (Int32 × St) → Prop}  (hr : ∀ (r : Int32) (σ9 : St), A (r, σ9) → (some (.int r), σ9) = fin) (h : RC_sieved σ = some o) (hA : A o) : Go V Γ M_X11_sieved (Zm V Γ 4 fin) 0 [(0, .ref (V.2.2.1 + 0))] [] σ := by
  unfold RC_sieved at h
  refine g_aload_n (pc := 0) X 0 rfl dX11_sieved_0 ?_
  refine g_getR (r := 31) (pc := 1) X k_fl_X11_67 s_0 rfl dX11_sieved_1 ?_
  refine g_aload_n (pc := 4) X 0 rfl dX11_sieved_4 ?_
  refine g_getR (r := 7) (pc := 5) X k_fl_X11_36 s_0 rfl dX11_sieved_5 ?_
  refine g_aload_n (pc := 8) X 0 rfl dX11_sieved_8 ?_
  refine g_getR (r := 7) (pc := 9) X k_fl_X11_36 s_0 rfl dX11_sieved_9 ?_
  refine g_getI (pc := 12) X k_fl_X11_213 s_7 rfl dX11_sieved_12 ?_
  obtain ⟨r2, σ3, hc1, h⟩ := bd2_e h
  refine g_callV (pc := 15) X k_ml_X11_339 (run_Si_fill (oknCl_7) hc1) s_31 rfl (room_ok (Nat.le_of_ble_eq_true rfl) (Nat.le_of_ble_eq_true rfl)) ⟨Nat.le_refl _, Nat.le_refl _⟩ _ rfl (Nat.le_of_ble_eq_true rfl) dX11_sieved_15 ?_
  show Go V Γ M_X11_sieved (Zm V Γ 4 fin) 18 [(0, .ref (V.2.2.1 + 0))] [.int r2] σ3
  obtain ⟨c4, h⟩ := chk_e h
  cases h
  exact g_iret (pc := 18) X rfl (ckz_e c4).1 (hr _ _ hA) dX11_sieved_18
set_option maxRecDepth 100000 in
theorem run_RC_sieved {V : Ev} {σ : St} {o : (Int32 × St)}   (h : RC_sieved σ = some o) : Rs V 4 M_X11_sieved [.ref (V.2.2.1 + 0)] σ (some (.int o.1), o.2) := by
  refine Rs.of (by decide +kernel) (Nat.le_of_ble_eq_true rfl) (fun Γ X => ?_)
  exact tm_RC_sieved X (A := fun o1 => o1 = o)  (fun _ _ e => by rw [← e]) h rfl
theorem dX11_toldBySpan_0 : decode cX11_toldBySpan 0 = .ok (.aload_n 0, 1) := by decide +kernel
theorem dX11_toldBySpan_1 : decode cX11_toldBySpan 1 = .ok (.invokevirtual 226, 3) := by decide +kernel
theorem dX11_toldBySpan_4 : decode cX11_toldBySpan 4 = .ok (.ifCond .ne 10, 3) := by decide +kernel
theorem dX11_toldBySpan_7 : decode cX11_toldBySpan 7 = .ok (.aload_n 0, 1) := by decide +kernel
theorem dX11_toldBySpan_8 : decode cX11_toldBySpan 8 = .ok (.bipush 7, 2) := by decide +kernel
theorem dX11_toldBySpan_10 : decode cX11_toldBySpan 10 = .ok (.invokevirtual 124, 3) := by decide +kernel
theorem dX11_toldBySpan_13 : decode cX11_toldBySpan 13 = .ok (.ireturn, 1) := by decide +kernel
theorem dX11_toldBySpan_14 : decode cX11_toldBySpan 14 = .ok (.iload_n 1, 1) := by decide +kernel
theorem dX11_toldBySpan_15 : decode cX11_toldBySpan 15 = .ok (.iconst 3, 1) := by decide +kernel
theorem dX11_toldBySpan_16 : decode cX11_toldBySpan 16 = .ok (.if_icmp .ne 15, 3) := by decide +kernel
theorem dX11_toldBySpan_19 : decode cX11_toldBySpan 19 = .ok (.aload_n 0, 1) := by decide +kernel
theorem dX11_toldBySpan_20 : decode cX11_toldBySpan 20 = .ok (.aload_n 0, 1) := by decide +kernel
theorem dX11_toldBySpan_21 : decode cX11_toldBySpan 21 = .ok (.getfield 67, 3) := by decide +kernel
theorem dX11_toldBySpan_24 : decode cX11_toldBySpan 24 = .ok (.getfield 229, 3) := by decide +kernel
theorem dX11_toldBySpan_27 : decode cX11_toldBySpan 27 = .ok (.invokevirtual 185, 3) := by decide +kernel
theorem dX11_toldBySpan_30 : decode cX11_toldBySpan 30 = .ok (.ireturn, 1) := by decide +kernel
theorem dX11_toldBySpan_31 : decode cX11_toldBySpan 31 = .ok (.aload_n 0, 1) := by decide +kernel
theorem dX11_toldBySpan_32 : decode cX11_toldBySpan 32 = .ok (.getfield 67, 3) := by decide +kernel
theorem dX11_toldBySpan_35 : decode cX11_toldBySpan 35 = .ok (.invokevirtual 232, 3) := by decide +kernel
theorem dX11_toldBySpan_38 : decode cX11_toldBySpan 38 = .ok (.istore_n 2, 1) := by decide +kernel
theorem dX11_toldBySpan_39 : decode cX11_toldBySpan 39 = .ok (.iload_n 1, 1) := by decide +kernel
theorem dX11_toldBySpan_40 : decode cX11_toldBySpan 40 = .ok (.iconst 4, 1) := by decide +kernel
theorem dX11_toldBySpan_41 : decode cX11_toldBySpan 41 = .ok (.if_icmp .ne 9, 3) := by decide +kernel
theorem dX11_toldBySpan_44 : decode cX11_toldBySpan 44 = .ok (.aload_n 0, 1) := by decide +kernel
theorem dX11_toldBySpan_45 : decode cX11_toldBySpan 45 = .ok (.iload_n 2, 1) := by decide +kernel
theorem dX11_toldBySpan_46 : decode cX11_toldBySpan 46 = .ok (.invokevirtual 185, 3) := by decide +kernel
theorem dX11_toldBySpan_49 : decode cX11_toldBySpan 49 = .ok (.ireturn, 1) := by decide +kernel
theorem dX11_toldBySpan_50 : decode cX11_toldBySpan 50 = .ok (.aload_n 0, 1) := by decide +kernel
theorem dX11_toldBySpan_51 : decode cX11_toldBySpan 51 = .ok (.iload_n 2, 1) := by decide +kernel
theorem dX11_toldBySpan_52 : decode cX11_toldBySpan 52 = .ok (.ifCond .ne 7, 3) := by decide +kernel
theorem dX11_toldBySpan_55 : decode cX11_toldBySpan 55 = .ok (.iconst 1, 1) := by decide +kernel
theorem dX11_toldBySpan_56 : decode cX11_toldBySpan 56 = .ok (.goto 4, 3) := by decide +kernel
theorem dX11_toldBySpan_59 : decode cX11_toldBySpan 59 = .ok (.iconst 0, 1) := by decide +kernel
theorem dX11_toldBySpan_60 : decode cX11_toldBySpan 60 = .ok (.invokevirtual 185, 3) := by decide +kernel
theorem dX11_toldBySpan_63 : decode cX11_toldBySpan 63 = .ok (.ireturn, 1) := by decide +kernel
noncomputable def RC_toldBySpan (σ : St) (p1 : Int32) : Option (Int32 × St) :=
  bd2 (RC_sieved σ) (fun r2 σ3 => if r2 = 0 then (bd2 (RC_refuse σ3 7) (fun r22 σ23 => some (r22, σ23))) else (if p1 = 3 then (bd2 (RC_answer σ3 (σ3.1 31 3)) (fun r18 σ19 => some (r18, σ19))) else (bd (Si_countGaps σ3) (fun r5 => if p1 = 4 then (bd2 (RC_answer σ3 r5) (fun r14 σ15 => some (r14, σ15))) else (if r5 = 0 then (bd2 (RC_answer σ3 1) (fun r10 σ11 => some (r10, σ11))) else (bd2 (RC_answer σ3 0) (fun r7 σ8 => some (r7, σ8))))))))
set_option maxRecDepth 100000 in
set_option maxHeartbeats 4000000 in
theorem tm_RC_toldBySpan {V : Ev} {Γ : Cn} {fin : Option Value × St} {σ : St} {p1 : Int32} {o : (Int32 × St)} (X : Cx V Γ M_X11_toldBySpan) {A : (Int32 × St) → Prop}  (hr : ∀ (r : Int32) (σ9 : St), A (r, σ9) → (some (.int r), σ9) = fin) (h : RC_toldBySpan σ p1 = some o) (hA : A o) : Go V Γ M_X11_toldBySpan (Zm V Γ 5 fin) 0 [(0, .ref (V.2.2.1 + 0)), (1, .int p1)] [] σ := by
  unfold RC_toldBySpan at h
  refine g_aload_n (pc := 0) X 0 rfl dX11_toldBySpan_0 ?_
  obtain ⟨r2, σ3, hc1, h⟩ := bd2_e h
  refine g_callV (pc := 1) X k_ml_X11_226 (run_RC_sieved  hc1) s_0 rfl (room_ok (Nat.le_of_ble_eq_true rfl) (Nat.le_of_ble_eq_true rfl)) ⟨Nat.le_refl _, Nat.le_refl _⟩ _ rfl (Nat.le_of_ble_eq_true rfl) dX11_toldBySpan_1 ?_
  show Go V Γ M_X11_toldBySpan (Zm V Γ 5 fin) 4 [(0, .ref (V.2.2.1 + 0)), (1, .int p1)] [.int r2] σ3
  refine g_if_ne (pc := 4) (tgt := 14) X dX11_toldBySpan_4 rfl (fun c24 => ?_) (fun c24 => ?_)
  · replace h := if_f c24 h
    refine g_iload_n (pc := 14) X 1 rfl dX11_toldBySpan_14 ?_
    refine g_iconst (v := 3) (pc := 15) X rfl dX11_toldBySpan_15 ?_
    refine g_icmp_ne (pc := 16) (tgt := 31) X dX11_toldBySpan_16 rfl (fun c20 => ?_) (fun c20 => ?_)
    · replace h := if_f c20 h
      refine g_aload_n (pc := 31) X 0 rfl dX11_toldBySpan_31 ?_
      refine g_getR (r := 31) (pc := 32) X k_fl_X11_67 s_0 rfl dX11_toldBySpan_32 ?_
      obtain ⟨r5, hc4, h⟩ := bd_e h
      refine g_callV (pc := 35) X k_ml_X11_232 (run_Si_countGaps  hc4) s_31 rfl (room_ok (Nat.le_of_ble_eq_true rfl) (Nat.le_of_ble_eq_true rfl)) ⟨Nat.le_refl _, Nat.le_refl _⟩ _ rfl (Nat.le_of_ble_eq_true rfl) dX11_toldBySpan_35 ?_
      show Go V Γ M_X11_toldBySpan (Zm V Γ 5 fin) 38 [(0, .ref (V.2.2.1 + 0)), (1, .int p1)] [.int r5] σ3
      refine g_istore_n (pc := 38) X [(2, .int r5), (0, .ref (V.2.2.1 + 0)), (1, .int p1)] rfl (Nat.le_of_ble_eq_true rfl) rfl dX11_toldBySpan_38 ?_
      refine g_iload_n (pc := 39) X 2 rfl dX11_toldBySpan_39 ?_
      refine g_iconst (v := 4) (pc := 40) X rfl dX11_toldBySpan_40 ?_
      refine g_icmp_ne (pc := 41) (tgt := 50) X dX11_toldBySpan_41 rfl (fun c16 => ?_) (fun c16 => ?_)
      · replace h := if_f c16 h
        refine g_aload_n (pc := 50) X 1 rfl dX11_toldBySpan_50 ?_
        refine g_iload_n (pc := 51) X 0 rfl dX11_toldBySpan_51 ?_
        refine g_if_ne (pc := 52) (tgt := 59) X dX11_toldBySpan_52 rfl (fun c12 => ?_) (fun c12 => ?_)
        · replace h := if_f c12 h
          refine g_iconst (v := 0) (pc := 59) X rfl dX11_toldBySpan_59 ?_
          obtain ⟨r7, σ8, hc6, h⟩ := bd2_e h
          refine g_callV (pc := 60) X k_ml_X11_185 (run_RC_answer  hc6) s_0 rfl (room_ok (Nat.le_of_ble_eq_true rfl) (Nat.le_of_ble_eq_true rfl)) ⟨Nat.le_refl _, Nat.le_refl _⟩ _ rfl (Nat.le_of_ble_eq_true rfl) dX11_toldBySpan_60 ?_
          show Go V Γ M_X11_toldBySpan (Zm V Γ 5 fin) 63 [(2, .int r5), (0, .ref (V.2.2.1 + 0)), (1, .int p1)] [.int r7] σ8
          cases h
          exact g_iret (pc := 63) X rfl rfl (hr _ _ hA) dX11_toldBySpan_63
        · replace h := if_t c12 h
          refine g_iconst (v := 1) (pc := 55) X rfl dX11_toldBySpan_55 ?_
          refine g_goto (pc := 56) (tgt := 60) X dX11_toldBySpan_56 rfl ?_
          obtain ⟨r10, σ11, hc9, h⟩ := bd2_e h
          refine g_callV (pc := 60) X k_ml_X11_185 (run_RC_answer  hc9) s_0 rfl (room_ok (Nat.le_of_ble_eq_true rfl) (Nat.le_of_ble_eq_true rfl)) ⟨Nat.le_refl _, Nat.le_refl _⟩ _ rfl (Nat.le_of_ble_eq_true rfl) dX11_toldBySpan_60 ?_
          show Go V Γ M_X11_toldBySpan (Zm V Γ 5 fin) 63 [(2, .int r5), (0, .ref (V.2.2.1 + 0)), (1, .int p1)] [.int r10] σ11
          cases h
          exact g_iret (pc := 63) X rfl rfl (hr _ _ hA) dX11_toldBySpan_63
      · replace h := if_t c16 h
        refine g_aload_n (pc := 44) X 1 rfl dX11_toldBySpan_44 ?_
        refine g_iload_n (pc := 45) X 0 rfl dX11_toldBySpan_45 ?_
        obtain ⟨r14, σ15, hc13, h⟩ := bd2_e h
        refine g_callV (pc := 46) X k_ml_X11_185 (run_RC_answer  hc13) s_0 rfl (room_ok (Nat.le_of_ble_eq_true rfl) (Nat.le_of_ble_eq_true rfl)) ⟨Nat.le_refl _, Nat.le_refl _⟩ _ rfl (Nat.le_of_ble_eq_true rfl) dX11_toldBySpan_46 ?_
        show Go V Γ M_X11_toldBySpan (Zm V Γ 5 fin) 49 [(2, .int r5), (0, .ref (V.2.2.1 + 0)), (1, .int p1)] [.int r14] σ15
        cases h
        exact g_iret (pc := 49) X rfl rfl (hr _ _ hA) dX11_toldBySpan_49
    · replace h := if_t c20 h
      refine g_aload_n (pc := 19) X 0 rfl dX11_toldBySpan_19 ?_
      refine g_aload_n (pc := 20) X 0 rfl dX11_toldBySpan_20 ?_
      refine g_getR (r := 31) (pc := 21) X k_fl_X11_67 s_0 rfl dX11_toldBySpan_21 ?_
      refine g_getI (pc := 24) X k_fl_X11_229 s_31 rfl dX11_toldBySpan_24 ?_
      obtain ⟨r18, σ19, hc17, h⟩ := bd2_e h
      refine g_callV (pc := 27) X k_ml_X11_185 (run_RC_answer  hc17) s_0 rfl (room_ok (Nat.le_of_ble_eq_true rfl) (Nat.le_of_ble_eq_true rfl)) ⟨Nat.le_refl _, Nat.le_refl _⟩ _ rfl (Nat.le_of_ble_eq_true rfl) dX11_toldBySpan_27 ?_
      show Go V Γ M_X11_toldBySpan (Zm V Γ 5 fin) 30 [(0, .ref (V.2.2.1 + 0)), (1, .int p1)] [.int r18] σ19
      cases h
      exact g_iret (pc := 30) X rfl rfl (hr _ _ hA) dX11_toldBySpan_30
  · replace h := if_t c24 h
    refine g_aload_n (pc := 7) X 0 rfl dX11_toldBySpan_7 ?_
    refine g_bipush (v := 7) (pc := 8) X (by decide) dX11_toldBySpan_8 ?_
    obtain ⟨r22, σ23, hc21, h⟩ := bd2_e h
    refine g_callV (pc := 10) X k_ml_X11_124 (run_RC_refuse  hc21) s_0 rfl (room_ok (Nat.le_of_ble_eq_true rfl) (Nat.le_of_ble_eq_true rfl)) ⟨Nat.le_refl _, Nat.le_refl _⟩ _ rfl (Nat.le_of_ble_eq_true rfl) dX11_toldBySpan_10 ?_
    show Go V Γ M_X11_toldBySpan (Zm V Γ 5 fin) 13 [(0, .ref (V.2.2.1 + 0)), (1, .int p1)] [.int r22] σ23
    cases h
    exact g_iret (pc := 13) X rfl rfl (hr _ _ hA) dX11_toldBySpan_13
set_option maxRecDepth 100000 in
theorem run_RC_toldBySpan {V : Ev} {σ : St} {p1 : Int32} {o : (Int32 × St)}   (h : RC_toldBySpan σ p1 = some o) : Rs V 5 M_X11_toldBySpan [.ref (V.2.2.1 + 0), .int p1] σ (some (.int o.1), o.2) := by
  refine Rs.of (by decide +kernel) (Nat.le_of_ble_eq_true rfl) (fun Γ X => ?_)
  exact tm_RC_toldBySpan X (A := fun o1 => o1 = o)  (fun _ _ e => by rw [← e]) h rfl
theorem dX11_told_0 : decode cX11_told 0 = .ok (.iload_n 1, 1) := by decide +kernel
theorem dX11_told_1 : decode cX11_told 1 = .ok (.tableswitch 121 0 7 #[47, 59, 71, 83, 83, 83, 89, 101], 47) := by decide +kernel
theorem dX11_told_48 : decode cX11_told 48 = .ok (.aload_n 0, 1) := by decide +kernel
theorem dX11_told_49 : decode cX11_told 49 = .ok (.aload_n 0, 1) := by decide +kernel
theorem dX11_told_50 : decode cX11_told 50 = .ok (.getfield 36, 3) := by decide +kernel
theorem dX11_told_53 : decode cX11_told 53 = .ok (.getfield 182, 3) := by decide +kernel
theorem dX11_told_56 : decode cX11_told 56 = .ok (.invokevirtual 185, 3) := by decide +kernel
theorem dX11_told_59 : decode cX11_told 59 = .ok (.ireturn, 1) := by decide +kernel
theorem dX11_told_60 : decode cX11_told 60 = .ok (.aload_n 0, 1) := by decide +kernel
theorem dX11_told_61 : decode cX11_told 61 = .ok (.aload_n 0, 1) := by decide +kernel
theorem dX11_told_62 : decode cX11_told 62 = .ok (.getfield 36, 3) := by decide +kernel
theorem dX11_told_65 : decode cX11_told 65 = .ok (.getfield 210, 3) := by decide +kernel
theorem dX11_told_68 : decode cX11_told 68 = .ok (.invokevirtual 185, 3) := by decide +kernel
theorem dX11_told_71 : decode cX11_told 71 = .ok (.ireturn, 1) := by decide +kernel
theorem dX11_told_72 : decode cX11_told 72 = .ok (.aload_n 0, 1) := by decide +kernel
theorem dX11_told_73 : decode cX11_told 73 = .ok (.aload_n 0, 1) := by decide +kernel
theorem dX11_told_74 : decode cX11_told 74 = .ok (.getfield 36, 3) := by decide +kernel
theorem dX11_told_77 : decode cX11_told 77 = .ok (.getfield 213, 3) := by decide +kernel
theorem dX11_told_80 : decode cX11_told 80 = .ok (.invokevirtual 185, 3) := by decide +kernel
theorem dX11_told_83 : decode cX11_told 83 = .ok (.ireturn, 1) := by decide +kernel
theorem dX11_told_84 : decode cX11_told 84 = .ok (.aload_n 0, 1) := by decide +kernel
theorem dX11_told_85 : decode cX11_told 85 = .ok (.iload_n 1, 1) := by decide +kernel
theorem dX11_told_86 : decode cX11_told 86 = .ok (.invokevirtual 216, 3) := by decide +kernel
theorem dX11_told_89 : decode cX11_told 89 = .ok (.ireturn, 1) := by decide +kernel
theorem dX11_told_90 : decode cX11_told 90 = .ok (.aload_n 0, 1) := by decide +kernel
theorem dX11_told_91 : decode cX11_told 91 = .ok (.aload_n 0, 1) := by decide +kernel
theorem dX11_told_92 : decode cX11_told 92 = .ok (.getfield 36, 3) := by decide +kernel
theorem dX11_told_95 : decode cX11_told 95 = .ok (.invokevirtual 219, 3) := by decide +kernel
theorem dX11_told_98 : decode cX11_told 98 = .ok (.invokevirtual 185, 3) := by decide +kernel
theorem dX11_told_101 : decode cX11_told 101 = .ok (.ireturn, 1) := by decide +kernel
theorem dX11_told_102 : decode cX11_told 102 = .ok (.aload_n 0, 1) := by decide +kernel
theorem dX11_told_103 : decode cX11_told 103 = .ok (.aload_n 0, 1) := by decide +kernel
theorem dX11_told_104 : decode cX11_told 104 = .ok (.getfield 36, 3) := by decide +kernel
theorem dX11_told_107 : decode cX11_told 107 = .ok (.invokevirtual 223, 3) := by decide +kernel
theorem dX11_told_110 : decode cX11_told 110 = .ok (.ifCond .eq 7, 3) := by decide +kernel
theorem dX11_told_113 : decode cX11_told 113 = .ok (.iconst 1, 1) := by decide +kernel
theorem dX11_told_114 : decode cX11_told 114 = .ok (.goto 4, 3) := by decide +kernel
theorem dX11_told_117 : decode cX11_told 117 = .ok (.iconst 0, 1) := by decide +kernel
theorem dX11_told_118 : decode cX11_told 118 = .ok (.invokevirtual 185, 3) := by decide +kernel
theorem dX11_told_121 : decode cX11_told 121 = .ok (.ireturn, 1) := by decide +kernel
theorem dX11_told_122 : decode cX11_told 122 = .ok (.aload_n 0, 1) := by decide +kernel
theorem dX11_told_123 : decode cX11_told 123 = .ok (.iconst 1, 1) := by decide +kernel
theorem dX11_told_124 : decode cX11_told 124 = .ok (.invokevirtual 124, 3) := by decide +kernel
theorem dX11_told_127 : decode cX11_told 127 = .ok (.ireturn, 1) := by decide +kernel
noncomputable def RC_told (σ : St) (p1 : Int32) : Option (Int32 × St) :=
  if p1 = 0 then (bd2 (RC_answer σ (σ.1 7 3)) (fun r2 σ3 => some (r2, σ3))) else if p1 = 1 then (bd2 (RC_answer σ (σ.1 7 5)) (fun r6 σ7 => some (r6, σ7))) else if p1 = 2 then (bd2 (RC_answer σ (σ.1 7 4)) (fun r10 σ11 => some (r10, σ11))) else if p1 = 3 then (bd2 (RC_toldBySpan σ p1) (fun r14 σ15 => some (r14, σ15))) else if p1 = 4 then (bd2 (RC_toldBySpan σ p1) (fun r18 σ19 => some (r18, σ19))) else if p1 = 5 then (bd2 (RC_toldBySpan σ p1) (fun r22 σ23 => some (r22, σ23))) else if p1 = 6 then (bd (Cl_couples σ 7) (fun r26 => bd2 (RC_answer σ r26) (fun r28 σ29 => some (r28, σ29)))) else if p1 = 7 then (bd (Cl_allUnlike σ 7) (fun r32 => if r32 = 0 then (bd2 (RC_answer σ 0) (fun r34 σ35 => some (r34, σ35))) else (bd2 (RC_answer σ 1) (fun r37 σ38 => some (r37, σ38))))) else (bd2 (RC_refuse σ 1) (fun r42 σ43 => some (r42, σ43)))
set_option maxRecDepth 100000 in
set_option maxHeartbeats 4000000 in
theorem tm_RC_told {V : Ev} {Γ : Cn} {fin : Option Value × St} {σ : St} {p1 : Int32} {o : (Int32 × St)} (X : Cx V Γ M_X11_told) {A : (Int32 × St) → Prop}  (hr : ∀ (r : Int32) (σ9 : St), A (r, σ9) → (some (.int r), σ9) = fin) (h : RC_told σ p1 = some o) (hA : A o) : Go V Γ M_X11_told (Zm V Γ 6 fin) 0 [(0, .ref (V.2.2.1 + 0)), (1, .int p1)] [] σ := by
  unfold RC_told at h
  refine g_iload_n (pc := 0) X 1 rfl dX11_told_0 ?_
  by_cases c4 : p1 = 0
  · replace h := if_t c4 h
    refine g_tabIn (pc := 1) (tgt := 48) X c4 dX11_told_1 (by decide) (by decide) rfl rfl ?_
    refine g_aload_n (pc := 48) X 0 rfl dX11_told_48 ?_
    refine g_aload_n (pc := 49) X 0 rfl dX11_told_49 ?_
    refine g_getR (r := 7) (pc := 50) X k_fl_X11_36 s_0 rfl dX11_told_50 ?_
    refine g_getI (pc := 53) X k_fl_X11_182 s_7 rfl dX11_told_53 ?_
    obtain ⟨r2, σ3, hc1, h⟩ := bd2_e h
    refine g_callV (pc := 56) X k_ml_X11_185 (run_RC_answer  hc1) s_0 rfl (room_ok (Nat.le_of_ble_eq_true rfl) (Nat.le_of_ble_eq_true rfl)) ⟨Nat.le_refl _, Nat.le_refl _⟩ _ rfl (Nat.le_of_ble_eq_true rfl) dX11_told_56 ?_
    show Go V Γ M_X11_told (Zm V Γ 6 fin) 59 [(0, .ref (V.2.2.1 + 0)), (1, .int p1)] [.int r2] σ3
    cases h
    exact g_iret (pc := 59) X rfl rfl (hr _ _ hA) dX11_told_59
  replace h := if_f c4 h
  by_cases c8 : p1 = 1
  · replace h := if_t c8 h
    refine g_tabIn (pc := 1) (tgt := 60) X c8 dX11_told_1 (by decide) (by decide) rfl rfl ?_
    refine g_aload_n (pc := 60) X 0 rfl dX11_told_60 ?_
    refine g_aload_n (pc := 61) X 0 rfl dX11_told_61 ?_
    refine g_getR (r := 7) (pc := 62) X k_fl_X11_36 s_0 rfl dX11_told_62 ?_
    refine g_getI (pc := 65) X k_fl_X11_210 s_7 rfl dX11_told_65 ?_
    obtain ⟨r6, σ7, hc5, h⟩ := bd2_e h
    refine g_callV (pc := 68) X k_ml_X11_185 (run_RC_answer  hc5) s_0 rfl (room_ok (Nat.le_of_ble_eq_true rfl) (Nat.le_of_ble_eq_true rfl)) ⟨Nat.le_refl _, Nat.le_refl _⟩ _ rfl (Nat.le_of_ble_eq_true rfl) dX11_told_68 ?_
    show Go V Γ M_X11_told (Zm V Γ 6 fin) 71 [(0, .ref (V.2.2.1 + 0)), (1, .int p1)] [.int r6] σ7
    cases h
    exact g_iret (pc := 71) X rfl rfl (hr _ _ hA) dX11_told_71
  replace h := if_f c8 h
  by_cases c12 : p1 = 2
  · replace h := if_t c12 h
    refine g_tabIn (pc := 1) (tgt := 72) X c12 dX11_told_1 (by decide) (by decide) rfl rfl ?_
    refine g_aload_n (pc := 72) X 0 rfl dX11_told_72 ?_
    refine g_aload_n (pc := 73) X 0 rfl dX11_told_73 ?_
    refine g_getR (r := 7) (pc := 74) X k_fl_X11_36 s_0 rfl dX11_told_74 ?_
    refine g_getI (pc := 77) X k_fl_X11_213 s_7 rfl dX11_told_77 ?_
    obtain ⟨r10, σ11, hc9, h⟩ := bd2_e h
    refine g_callV (pc := 80) X k_ml_X11_185 (run_RC_answer  hc9) s_0 rfl (room_ok (Nat.le_of_ble_eq_true rfl) (Nat.le_of_ble_eq_true rfl)) ⟨Nat.le_refl _, Nat.le_refl _⟩ _ rfl (Nat.le_of_ble_eq_true rfl) dX11_told_80 ?_
    show Go V Γ M_X11_told (Zm V Γ 6 fin) 83 [(0, .ref (V.2.2.1 + 0)), (1, .int p1)] [.int r10] σ11
    cases h
    exact g_iret (pc := 83) X rfl rfl (hr _ _ hA) dX11_told_83
  replace h := if_f c12 h
  by_cases c16 : p1 = 3
  · replace h := if_t c16 h
    refine g_tabIn (pc := 1) (tgt := 84) X c16 dX11_told_1 (by decide) (by decide) rfl rfl ?_
    refine g_aload_n (pc := 84) X 0 rfl dX11_told_84 ?_
    refine g_iload_n (pc := 85) X 1 rfl dX11_told_85 ?_
    obtain ⟨r14, σ15, hc13, h⟩ := bd2_e h
    refine g_callV (pc := 86) X k_ml_X11_216 (run_RC_toldBySpan  hc13) s_0 rfl (room_ok (Nat.le_of_ble_eq_true rfl) (Nat.le_of_ble_eq_true rfl)) ⟨Nat.le_refl _, Nat.le_refl _⟩ _ rfl (Nat.le_of_ble_eq_true rfl) dX11_told_86 ?_
    show Go V Γ M_X11_told (Zm V Γ 6 fin) 89 [(0, .ref (V.2.2.1 + 0)), (1, .int p1)] [.int r14] σ15
    cases h
    exact g_iret (pc := 89) X rfl rfl (hr _ _ hA) dX11_told_89
  replace h := if_f c16 h
  by_cases c20 : p1 = 4
  · replace h := if_t c20 h
    refine g_tabIn (pc := 1) (tgt := 84) X c20 dX11_told_1 (by decide) (by decide) rfl rfl ?_
    refine g_aload_n (pc := 84) X 0 rfl dX11_told_84 ?_
    refine g_iload_n (pc := 85) X 1 rfl dX11_told_85 ?_
    obtain ⟨r18, σ19, hc17, h⟩ := bd2_e h
    refine g_callV (pc := 86) X k_ml_X11_216 (run_RC_toldBySpan  hc17) s_0 rfl (room_ok (Nat.le_of_ble_eq_true rfl) (Nat.le_of_ble_eq_true rfl)) ⟨Nat.le_refl _, Nat.le_refl _⟩ _ rfl (Nat.le_of_ble_eq_true rfl) dX11_told_86 ?_
    show Go V Γ M_X11_told (Zm V Γ 6 fin) 89 [(0, .ref (V.2.2.1 + 0)), (1, .int p1)] [.int r18] σ19
    cases h
    exact g_iret (pc := 89) X rfl rfl (hr _ _ hA) dX11_told_89
  replace h := if_f c20 h
  by_cases c24 : p1 = 5
  · replace h := if_t c24 h
    refine g_tabIn (pc := 1) (tgt := 84) X c24 dX11_told_1 (by decide) (by decide) rfl rfl ?_
    refine g_aload_n (pc := 84) X 0 rfl dX11_told_84 ?_
    refine g_iload_n (pc := 85) X 1 rfl dX11_told_85 ?_
    obtain ⟨r22, σ23, hc21, h⟩ := bd2_e h
    refine g_callV (pc := 86) X k_ml_X11_216 (run_RC_toldBySpan  hc21) s_0 rfl (room_ok (Nat.le_of_ble_eq_true rfl) (Nat.le_of_ble_eq_true rfl)) ⟨Nat.le_refl _, Nat.le_refl _⟩ _ rfl (Nat.le_of_ble_eq_true rfl) dX11_told_86 ?_
    show Go V Γ M_X11_told (Zm V Γ 6 fin) 89 [(0, .ref (V.2.2.1 + 0)), (1, .int p1)] [.int r22] σ23
    cases h
    exact g_iret (pc := 89) X rfl rfl (hr _ _ hA) dX11_told_89
  replace h := if_f c24 h
  by_cases c30 : p1 = 6
  · replace h := if_t c30 h
    refine g_tabIn (pc := 1) (tgt := 90) X c30 dX11_told_1 (by decide) (by decide) rfl rfl ?_
    refine g_aload_n (pc := 90) X 0 rfl dX11_told_90 ?_
    refine g_aload_n (pc := 91) X 0 rfl dX11_told_91 ?_
    refine g_getR (r := 7) (pc := 92) X k_fl_X11_36 s_0 rfl dX11_told_92 ?_
    obtain ⟨r26, hc25, h⟩ := bd_e h
    refine g_callV (pc := 95) X k_ml_X11_219 (run_Cl_couples (oknCl_7) hc25) s_7 rfl (room_ok (Nat.le_of_ble_eq_true rfl) (Nat.le_of_ble_eq_true rfl)) ⟨Nat.le_refl _, Nat.le_refl _⟩ _ rfl (Nat.le_of_ble_eq_true rfl) dX11_told_95 ?_
    show Go V Γ M_X11_told (Zm V Γ 6 fin) 98 [(0, .ref (V.2.2.1 + 0)), (1, .int p1)] [.int r26, .ref (V.2.2.1 + 0)] σ
    obtain ⟨r28, σ29, hc27, h⟩ := bd2_e h
    refine g_callV (pc := 98) X k_ml_X11_185 (run_RC_answer  hc27) s_0 rfl (room_ok (Nat.le_of_ble_eq_true rfl) (Nat.le_of_ble_eq_true rfl)) ⟨Nat.le_refl _, Nat.le_refl _⟩ _ rfl (Nat.le_of_ble_eq_true rfl) dX11_told_98 ?_
    show Go V Γ M_X11_told (Zm V Γ 6 fin) 101 [(0, .ref (V.2.2.1 + 0)), (1, .int p1)] [.int r28] σ29
    cases h
    exact g_iret (pc := 101) X rfl rfl (hr _ _ hA) dX11_told_101
  replace h := if_f c30 h
  by_cases c40 : p1 = 7
  · replace h := if_t c40 h
    refine g_tabIn (pc := 1) (tgt := 102) X c40 dX11_told_1 (by decide) (by decide) rfl rfl ?_
    refine g_aload_n (pc := 102) X 0 rfl dX11_told_102 ?_
    refine g_aload_n (pc := 103) X 0 rfl dX11_told_103 ?_
    refine g_getR (r := 7) (pc := 104) X k_fl_X11_36 s_0 rfl dX11_told_104 ?_
    obtain ⟨r32, hc31, h⟩ := bd_e h
    refine g_callV (pc := 107) X k_ml_X11_223 (run_Cl_allUnlike (oknCl_7) hc31) s_7 rfl (room_ok (Nat.le_of_ble_eq_true rfl) (Nat.le_of_ble_eq_true rfl)) ⟨Nat.le_refl _, Nat.le_refl _⟩ _ rfl (Nat.le_of_ble_eq_true rfl) dX11_told_107 ?_
    show Go V Γ M_X11_told (Zm V Γ 6 fin) 110 [(0, .ref (V.2.2.1 + 0)), (1, .int p1)] [.int r32, .ref (V.2.2.1 + 0)] σ
    refine g_if_eq (pc := 110) (tgt := 117) X dX11_told_110 rfl (fun c39 => ?_) (fun c39 => ?_)
    · replace h := if_t c39 h
      refine g_iconst (v := 0) (pc := 117) X rfl dX11_told_117 ?_
      obtain ⟨r34, σ35, hc33, h⟩ := bd2_e h
      refine g_callV (pc := 118) X k_ml_X11_185 (run_RC_answer  hc33) s_0 rfl (room_ok (Nat.le_of_ble_eq_true rfl) (Nat.le_of_ble_eq_true rfl)) ⟨Nat.le_refl _, Nat.le_refl _⟩ _ rfl (Nat.le_of_ble_eq_true rfl) dX11_told_118 ?_
      show Go V Γ M_X11_told (Zm V Γ 6 fin) 121 [(0, .ref (V.2.2.1 + 0)), (1, .int p1)] [.int r34] σ35
      cases h
      exact g_iret (pc := 121) X rfl rfl (hr _ _ hA) dX11_told_121
    · replace h := if_f c39 h
      refine g_iconst (v := 1) (pc := 113) X rfl dX11_told_113 ?_
      refine g_goto (pc := 114) (tgt := 118) X dX11_told_114 rfl ?_
      obtain ⟨r37, σ38, hc36, h⟩ := bd2_e h
      refine g_callV (pc := 118) X k_ml_X11_185 (run_RC_answer  hc36) s_0 rfl (room_ok (Nat.le_of_ble_eq_true rfl) (Nat.le_of_ble_eq_true rfl)) ⟨Nat.le_refl _, Nat.le_refl _⟩ _ rfl (Nat.le_of_ble_eq_true rfl) dX11_told_118 ?_
      show Go V Γ M_X11_told (Zm V Γ 6 fin) 121 [(0, .ref (V.2.2.1 + 0)), (1, .int p1)] [.int r37] σ38
      cases h
      exact g_iret (pc := 121) X rfl rfl (hr _ _ hA) dX11_told_121
  replace h := if_f c40 h
  refine g_tabOut (pc := 1) (tgt := 122) X dX11_told_1 (by have qc4 := lv_neT (k := 0) (a := 0) c4 rfl; have qc8 := lv_neT (k := 1) (a := 1) c8 rfl; have qc12 := lv_neT (k := 2) (a := 2) c12 rfl; have qc16 := lv_neT (k := 3) (a := 3) c16 rfl; have qc20 := lv_neT (k := 4) (a := 4) c20 rfl; have qc24 := lv_neT (k := 5) (a := 5) c24 rfl; have qc30 := lv_neT (k := 6) (a := 6) c30 rfl; have qc40 := lv_neT (k := 7) (a := 7) c40 rfl; omega) rfl ?_
  refine g_aload_n (pc := 122) X 0 rfl dX11_told_122 ?_
  refine g_iconst (v := 1) (pc := 123) X rfl dX11_told_123 ?_
  obtain ⟨r42, σ43, hc41, h⟩ := bd2_e h
  refine g_callV (pc := 124) X k_ml_X11_124 (run_RC_refuse  hc41) s_0 rfl (room_ok (Nat.le_of_ble_eq_true rfl) (Nat.le_of_ble_eq_true rfl)) ⟨Nat.le_refl _, Nat.le_refl _⟩ _ rfl (Nat.le_of_ble_eq_true rfl) dX11_told_124 ?_
  show Go V Γ M_X11_told (Zm V Γ 6 fin) 127 [(0, .ref (V.2.2.1 + 0)), (1, .int p1)] [.int r42] σ43
  cases h
  exact g_iret (pc := 127) X rfl rfl (hr _ _ hA) dX11_told_127
set_option maxRecDepth 100000 in
theorem run_RC_told {V : Ev} {σ : St} {p1 : Int32} {o : (Int32 × St)}   (h : RC_told σ p1 = some o) : Rs V 6 M_X11_told [.ref (V.2.2.1 + 0), .int p1] σ (some (.int o.1), o.2) := by
  refine Rs.of (by decide +kernel) (Nat.le_of_ble_eq_true rfl) (fun Γ X => ?_)
  exact tm_RC_told X (A := fun o1 => o1 = o)  (fun _ _ e => by rw [← e]) h rfl
theorem dX11_classOf_0 : decode cX11_classOf 0 = .ok (.aload_n 0, 1) := by decide +kernel
theorem dX11_classOf_1 : decode cX11_classOf 1 = .ok (.getfield 36, 3) := by decide +kernel
theorem dX11_classOf_4 : decode cX11_classOf 4 = .ok (.iload_n 1, 1) := by decide +kernel
theorem dX11_classOf_5 : decode cX11_classOf 5 = .ok (.invokevirtual 235, 3) := by decide +kernel
theorem dX11_classOf_8 : decode cX11_classOf 8 = .ok (.ifCond .ne 9, 3) := by decide +kernel
theorem dX11_classOf_11 : decode cX11_classOf 11 = .ok (.aload_n 0, 1) := by decide +kernel
theorem dX11_classOf_12 : decode cX11_classOf 12 = .ok (.iconst 1, 1) := by decide +kernel
theorem dX11_classOf_13 : decode cX11_classOf 13 = .ok (.invokevirtual 124, 3) := by decide +kernel
theorem dX11_classOf_16 : decode cX11_classOf 16 = .ok (.ireturn, 1) := by decide +kernel
theorem dX11_classOf_17 : decode cX11_classOf 17 = .ok (.iload_n 2, 1) := by decide +kernel
theorem dX11_classOf_18 : decode cX11_classOf 18 = .ok (.tableswitch 75 0 2 #[26, 40, 54], 26) := by decide +kernel
theorem dX11_classOf_44 : decode cX11_classOf 44 = .ok (.aload_n 0, 1) := by decide +kernel
theorem dX11_classOf_45 : decode cX11_classOf 45 = .ok (.aload_n 0, 1) := by decide +kernel
theorem dX11_classOf_46 : decode cX11_classOf 46 = .ok (.getfield 36, 3) := by decide +kernel
theorem dX11_classOf_49 : decode cX11_classOf 49 = .ok (.getfield 238, 3) := by decide +kernel
theorem dX11_classOf_52 : decode cX11_classOf 52 = .ok (.iload_n 1, 1) := by decide +kernel
theorem dX11_classOf_53 : decode cX11_classOf 53 = .ok (.iaload, 1) := by decide +kernel
theorem dX11_classOf_54 : decode cX11_classOf 54 = .ok (.invokevirtual 185, 3) := by decide +kernel
theorem dX11_classOf_57 : decode cX11_classOf 57 = .ok (.ireturn, 1) := by decide +kernel
theorem dX11_classOf_58 : decode cX11_classOf 58 = .ok (.aload_n 0, 1) := by decide +kernel
theorem dX11_classOf_59 : decode cX11_classOf 59 = .ok (.aload_n 0, 1) := by decide +kernel
theorem dX11_classOf_60 : decode cX11_classOf 60 = .ok (.getfield 36, 3) := by decide +kernel
theorem dX11_classOf_63 : decode cX11_classOf 63 = .ok (.getfield 242, 3) := by decide +kernel
theorem dX11_classOf_66 : decode cX11_classOf 66 = .ok (.iload_n 1, 1) := by decide +kernel
theorem dX11_classOf_67 : decode cX11_classOf 67 = .ok (.iaload, 1) := by decide +kernel
theorem dX11_classOf_68 : decode cX11_classOf 68 = .ok (.invokevirtual 185, 3) := by decide +kernel
theorem dX11_classOf_71 : decode cX11_classOf 71 = .ok (.ireturn, 1) := by decide +kernel
theorem dX11_classOf_72 : decode cX11_classOf 72 = .ok (.aload_n 0, 1) := by decide +kernel
theorem dX11_classOf_73 : decode cX11_classOf 73 = .ok (.aload_n 0, 1) := by decide +kernel
theorem dX11_classOf_74 : decode cX11_classOf 74 = .ok (.getfield 36, 3) := by decide +kernel
theorem dX11_classOf_77 : decode cX11_classOf 77 = .ok (.iload_n 1, 1) := by decide +kernel
theorem dX11_classOf_78 : decode cX11_classOf 78 = .ok (.invokevirtual 245, 3) := by decide +kernel
theorem dX11_classOf_81 : decode cX11_classOf 81 = .ok (.ifCond .eq 7, 3) := by decide +kernel
theorem dX11_classOf_84 : decode cX11_classOf 84 = .ok (.iconst 1, 1) := by decide +kernel
theorem dX11_classOf_85 : decode cX11_classOf 85 = .ok (.goto 4, 3) := by decide +kernel
theorem dX11_classOf_88 : decode cX11_classOf 88 = .ok (.iconst 0, 1) := by decide +kernel
theorem dX11_classOf_89 : decode cX11_classOf 89 = .ok (.invokevirtual 185, 3) := by decide +kernel
theorem dX11_classOf_92 : decode cX11_classOf 92 = .ok (.ireturn, 1) := by decide +kernel
theorem dX11_classOf_93 : decode cX11_classOf 93 = .ok (.aload_n 0, 1) := by decide +kernel
theorem dX11_classOf_94 : decode cX11_classOf 94 = .ok (.iconst 1, 1) := by decide +kernel
theorem dX11_classOf_95 : decode cX11_classOf 95 = .ok (.invokevirtual 124, 3) := by decide +kernel
theorem dX11_classOf_98 : decode cX11_classOf 98 = .ok (.ireturn, 1) := by decide +kernel
noncomputable def RC_classOf (σ : St) (p1 : Int32) (p2 : Int32) : Option (Int32 × St) :=
  bd (Cl_isThere σ 7 p1) (fun r2 => if r2 = 0 then (bd2 (RC_refuse σ 1) (fun r27 σ28 => some (r27, σ28))) else (if p2 = 0 then (chk (ix p1 12) (bd2 (RC_answer σ (σ.1 8 (tn p1))) (fun r5 σ6 => some (r5, σ6)))) else if p2 = 1 then (chk (ix p1 12) (bd2 (RC_answer σ (σ.1 9 (tn p1))) (fun r10 σ11 => some (r10, σ11)))) else if p2 = 2 then (bd (Cl_isOn σ 7 p1) (fun r14 => if r14 = 0 then (bd2 (RC_answer σ 0) (fun r16 σ17 => some (r16, σ17))) else (bd2 (RC_answer σ 1) (fun r19 σ20 => some (r19, σ20))))) else (bd2 (RC_refuse σ 1) (fun r24 σ25 => some (r24, σ25)))))
set_option maxRecDepth 100000 in
set_option maxHeartbeats 4000000 in
theorem tm_RC_classOf {V : Ev} {Γ : Cn} {fin : Option Value × St} {σ : St} {p1 : Int32} {p2 : Int32} {o : (Int32 × St)} (X : Cx V Γ M_X11_classOf) {A : (Int32 × St) → Prop}  (hr : ∀ (r : Int32) (σ9 : St), A (r, σ9) → (some (.int r), σ9) = fin) (h : RC_classOf σ p1 p2 = some o) (hA : A o) : Go V Γ M_X11_classOf (Zm V Γ 2 fin) 0 [(0, .ref (V.2.2.1 + 0)), (1, .int p1), (2, .int p2)] [] σ := by
  unfold RC_classOf at h
  refine g_aload_n (pc := 0) X 0 rfl dX11_classOf_0 ?_
  refine g_getR (r := 7) (pc := 1) X k_fl_X11_36 s_0 rfl dX11_classOf_1 ?_
  refine g_iload_n (pc := 4) X 1 rfl dX11_classOf_4 ?_
  obtain ⟨r2, hc1, h⟩ := bd_e h
  refine g_callV (pc := 5) X k_ml_X11_235 (run_Cl_isThere (oknCl_7) hc1) s_7 rfl (room_ok (Nat.le_of_ble_eq_true rfl) (Nat.le_of_ble_eq_true rfl)) ⟨Nat.le_refl _, Nat.le_refl _⟩ _ rfl (Nat.le_of_ble_eq_true rfl) dX11_classOf_5 ?_
  show Go V Γ M_X11_classOf (Zm V Γ 2 fin) 8 [(0, .ref (V.2.2.1 + 0)), (1, .int p1), (2, .int p2)] [.int r2] σ
  refine g_if_ne (pc := 8) (tgt := 17) X dX11_classOf_8 rfl (fun c29 => ?_) (fun c29 => ?_)
  · replace h := if_f c29 h
    refine g_iload_n (pc := 17) X 2 rfl dX11_classOf_17 ?_
    by_cases c7 : p2 = 0
    · replace h := if_t c7 h
      refine g_tabIn (pc := 18) (tgt := 44) X c7 dX11_classOf_18 (by decide) (by decide) rfl rfl ?_
      refine g_aload_n (pc := 44) X 0 rfl dX11_classOf_44 ?_
      refine g_aload_n (pc := 45) X 0 rfl dX11_classOf_45 ?_
      refine g_getR (r := 7) (pc := 46) X k_fl_X11_36 s_0 rfl dX11_classOf_46 ?_
      refine g_getR (r := 8) (pc := 49) X k_fl_X11_238 s_7 rfl dX11_classOf_49 ?_
      refine g_iload_n (pc := 52) X 1 rfl dX11_classOf_52 ?_
      obtain ⟨c3, h⟩ := chk_e h
      refine g_iald (pc := 53) X s_8 c3 dX11_classOf_53 ?_
      obtain ⟨r5, σ6, hc4, h⟩ := bd2_e h
      refine g_callV (pc := 54) X k_ml_X11_185 (run_RC_answer  hc4) s_0 rfl (room_ok (Nat.le_of_ble_eq_true rfl) (Nat.le_of_ble_eq_true rfl)) ⟨Nat.le_refl _, Nat.le_refl _⟩ _ rfl (Nat.le_of_ble_eq_true rfl) dX11_classOf_54 ?_
      show Go V Γ M_X11_classOf (Zm V Γ 2 fin) 57 [(0, .ref (V.2.2.1 + 0)), (1, .int p1), (2, .int p2)] [.int r5] σ6
      cases h
      exact g_iret (pc := 57) X rfl rfl (hr _ _ hA) dX11_classOf_57
    replace h := if_f c7 h
    by_cases c12 : p2 = 1
    · replace h := if_t c12 h
      refine g_tabIn (pc := 18) (tgt := 58) X c12 dX11_classOf_18 (by decide) (by decide) rfl rfl ?_
      refine g_aload_n (pc := 58) X 0 rfl dX11_classOf_58 ?_
      refine g_aload_n (pc := 59) X 0 rfl dX11_classOf_59 ?_
      refine g_getR (r := 7) (pc := 60) X k_fl_X11_36 s_0 rfl dX11_classOf_60 ?_
      refine g_getR (r := 9) (pc := 63) X k_fl_X11_242 s_7 rfl dX11_classOf_63 ?_
      refine g_iload_n (pc := 66) X 1 rfl dX11_classOf_66 ?_
      obtain ⟨c8, h⟩ := chk_e h
      refine g_iald (pc := 67) X s_9 c8 dX11_classOf_67 ?_
      obtain ⟨r10, σ11, hc9, h⟩ := bd2_e h
      refine g_callV (pc := 68) X k_ml_X11_185 (run_RC_answer  hc9) s_0 rfl (room_ok (Nat.le_of_ble_eq_true rfl) (Nat.le_of_ble_eq_true rfl)) ⟨Nat.le_refl _, Nat.le_refl _⟩ _ rfl (Nat.le_of_ble_eq_true rfl) dX11_classOf_68 ?_
      show Go V Γ M_X11_classOf (Zm V Γ 2 fin) 71 [(0, .ref (V.2.2.1 + 0)), (1, .int p1), (2, .int p2)] [.int r10] σ11
      cases h
      exact g_iret (pc := 71) X rfl rfl (hr _ _ hA) dX11_classOf_71
    replace h := if_f c12 h
    by_cases c22 : p2 = 2
    · replace h := if_t c22 h
      refine g_tabIn (pc := 18) (tgt := 72) X c22 dX11_classOf_18 (by decide) (by decide) rfl rfl ?_
      refine g_aload_n (pc := 72) X 0 rfl dX11_classOf_72 ?_
      refine g_aload_n (pc := 73) X 0 rfl dX11_classOf_73 ?_
      refine g_getR (r := 7) (pc := 74) X k_fl_X11_36 s_0 rfl dX11_classOf_74 ?_
      refine g_iload_n (pc := 77) X 1 rfl dX11_classOf_77 ?_
      obtain ⟨r14, hc13, h⟩ := bd_e h
      refine g_callV (pc := 78) X k_ml_X11_245 (run_Cl_isOn (oknCl_7) hc13) s_7 rfl (room_ok (Nat.le_of_ble_eq_true rfl) (Nat.le_of_ble_eq_true rfl)) ⟨Nat.le_refl _, Nat.le_refl _⟩ _ rfl (Nat.le_of_ble_eq_true rfl) dX11_classOf_78 ?_
      show Go V Γ M_X11_classOf (Zm V Γ 2 fin) 81 [(0, .ref (V.2.2.1 + 0)), (1, .int p1), (2, .int p2)] [.int r14, .ref (V.2.2.1 + 0)] σ
      refine g_if_eq (pc := 81) (tgt := 88) X dX11_classOf_81 rfl (fun c21 => ?_) (fun c21 => ?_)
      · replace h := if_t c21 h
        refine g_iconst (v := 0) (pc := 88) X rfl dX11_classOf_88 ?_
        obtain ⟨r16, σ17, hc15, h⟩ := bd2_e h
        refine g_callV (pc := 89) X k_ml_X11_185 (run_RC_answer  hc15) s_0 rfl (room_ok (Nat.le_of_ble_eq_true rfl) (Nat.le_of_ble_eq_true rfl)) ⟨Nat.le_refl _, Nat.le_refl _⟩ _ rfl (Nat.le_of_ble_eq_true rfl) dX11_classOf_89 ?_
        show Go V Γ M_X11_classOf (Zm V Γ 2 fin) 92 [(0, .ref (V.2.2.1 + 0)), (1, .int p1), (2, .int p2)] [.int r16] σ17
        cases h
        exact g_iret (pc := 92) X rfl rfl (hr _ _ hA) dX11_classOf_92
      · replace h := if_f c21 h
        refine g_iconst (v := 1) (pc := 84) X rfl dX11_classOf_84 ?_
        refine g_goto (pc := 85) (tgt := 89) X dX11_classOf_85 rfl ?_
        obtain ⟨r19, σ20, hc18, h⟩ := bd2_e h
        refine g_callV (pc := 89) X k_ml_X11_185 (run_RC_answer  hc18) s_0 rfl (room_ok (Nat.le_of_ble_eq_true rfl) (Nat.le_of_ble_eq_true rfl)) ⟨Nat.le_refl _, Nat.le_refl _⟩ _ rfl (Nat.le_of_ble_eq_true rfl) dX11_classOf_89 ?_
        show Go V Γ M_X11_classOf (Zm V Γ 2 fin) 92 [(0, .ref (V.2.2.1 + 0)), (1, .int p1), (2, .int p2)] [.int r19] σ20
        cases h
        exact g_iret (pc := 92) X rfl rfl (hr _ _ hA) dX11_classOf_92
    replace h := if_f c22 h
    refine g_tabOut (pc := 18) (tgt := 93) X dX11_classOf_18 (by have qc7 := lv_neT (k := 0) (a := 0) c7 rfl; have qc12 := lv_neT (k := 1) (a := 1) c12 rfl; have qc22 := lv_neT (k := 2) (a := 2) c22 rfl; omega) rfl ?_
    refine g_aload_n (pc := 93) X 0 rfl dX11_classOf_93 ?_
    refine g_iconst (v := 1) (pc := 94) X rfl dX11_classOf_94 ?_
    obtain ⟨r24, σ25, hc23, h⟩ := bd2_e h
    refine g_callV (pc := 95) X k_ml_X11_124 (run_RC_refuse  hc23) s_0 rfl (room_ok (Nat.le_of_ble_eq_true rfl) (Nat.le_of_ble_eq_true rfl)) ⟨Nat.le_refl _, Nat.le_refl _⟩ _ rfl (Nat.le_of_ble_eq_true rfl) dX11_classOf_95 ?_
    show Go V Γ M_X11_classOf (Zm V Γ 2 fin) 98 [(0, .ref (V.2.2.1 + 0)), (1, .int p1), (2, .int p2)] [.int r24] σ25
    cases h
    exact g_iret (pc := 98) X rfl rfl (hr _ _ hA) dX11_classOf_98
  · replace h := if_t c29 h
    refine g_aload_n (pc := 11) X 0 rfl dX11_classOf_11 ?_
    refine g_iconst (v := 1) (pc := 12) X rfl dX11_classOf_12 ?_
    obtain ⟨r27, σ28, hc26, h⟩ := bd2_e h
    refine g_callV (pc := 13) X k_ml_X11_124 (run_RC_refuse  hc26) s_0 rfl (room_ok (Nat.le_of_ble_eq_true rfl) (Nat.le_of_ble_eq_true rfl)) ⟨Nat.le_refl _, Nat.le_refl _⟩ _ rfl (Nat.le_of_ble_eq_true rfl) dX11_classOf_13 ?_
    show Go V Γ M_X11_classOf (Zm V Γ 2 fin) 16 [(0, .ref (V.2.2.1 + 0)), (1, .int p1), (2, .int p2)] [.int r27] σ28
    cases h
    exact g_iret (pc := 16) X rfl rfl (hr _ _ hA) dX11_classOf_16
set_option maxRecDepth 100000 in
theorem run_RC_classOf {V : Ev} {σ : St} {p1 : Int32} {p2 : Int32} {o : (Int32 × St)}   (h : RC_classOf σ p1 p2 = some o) : Rs V 2 M_X11_classOf [.ref (V.2.2.1 + 0), .int p1, .int p2] σ (some (.int o.1), o.2) := by
  refine Rs.of (by decide +kernel) (Nat.le_of_ble_eq_true rfl) (fun Γ X => ?_)
  exact tm_RC_classOf X (A := fun o1 => o1 = o)  (fun _ _ e => by rw [← e]) h rfl
theorem dX11_caught_0 : decode cX11_caught 0 = .ok (.iload_n 1, 1) := by decide +kernel
theorem dX11_caught_1 : decode cX11_caught 1 = .ok (.i2l, 1) := by decide +kernel
theorem dX11_caught_2 : decode cX11_caught 2 = .ok (.lconst 0, 1) := by decide +kernel
theorem dX11_caught_3 : decode cX11_caught 3 = .ok (.ldc2_w 248, 3) := by decide +kernel
theorem dX11_caught_6 : decode cX11_caught 6 = .ok (.invokestatic 98, 3) := by decide +kernel
theorem dX11_caught_9 : decode cX11_caught 9 = .ok (.ifCond .eq 18, 3) := by decide +kernel
theorem dX11_caught_12 : decode cX11_caught 12 = .ok (.aload_n 0, 1) := by decide +kernel
theorem dX11_caught_13 : decode cX11_caught 13 = .ok (.aload_n 0, 1) := by decide +kernel
theorem dX11_caught_14 : decode cX11_caught 14 = .ok (.getfield 36, 3) := by decide +kernel
theorem dX11_caught_17 : decode cX11_caught 17 = .ok (.iload_n 1, 1) := by decide +kernel
theorem dX11_caught_18 : decode cX11_caught 18 = .ok (.invokevirtual 250, 3) := by decide +kernel
theorem dX11_caught_21 : decode cX11_caught 21 = .ok (.invokevirtual 185, 3) := by decide +kernel
theorem dX11_caught_24 : decode cX11_caught 24 = .ok (.goto 8, 3) := by decide +kernel
theorem dX11_caught_27 : decode cX11_caught 27 = .ok (.aload_n 0, 1) := by decide +kernel
theorem dX11_caught_28 : decode cX11_caught 28 = .ok (.iconst 1, 1) := by decide +kernel
theorem dX11_caught_29 : decode cX11_caught 29 = .ok (.invokevirtual 124, 3) := by decide +kernel
theorem dX11_caught_32 : decode cX11_caught 32 = .ok (.ireturn, 1) := by decide +kernel
noncomputable def RC_caught (σ : St) (p1 : Int32) : Option (Int32 × St) :=
  bd (RC_within p1.toInt64 0 9999) (fun r2 => if r2 = 0 then (bd2 (RC_refuse σ 1) (fun r4 σ5 => some (r4, σ5))) else (bd (Cl_catchers σ 7 p1) (fun r7 => bd2 (RC_answer σ r7) (fun r9 σ10 => some (r9, σ10)))))
set_option maxRecDepth 100000 in
set_option maxHeartbeats 4000000 in
theorem tm_RC_caught {V : Ev} {Γ : Cn} {fin : Option Value × St} {σ : St} {p1 : Int32} {o : (Int32 × St)} (X : Cx V Γ M_X11_caught) {A : (Int32 × St) → Prop}  (hr : ∀ (r : Int32) (σ9 : St), A (r, σ9) → (some (.int r), σ9) = fin) (h : RC_caught σ p1 = some o) (hA : A o) : Go V Γ M_X11_caught (Zm V Γ 3 fin) 0 [(0, .ref (V.2.2.1 + 0)), (1, .int p1)] [] σ := by
  unfold RC_caught at h
  refine g_iload_n (pc := 0) X 1 rfl dX11_caught_0 ?_
  refine g_i2l (pc := 1) X dX11_caught_1 ?_
  refine g_lconst (v := 0) (pc := 2) X rfl dX11_caught_2 ?_
  refine g_ldc2 (v := 9999) (pc := 3) X k_constl_X11_248 dX11_caught_3 ?_
  obtain ⟨r2, hc1, h⟩ := bd_e h
  refine g_callS (pc := 6) X k_ml_X11_98 (run_RC_within  hc1) rfl (room_ok (Nat.le_of_ble_eq_true rfl) (Nat.le_of_ble_eq_true rfl)) ⟨Nat.le_refl _, Nat.le_refl _⟩ _ rfl (Nat.le_of_ble_eq_true rfl) dX11_caught_6 ?_
  show Go V Γ M_X11_caught (Zm V Γ 3 fin) 9 [(0, .ref (V.2.2.1 + 0)), (1, .int p1)] [.int r2] σ
  refine g_if_eq (pc := 9) (tgt := 27) X dX11_caught_9 rfl (fun c11 => ?_) (fun c11 => ?_)
  · replace h := if_t c11 h
    refine g_aload_n (pc := 27) X 0 rfl dX11_caught_27 ?_
    refine g_iconst (v := 1) (pc := 28) X rfl dX11_caught_28 ?_
    obtain ⟨r4, σ5, hc3, h⟩ := bd2_e h
    refine g_callV (pc := 29) X k_ml_X11_124 (run_RC_refuse  hc3) s_0 rfl (room_ok (Nat.le_of_ble_eq_true rfl) (Nat.le_of_ble_eq_true rfl)) ⟨Nat.le_refl _, Nat.le_refl _⟩ _ rfl (Nat.le_of_ble_eq_true rfl) dX11_caught_29 ?_
    show Go V Γ M_X11_caught (Zm V Γ 3 fin) 32 [(0, .ref (V.2.2.1 + 0)), (1, .int p1)] [.int r4] σ5
    cases h
    exact g_iret (pc := 32) X rfl rfl (hr _ _ hA) dX11_caught_32
  · replace h := if_f c11 h
    refine g_aload_n (pc := 12) X 0 rfl dX11_caught_12 ?_
    refine g_aload_n (pc := 13) X 0 rfl dX11_caught_13 ?_
    refine g_getR (r := 7) (pc := 14) X k_fl_X11_36 s_0 rfl dX11_caught_14 ?_
    refine g_iload_n (pc := 17) X 1 rfl dX11_caught_17 ?_
    obtain ⟨r7, hc6, h⟩ := bd_e h
    refine g_callV (pc := 18) X k_ml_X11_250 (run_Cl_catchers (oknCl_7) hc6) s_7 rfl (room_ok (Nat.le_of_ble_eq_true rfl) (Nat.le_of_ble_eq_true rfl)) ⟨Nat.le_refl _, Nat.le_refl _⟩ _ rfl (Nat.le_of_ble_eq_true rfl) dX11_caught_18 ?_
    show Go V Γ M_X11_caught (Zm V Γ 3 fin) 21 [(0, .ref (V.2.2.1 + 0)), (1, .int p1)] [.int r7, .ref (V.2.2.1 + 0)] σ
    obtain ⟨r9, σ10, hc8, h⟩ := bd2_e h
    refine g_callV (pc := 21) X k_ml_X11_185 (run_RC_answer  hc8) s_0 rfl (room_ok (Nat.le_of_ble_eq_true rfl) (Nat.le_of_ble_eq_true rfl)) ⟨Nat.le_refl _, Nat.le_refl _⟩ _ rfl (Nat.le_of_ble_eq_true rfl) dX11_caught_21 ?_
    show Go V Γ M_X11_caught (Zm V Γ 3 fin) 24 [(0, .ref (V.2.2.1 + 0)), (1, .int p1)] [.int r9] σ10
    refine g_goto (pc := 24) (tgt := 32) X dX11_caught_24 rfl ?_
    cases h
    exact g_iret (pc := 32) X rfl rfl (hr _ _ hA) dX11_caught_32
set_option maxRecDepth 100000 in
theorem run_RC_caught {V : Ev} {σ : St} {p1 : Int32} {o : (Int32 × St)}   (h : RC_caught σ p1 = some o) : Rs V 3 M_X11_caught [.ref (V.2.2.1 + 0), .int p1] σ (some (.int o.1), o.2) := by
  refine Rs.of (by decide +kernel) (Nat.le_of_ble_eq_true rfl) (fun Γ X => ?_)
  exact tm_RC_caught X (A := fun o1 => o1 = o)  (fun _ _ e => by rw [← e]) h rfl
theorem dX11_answerOrNone_0 : decode cX11_answerOrNone 0 = .ok (.iload_n 1, 1) := by decide +kernel
theorem dX11_answerOrNone_1 : decode cX11_answerOrNone 1 = .ok (.iconst (-1), 1) := by decide +kernel
theorem dX11_answerOrNone_2 : decode cX11_answerOrNone 2 = .ok (.if_icmp .ne 12, 3) := by decide +kernel
theorem dX11_answerOrNone_5 : decode cX11_answerOrNone 5 = .ok (.aload_n 0, 1) := by decide +kernel
theorem dX11_answerOrNone_6 : decode cX11_answerOrNone 6 = .ok (.bipush 6, 2) := by decide +kernel
theorem dX11_answerOrNone_8 : decode cX11_answerOrNone 8 = .ok (.invokevirtual 124, 3) := by decide +kernel
theorem dX11_answerOrNone_11 : decode cX11_answerOrNone 11 = .ok (.goto 8, 3) := by decide +kernel
theorem dX11_answerOrNone_14 : decode cX11_answerOrNone 14 = .ok (.aload_n 0, 1) := by decide +kernel
theorem dX11_answerOrNone_15 : decode cX11_answerOrNone 15 = .ok (.iload_n 1, 1) := by decide +kernel
theorem dX11_answerOrNone_16 : decode cX11_answerOrNone 16 = .ok (.invokevirtual 185, 3) := by decide +kernel
theorem dX11_answerOrNone_19 : decode cX11_answerOrNone 19 = .ok (.ireturn, 1) := by decide +kernel
noncomputable def RC_answerOrNone (σ : St) (p1 : Int32) : Option (Int32 × St) :=
  if p1 = (-1) then (bd2 (RC_refuse σ 6) (fun r5 σ6 => some (r5, σ6))) else (bd2 (RC_answer σ p1) (fun r2 σ3 => some (r2, σ3)))
set_option maxRecDepth 100000 in
set_option maxHeartbeats 4000000 in
theorem tm_RC_answerOrNone {V : Ev} {Γ : Cn} {fin : Option Value × St} {σ : St} {p1 : Int32} {o : (Int32 × St)} (X : Cx V Γ M_X11_answerOrNone) {A : (Int32 × St) → Prop}  (hr : ∀ (r : Int32) (σ9 : St), A (r, σ9) → (some (.int r), σ9) = fin) (h : RC_answerOrNone σ p1 = some o) (hA : A o) : Go V Γ M_X11_answerOrNone (Zm V Γ 1 fin) 0 [(0, .ref (V.2.2.1 + 0)), (1, .int p1)] [] σ := by
  unfold RC_answerOrNone at h
  refine g_iload_n (pc := 0) X 1 rfl dX11_answerOrNone_0 ?_
  refine g_iconst (v := (-1)) (pc := 1) X rfl dX11_answerOrNone_1 ?_
  refine g_icmp_ne (pc := 2) (tgt := 14) X dX11_answerOrNone_2 rfl (fun c7 => ?_) (fun c7 => ?_)
  · replace h := if_f c7 h
    refine g_aload_n (pc := 14) X 0 rfl dX11_answerOrNone_14 ?_
    refine g_iload_n (pc := 15) X 1 rfl dX11_answerOrNone_15 ?_
    obtain ⟨r2, σ3, hc1, h⟩ := bd2_e h
    refine g_callV (pc := 16) X k_ml_X11_185 (run_RC_answer  hc1) s_0 rfl (room_ok (Nat.le_of_ble_eq_true rfl) (Nat.le_of_ble_eq_true rfl)) ⟨Nat.le_refl _, Nat.le_refl _⟩ _ rfl (Nat.le_of_ble_eq_true rfl) dX11_answerOrNone_16 ?_
    show Go V Γ M_X11_answerOrNone (Zm V Γ 1 fin) 19 [(0, .ref (V.2.2.1 + 0)), (1, .int p1)] [.int r2] σ3
    cases h
    exact g_iret (pc := 19) X rfl rfl (hr _ _ hA) dX11_answerOrNone_19
  · replace h := if_t c7 h
    refine g_aload_n (pc := 5) X 0 rfl dX11_answerOrNone_5 ?_
    refine g_bipush (v := 6) (pc := 6) X (by decide) dX11_answerOrNone_6 ?_
    obtain ⟨r5, σ6, hc4, h⟩ := bd2_e h
    refine g_callV (pc := 8) X k_ml_X11_124 (run_RC_refuse  hc4) s_0 rfl (room_ok (Nat.le_of_ble_eq_true rfl) (Nat.le_of_ble_eq_true rfl)) ⟨Nat.le_refl _, Nat.le_refl _⟩ _ rfl (Nat.le_of_ble_eq_true rfl) dX11_answerOrNone_8 ?_
    show Go V Γ M_X11_answerOrNone (Zm V Γ 1 fin) 11 [(0, .ref (V.2.2.1 + 0)), (1, .int p1)] [.int r5] σ6
    refine g_goto (pc := 11) (tgt := 19) X dX11_answerOrNone_11 rfl ?_
    cases h
    exact g_iret (pc := 19) X rfl rfl (hr _ _ hA) dX11_answerOrNone_19
set_option maxRecDepth 100000 in
theorem run_RC_answerOrNone {V : Ev} {σ : St} {p1 : Int32} {o : (Int32 × St)}   (h : RC_answerOrNone σ p1 = some o) : Rs V 1 M_X11_answerOrNone [.ref (V.2.2.1 + 0), .int p1] σ (some (.int o.1), o.2) := by
  refine Rs.of (by decide +kernel) (Nat.le_of_ble_eq_true rfl) (fun Γ X => ?_)
  exact tm_RC_answerOrNone X (A := fun o1 => o1 = o)  (fun _ _ e => by rw [← e]) h rfl
theorem dX11_tightest_0 : decode cX11_tightest 0 = .ok (.iload_n 1, 1) := by decide +kernel
theorem dX11_tightest_1 : decode cX11_tightest 1 = .ok (.i2l, 1) := by decide +kernel
theorem dX11_tightest_2 : decode cX11_tightest 2 = .ok (.lconst 0, 1) := by decide +kernel
theorem dX11_tightest_3 : decode cX11_tightest 3 = .ok (.ldc2_w 248, 3) := by decide +kernel
theorem dX11_tightest_6 : decode cX11_tightest 6 = .ok (.invokestatic 98, 3) := by decide +kernel
theorem dX11_tightest_9 : decode cX11_tightest 9 = .ok (.ifCond .ne 9, 3) := by decide +kernel
theorem dX11_tightest_12 : decode cX11_tightest 12 = .ok (.aload_n 0, 1) := by decide +kernel
theorem dX11_tightest_13 : decode cX11_tightest 13 = .ok (.iconst 1, 1) := by decide +kernel
theorem dX11_tightest_14 : decode cX11_tightest 14 = .ok (.invokevirtual 124, 3) := by decide +kernel
theorem dX11_tightest_17 : decode cX11_tightest 17 = .ok (.ireturn, 1) := by decide +kernel
theorem dX11_tightest_18 : decode cX11_tightest 18 = .ok (.aload_n 0, 1) := by decide +kernel
theorem dX11_tightest_19 : decode cX11_tightest 19 = .ok (.aload_n 0, 1) := by decide +kernel
theorem dX11_tightest_20 : decode cX11_tightest 20 = .ok (.getfield 36, 3) := by decide +kernel
theorem dX11_tightest_23 : decode cX11_tightest 23 = .ok (.aload_n 0, 1) := by decide +kernel
theorem dX11_tightest_24 : decode cX11_tightest 24 = .ok (.getfield 36, 3) := by decide +kernel
theorem dX11_tightest_27 : decode cX11_tightest 27 = .ok (.iload_n 1, 1) := by decide +kernel
theorem dX11_tightest_28 : decode cX11_tightest 28 = .ok (.invokevirtual 250, 3) := by decide +kernel
theorem dX11_tightest_31 : decode cX11_tightest 31 = .ok (.invokevirtual 253, 3) := by decide +kernel
theorem dX11_tightest_34 : decode cX11_tightest 34 = .ok (.invokevirtual 256, 3) := by decide +kernel
theorem dX11_tightest_37 : decode cX11_tightest 37 = .ok (.ireturn, 1) := by decide +kernel
noncomputable def RC_tightest (σ : St) (p1 : Int32) : Option (Int32 × St) :=
  bd (RC_within p1.toInt64 0 9999) (fun r2 => if r2 = 0 then (bd2 (RC_refuse σ 1) (fun r11 σ12 => some (r11, σ12))) else (bd (Cl_catchers σ 7 p1) (fun r4 => bd (Cl_leastModulusOf σ 7 r4) (fun r6 => bd2 (RC_answerOrNone σ r6) (fun r8 σ9 => some (r8, σ9))))))
set_option maxRecDepth 100000 in
set_option maxHeartbeats 4000000 in
theorem tm_RC_tightest {V : Ev} {Γ : Cn} {fin : Option Value × St} {σ : St} {p1 : Int32} {o : (Int32 × St)} (X : Cx V Γ M_X11_tightest) {A : (Int32 × St) → Prop}  (hr : ∀ (r : Int32) (σ9 : St), A (r, σ9) → (some (.int r), σ9) = fin) (h : RC_tightest σ p1 = some o) (hA : A o) : Go V Γ M_X11_tightest (Zm V Γ 3 fin) 0 [(0, .ref (V.2.2.1 + 0)), (1, .int p1)] [] σ := by
  unfold RC_tightest at h
  refine g_iload_n (pc := 0) X 1 rfl dX11_tightest_0 ?_
  refine g_i2l (pc := 1) X dX11_tightest_1 ?_
  refine g_lconst (v := 0) (pc := 2) X rfl dX11_tightest_2 ?_
  refine g_ldc2 (v := 9999) (pc := 3) X k_constl_X11_248 dX11_tightest_3 ?_
  obtain ⟨r2, hc1, h⟩ := bd_e h
  refine g_callS (pc := 6) X k_ml_X11_98 (run_RC_within  hc1) rfl (room_ok (Nat.le_of_ble_eq_true rfl) (Nat.le_of_ble_eq_true rfl)) ⟨Nat.le_refl _, Nat.le_refl _⟩ _ rfl (Nat.le_of_ble_eq_true rfl) dX11_tightest_6 ?_
  show Go V Γ M_X11_tightest (Zm V Γ 3 fin) 9 [(0, .ref (V.2.2.1 + 0)), (1, .int p1)] [.int r2] σ
  refine g_if_ne (pc := 9) (tgt := 18) X dX11_tightest_9 rfl (fun c13 => ?_) (fun c13 => ?_)
  · replace h := if_f c13 h
    refine g_aload_n (pc := 18) X 0 rfl dX11_tightest_18 ?_
    refine g_aload_n (pc := 19) X 0 rfl dX11_tightest_19 ?_
    refine g_getR (r := 7) (pc := 20) X k_fl_X11_36 s_0 rfl dX11_tightest_20 ?_
    refine g_aload_n (pc := 23) X 0 rfl dX11_tightest_23 ?_
    refine g_getR (r := 7) (pc := 24) X k_fl_X11_36 s_0 rfl dX11_tightest_24 ?_
    refine g_iload_n (pc := 27) X 1 rfl dX11_tightest_27 ?_
    obtain ⟨r4, hc3, h⟩ := bd_e h
    refine g_callV (pc := 28) X k_ml_X11_250 (run_Cl_catchers (oknCl_7) hc3) s_7 rfl (room_ok (Nat.le_of_ble_eq_true rfl) (Nat.le_of_ble_eq_true rfl)) ⟨Nat.le_refl _, Nat.le_refl _⟩ _ rfl (Nat.le_of_ble_eq_true rfl) dX11_tightest_28 ?_
    show Go V Γ M_X11_tightest (Zm V Γ 3 fin) 31 [(0, .ref (V.2.2.1 + 0)), (1, .int p1)] [.int r4, .ref (V.2.2.1 + 7), .ref (V.2.2.1 + 0)] σ
    obtain ⟨r6, hc5, h⟩ := bd_e h
    refine g_callV (pc := 31) X k_ml_X11_253 (run_Cl_leastModulusOf (oknCl_7) hc5) s_7 rfl (room_ok (Nat.le_of_ble_eq_true rfl) (Nat.le_of_ble_eq_true rfl)) ⟨Nat.le_refl _, Nat.le_refl _⟩ _ rfl (Nat.le_of_ble_eq_true rfl) dX11_tightest_31 ?_
    show Go V Γ M_X11_tightest (Zm V Γ 3 fin) 34 [(0, .ref (V.2.2.1 + 0)), (1, .int p1)] [.int r6, .ref (V.2.2.1 + 0)] σ
    obtain ⟨r8, σ9, hc7, h⟩ := bd2_e h
    refine g_callV (pc := 34) X k_ml_X11_256 (run_RC_answerOrNone  hc7) s_0 rfl (room_ok (Nat.le_of_ble_eq_true rfl) (Nat.le_of_ble_eq_true rfl)) ⟨Nat.le_refl _, Nat.le_refl _⟩ _ rfl (Nat.le_of_ble_eq_true rfl) dX11_tightest_34 ?_
    show Go V Γ M_X11_tightest (Zm V Γ 3 fin) 37 [(0, .ref (V.2.2.1 + 0)), (1, .int p1)] [.int r8] σ9
    cases h
    exact g_iret (pc := 37) X rfl rfl (hr _ _ hA) dX11_tightest_37
  · replace h := if_t c13 h
    refine g_aload_n (pc := 12) X 0 rfl dX11_tightest_12 ?_
    refine g_iconst (v := 1) (pc := 13) X rfl dX11_tightest_13 ?_
    obtain ⟨r11, σ12, hc10, h⟩ := bd2_e h
    refine g_callV (pc := 14) X k_ml_X11_124 (run_RC_refuse  hc10) s_0 rfl (room_ok (Nat.le_of_ble_eq_true rfl) (Nat.le_of_ble_eq_true rfl)) ⟨Nat.le_refl _, Nat.le_refl _⟩ _ rfl (Nat.le_of_ble_eq_true rfl) dX11_tightest_14 ?_
    show Go V Γ M_X11_tightest (Zm V Γ 3 fin) 17 [(0, .ref (V.2.2.1 + 0)), (1, .int p1)] [.int r11] σ12
    cases h
    exact g_iret (pc := 17) X rfl rfl (hr _ _ hA) dX11_tightest_17
set_option maxRecDepth 100000 in
theorem run_RC_tightest {V : Ev} {σ : St} {p1 : Int32} {o : (Int32 × St)}   (h : RC_tightest σ p1 = some o) : Rs V 3 M_X11_tightest [.ref (V.2.2.1 + 0), .int p1] σ (some (.int o.1), o.2) := by
  refine Rs.of (by decide +kernel) (Nat.le_of_ble_eq_true rfl) (fun Γ X => ?_)
  exact tm_RC_tightest X (A := fun o1 => o1 = o)  (fun _ _ e => by rw [← e]) h rfl
theorem dX11_turn_0 : decode cX11_turn 0 = .ok (.aload_n 0, 1) := by decide +kernel
theorem dX11_turn_1 : decode cX11_turn 1 = .ok (.getfield 36, 3) := by decide +kernel
theorem dX11_turn_4 : decode cX11_turn 4 = .ok (.iload_n 1, 1) := by decide +kernel
theorem dX11_turn_5 : decode cX11_turn 5 = .ok (.invokevirtual 235, 3) := by decide +kernel
theorem dX11_turn_8 : decode cX11_turn 8 = .ok (.ifCond .ne 9, 3) := by decide +kernel
theorem dX11_turn_11 : decode cX11_turn 11 = .ok (.aload_n 0, 1) := by decide +kernel
theorem dX11_turn_12 : decode cX11_turn 12 = .ok (.iconst 1, 1) := by decide +kernel
theorem dX11_turn_13 : decode cX11_turn 13 = .ok (.invokevirtual 124, 3) := by decide +kernel
theorem dX11_turn_16 : decode cX11_turn 16 = .ok (.ireturn, 1) := by decide +kernel
theorem dX11_turn_17 : decode cX11_turn 17 = .ok (.aload_n 0, 1) := by decide +kernel
theorem dX11_turn_18 : decode cX11_turn 18 = .ok (.getfield 36, 3) := by decide +kernel
theorem dX11_turn_21 : decode cX11_turn 21 = .ok (.iload_n 1, 1) := by decide +kernel
theorem dX11_turn_22 : decode cX11_turn 22 = .ok (.invokevirtual 259, 3) := by decide +kernel
theorem dX11_turn_25 : decode cX11_turn 25 = .ok (.aload_n 0, 1) := by decide +kernel
theorem dX11_turn_26 : decode cX11_turn 26 = .ok (.aload_n 0, 1) := by decide +kernel
theorem dX11_turn_27 : decode cX11_turn 27 = .ok (.getfield 36, 3) := by decide +kernel
theorem dX11_turn_30 : decode cX11_turn 30 = .ok (.iload_n 1, 1) := by decide +kernel
theorem dX11_turn_31 : decode cX11_turn 31 = .ok (.invokevirtual 245, 3) := by decide +kernel
theorem dX11_turn_34 : decode cX11_turn 34 = .ok (.ifCond .eq 7, 3) := by decide +kernel
theorem dX11_turn_37 : decode cX11_turn 37 = .ok (.iconst 1, 1) := by decide +kernel
theorem dX11_turn_38 : decode cX11_turn 38 = .ok (.goto 4, 3) := by decide +kernel
theorem dX11_turn_41 : decode cX11_turn 41 = .ok (.iconst 0, 1) := by decide +kernel
theorem dX11_turn_42 : decode cX11_turn 42 = .ok (.invokevirtual 185, 3) := by decide +kernel
theorem dX11_turn_45 : decode cX11_turn 45 = .ok (.ireturn, 1) := by decide +kernel
noncomputable def RC_turn (σ : St) (p1 : Int32) : Option (Int32 × St) :=
  bd (Cl_isThere σ 7 p1) (fun r2 => if r2 = 0 then (bd2 (RC_refuse σ 1) (fun r15 σ16 => some (r15, σ16))) else (bd (Cl_flip σ 7 p1) (fun σ4 => bd (Cl_isOn σ4 7 p1) (fun r6 => if r6 = 0 then (bd2 (RC_answer σ4 0) (fun r8 σ9 => some (r8, σ9))) else (bd2 (RC_answer σ4 1) (fun r11 σ12 => some (r11, σ12)))))))
set_option maxRecDepth 100000 in
set_option maxHeartbeats 4000000 in
theorem tm_RC_turn {V : Ev} {Γ : Cn} {fin : Option Value × St} {σ : St} {p1 : Int32} {o : (Int32 × St)} (X : Cx V Γ M_X11_turn) {A : (Int32 × St) → Prop}  (hr : ∀ (r : Int32) (σ9 : St), A (r, σ9) → (some (.int r), σ9) = fin) (h : RC_turn σ p1 = some o) (hA : A o) : Go V Γ M_X11_turn (Zm V Γ 2 fin) 0 [(0, .ref (V.2.2.1 + 0)), (1, .int p1)] [] σ := by
  unfold RC_turn at h
  refine g_aload_n (pc := 0) X 0 rfl dX11_turn_0 ?_
  refine g_getR (r := 7) (pc := 1) X k_fl_X11_36 s_0 rfl dX11_turn_1 ?_
  refine g_iload_n (pc := 4) X 1 rfl dX11_turn_4 ?_
  obtain ⟨r2, hc1, h⟩ := bd_e h
  refine g_callV (pc := 5) X k_ml_X11_235 (run_Cl_isThere (oknCl_7) hc1) s_7 rfl (room_ok (Nat.le_of_ble_eq_true rfl) (Nat.le_of_ble_eq_true rfl)) ⟨Nat.le_refl _, Nat.le_refl _⟩ _ rfl (Nat.le_of_ble_eq_true rfl) dX11_turn_5 ?_
  show Go V Γ M_X11_turn (Zm V Γ 2 fin) 8 [(0, .ref (V.2.2.1 + 0)), (1, .int p1)] [.int r2] σ
  refine g_if_ne (pc := 8) (tgt := 17) X dX11_turn_8 rfl (fun c17 => ?_) (fun c17 => ?_)
  · replace h := if_f c17 h
    refine g_aload_n (pc := 17) X 0 rfl dX11_turn_17 ?_
    refine g_getR (r := 7) (pc := 18) X k_fl_X11_36 s_0 rfl dX11_turn_18 ?_
    refine g_iload_n (pc := 21) X 1 rfl dX11_turn_21 ?_
    obtain ⟨σ4, hc3, h⟩ := bd_e h
    refine g_callV (pc := 22) X k_ml_X11_259 (run_Cl_flip (oknCl_7) hc3) s_7 rfl (room_ok (Nat.le_of_ble_eq_true rfl) (Nat.le_of_ble_eq_true rfl)) ⟨Nat.le_refl _, Nat.le_refl _⟩ _ rfl (Nat.le_of_ble_eq_true rfl) dX11_turn_22 ?_
    show Go V Γ M_X11_turn (Zm V Γ 2 fin) 25 [(0, .ref (V.2.2.1 + 0)), (1, .int p1)] [] σ4
    refine g_aload_n (pc := 25) X 0 rfl dX11_turn_25 ?_
    refine g_aload_n (pc := 26) X 0 rfl dX11_turn_26 ?_
    refine g_getR (r := 7) (pc := 27) X k_fl_X11_36 s_0 rfl dX11_turn_27 ?_
    refine g_iload_n (pc := 30) X 1 rfl dX11_turn_30 ?_
    obtain ⟨r6, hc5, h⟩ := bd_e h
    refine g_callV (pc := 31) X k_ml_X11_245 (run_Cl_isOn (oknCl_7) hc5) s_7 rfl (room_ok (Nat.le_of_ble_eq_true rfl) (Nat.le_of_ble_eq_true rfl)) ⟨Nat.le_refl _, Nat.le_refl _⟩ _ rfl (Nat.le_of_ble_eq_true rfl) dX11_turn_31 ?_
    show Go V Γ M_X11_turn (Zm V Γ 2 fin) 34 [(0, .ref (V.2.2.1 + 0)), (1, .int p1)] [.int r6, .ref (V.2.2.1 + 0)] σ4
    refine g_if_eq (pc := 34) (tgt := 41) X dX11_turn_34 rfl (fun c13 => ?_) (fun c13 => ?_)
    · replace h := if_t c13 h
      refine g_iconst (v := 0) (pc := 41) X rfl dX11_turn_41 ?_
      obtain ⟨r8, σ9, hc7, h⟩ := bd2_e h
      refine g_callV (pc := 42) X k_ml_X11_185 (run_RC_answer  hc7) s_0 rfl (room_ok (Nat.le_of_ble_eq_true rfl) (Nat.le_of_ble_eq_true rfl)) ⟨Nat.le_refl _, Nat.le_refl _⟩ _ rfl (Nat.le_of_ble_eq_true rfl) dX11_turn_42 ?_
      show Go V Γ M_X11_turn (Zm V Γ 2 fin) 45 [(0, .ref (V.2.2.1 + 0)), (1, .int p1)] [.int r8] σ9
      cases h
      exact g_iret (pc := 45) X rfl rfl (hr _ _ hA) dX11_turn_45
    · replace h := if_f c13 h
      refine g_iconst (v := 1) (pc := 37) X rfl dX11_turn_37 ?_
      refine g_goto (pc := 38) (tgt := 42) X dX11_turn_38 rfl ?_
      obtain ⟨r11, σ12, hc10, h⟩ := bd2_e h
      refine g_callV (pc := 42) X k_ml_X11_185 (run_RC_answer  hc10) s_0 rfl (room_ok (Nat.le_of_ble_eq_true rfl) (Nat.le_of_ble_eq_true rfl)) ⟨Nat.le_refl _, Nat.le_refl _⟩ _ rfl (Nat.le_of_ble_eq_true rfl) dX11_turn_42 ?_
      show Go V Γ M_X11_turn (Zm V Γ 2 fin) 45 [(0, .ref (V.2.2.1 + 0)), (1, .int p1)] [.int r11] σ12
      cases h
      exact g_iret (pc := 45) X rfl rfl (hr _ _ hA) dX11_turn_45
  · replace h := if_t c17 h
    refine g_aload_n (pc := 11) X 0 rfl dX11_turn_11 ?_
    refine g_iconst (v := 1) (pc := 12) X rfl dX11_turn_12 ?_
    obtain ⟨r15, σ16, hc14, h⟩ := bd2_e h
    refine g_callV (pc := 13) X k_ml_X11_124 (run_RC_refuse  hc14) s_0 rfl (room_ok (Nat.le_of_ble_eq_true rfl) (Nat.le_of_ble_eq_true rfl)) ⟨Nat.le_refl _, Nat.le_refl _⟩ _ rfl (Nat.le_of_ble_eq_true rfl) dX11_turn_13 ?_
    show Go V Γ M_X11_turn (Zm V Γ 2 fin) 16 [(0, .ref (V.2.2.1 + 0)), (1, .int p1)] [.int r15] σ16
    cases h
    exact g_iret (pc := 16) X rfl rfl (hr _ _ hA) dX11_turn_16
set_option maxRecDepth 100000 in
theorem run_RC_turn {V : Ev} {σ : St} {p1 : Int32} {o : (Int32 × St)}   (h : RC_turn σ p1 = some o) : Rs V 2 M_X11_turn [.ref (V.2.2.1 + 0), .int p1] σ (some (.int o.1), o.2) := by
  refine Rs.of (by decide +kernel) (Nat.le_of_ble_eq_true rfl) (fun Γ X => ?_)
  exact tm_RC_turn X (A := fun o1 => o1 = o)  (fun _ _ e => by rw [← e]) h rfl
theorem dX11_add_0 : decode cX11_add 0 = .ok (.iload_n 1, 1) := by decide +kernel
theorem dX11_add_1 : decode cX11_add 1 = .ok (.i2l, 1) := by decide +kernel
theorem dX11_add_2 : decode cX11_add 2 = .ok (.lconst 0, 1) := by decide +kernel
theorem dX11_add_3 : decode cX11_add 3 = .ok (.ldc2_w 262, 3) := by decide +kernel
theorem dX11_add_6 : decode cX11_add 6 = .ok (.invokestatic 98, 3) := by decide +kernel
theorem dX11_add_9 : decode cX11_add 9 = .ok (.ifCond .eq 15, 3) := by decide +kernel
theorem dX11_add_12 : decode cX11_add 12 = .ok (.iload_n 2, 1) := by decide +kernel
theorem dX11_add_13 : decode cX11_add 13 = .ok (.i2l, 1) := by decide +kernel
theorem dX11_add_14 : decode cX11_add 14 = .ok (.lconst 1, 1) := by decide +kernel
theorem dX11_add_15 : decode cX11_add 15 = .ok (.ldc2_w 102, 3) := by decide +kernel
theorem dX11_add_18 : decode cX11_add 18 = .ok (.invokestatic 98, 3) := by decide +kernel
theorem dX11_add_21 : decode cX11_add 21 = .ok (.ifCond .ne 9, 3) := by decide +kernel
theorem dX11_add_24 : decode cX11_add 24 = .ok (.aload_n 0, 1) := by decide +kernel
theorem dX11_add_25 : decode cX11_add 25 = .ok (.iconst 1, 1) := by decide +kernel
theorem dX11_add_26 : decode cX11_add 26 = .ok (.invokevirtual 124, 3) := by decide +kernel
theorem dX11_add_29 : decode cX11_add 29 = .ok (.ireturn, 1) := by decide +kernel
theorem dX11_add_30 : decode cX11_add 30 = .ok (.aload_n 0, 1) := by decide +kernel
theorem dX11_add_31 : decode cX11_add 31 = .ok (.getfield 36, 3) := by decide +kernel
theorem dX11_add_34 : decode cX11_add 34 = .ok (.getfield 182, 3) := by decide +kernel
theorem dX11_add_37 : decode cX11_add 37 = .ok (.bipush 12, 2) := by decide +kernel
theorem dX11_add_39 : decode cX11_add 39 = .ok (.if_icmp .lt 9, 3) := by decide +kernel
theorem dX11_add_42 : decode cX11_add 42 = .ok (.aload_n 0, 1) := by decide +kernel
theorem dX11_add_43 : decode cX11_add 43 = .ok (.iconst 4, 1) := by decide +kernel
theorem dX11_add_44 : decode cX11_add 44 = .ok (.invokevirtual 124, 3) := by decide +kernel
theorem dX11_add_47 : decode cX11_add 47 = .ok (.ireturn, 1) := by decide +kernel
theorem dX11_add_48 : decode cX11_add 48 = .ok (.aload_n 0, 1) := by decide +kernel
theorem dX11_add_49 : decode cX11_add 49 = .ok (.getfield 36, 3) := by decide +kernel
theorem dX11_add_52 : decode cX11_add 52 = .ok (.iload_n 1, 1) := by decide +kernel
theorem dX11_add_53 : decode cX11_add 53 = .ok (.iload_n 2, 1) := by decide +kernel
theorem dX11_add_54 : decode cX11_add 54 = .ok (.iconst 1, 1) := by decide +kernel
theorem dX11_add_55 : decode cX11_add 55 = .ok (.lconst 0, 1) := by decide +kernel
theorem dX11_add_56 : decode cX11_add 56 = .ok (.invokevirtual 264, 3) := by decide +kernel
theorem dX11_add_59 : decode cX11_add 59 = .ok (.aload_n 0, 1) := by decide +kernel
theorem dX11_add_60 : decode cX11_add 60 = .ok (.aload_n 0, 1) := by decide +kernel
theorem dX11_add_61 : decode cX11_add 61 = .ok (.getfield 36, 3) := by decide +kernel
theorem dX11_add_64 : decode cX11_add 64 = .ok (.getfield 182, 3) := by decide +kernel
theorem dX11_add_67 : decode cX11_add 67 = .ok (.iconst 1, 1) := by decide +kernel
theorem dX11_add_68 : decode cX11_add 68 = .ok (.isub, 1) := by decide +kernel
theorem dX11_add_69 : decode cX11_add 69 = .ok (.invokevirtual 185, 3) := by decide +kernel
theorem dX11_add_72 : decode cX11_add 72 = .ok (.ireturn, 1) := by decide +kernel
noncomputable def RC_add (σ : St) (p1 : Int32) (p2 : Int32) : Option (Int32 × St) :=
  bd (RC_within p1.toInt64 0 59) (fun r2 => if r2 = 0 then (bd2 (RC_refuse σ 1) (fun r4 σ5 => some (r4, σ5))) else (bd (RC_within p2.toInt64 1 60) (fun r7 => if r7 = 0 then (bd2 (RC_refuse σ 1) (fun r18 σ19 => some (r18, σ19))) else (if (σ.1 7 3) < 12 then (bd (Cl_append σ 7 p1 p2 1 0) (fun σ9 => bd2 (RC_answer σ9 ((σ9.1 7 3) - 1)) (fun r11 σ12 => some (r11, σ12)))) else (bd2 (RC_refuse σ 4) (fun r14 σ15 => some (r14, σ15)))))))
set_option maxRecDepth 100000 in
set_option maxHeartbeats 4000000 in
theorem tm_RC_add {V : Ev} {Γ : Cn} {fin : Option Value × St} {σ : St} {p1 : Int32} {p2 : Int32} {o : (Int32 × St)} (X : Cx V Γ M_X11_add) {A : (Int32 × St) → Prop}  (hr : ∀ (r : Int32) (σ9 : St), A (r, σ9) → (some (.int r), σ9) = fin) (h : RC_add σ p1 p2 = some o) (hA : A o) : Go V Γ M_X11_add (Zm V Γ 2 fin) 0 [(0, .ref (V.2.2.1 + 0)), (1, .int p1), (2, .int p2)] [] σ := by
  unfold RC_add at h
  refine g_iload_n (pc := 0) X 1 rfl dX11_add_0 ?_
  refine g_i2l (pc := 1) X dX11_add_1 ?_
  refine g_lconst (v := 0) (pc := 2) X rfl dX11_add_2 ?_
  refine g_ldc2 (v := 59) (pc := 3) X k_constl_X11_262 dX11_add_3 ?_
  obtain ⟨r2, hc1, h⟩ := bd_e h
  refine g_callS (pc := 6) X k_ml_X11_98 (run_RC_within  hc1) rfl (room_ok (Nat.le_of_ble_eq_true rfl) (Nat.le_of_ble_eq_true rfl)) ⟨Nat.le_refl _, Nat.le_refl _⟩ _ rfl (Nat.le_of_ble_eq_true rfl) dX11_add_6 ?_
  show Go V Γ M_X11_add (Zm V Γ 2 fin) 9 [(0, .ref (V.2.2.1 + 0)), (1, .int p1), (2, .int p2)] [.int r2] σ
  refine g_if_eq (pc := 9) (tgt := 24) X dX11_add_9 rfl (fun c21 => ?_) (fun c21 => ?_)
  · replace h := if_t c21 h
    refine g_aload_n (pc := 24) X 0 rfl dX11_add_24 ?_
    refine g_iconst (v := 1) (pc := 25) X rfl dX11_add_25 ?_
    obtain ⟨r4, σ5, hc3, h⟩ := bd2_e h
    refine g_callV (pc := 26) X k_ml_X11_124 (run_RC_refuse  hc3) s_0 rfl (room_ok (Nat.le_of_ble_eq_true rfl) (Nat.le_of_ble_eq_true rfl)) ⟨Nat.le_refl _, Nat.le_refl _⟩ _ rfl (Nat.le_of_ble_eq_true rfl) dX11_add_26 ?_
    show Go V Γ M_X11_add (Zm V Γ 2 fin) 29 [(0, .ref (V.2.2.1 + 0)), (1, .int p1), (2, .int p2)] [.int r4] σ5
    cases h
    exact g_iret (pc := 29) X rfl rfl (hr _ _ hA) dX11_add_29
  · replace h := if_f c21 h
    refine g_iload_n (pc := 12) X 2 rfl dX11_add_12 ?_
    refine g_i2l (pc := 13) X dX11_add_13 ?_
    refine g_lconst (v := 1) (pc := 14) X rfl dX11_add_14 ?_
    refine g_ldc2 (v := 60) (pc := 15) X k_constl_X11_102 dX11_add_15 ?_
    obtain ⟨r7, hc6, h⟩ := bd_e h
    refine g_callS (pc := 18) X k_ml_X11_98 (run_RC_within  hc6) rfl (room_ok (Nat.le_of_ble_eq_true rfl) (Nat.le_of_ble_eq_true rfl)) ⟨Nat.le_refl _, Nat.le_refl _⟩ _ rfl (Nat.le_of_ble_eq_true rfl) dX11_add_18 ?_
    show Go V Γ M_X11_add (Zm V Γ 2 fin) 21 [(0, .ref (V.2.2.1 + 0)), (1, .int p1), (2, .int p2)] [.int r7] σ
    refine g_if_ne (pc := 21) (tgt := 30) X dX11_add_21 rfl (fun c20 => ?_) (fun c20 => ?_)
    · replace h := if_f c20 h
      refine g_aload_n (pc := 30) X 0 rfl dX11_add_30 ?_
      refine g_getR (r := 7) (pc := 31) X k_fl_X11_36 s_0 rfl dX11_add_31 ?_
      refine g_getI (pc := 34) X k_fl_X11_182 s_7 rfl dX11_add_34 ?_
      refine g_bipush (v := 12) (pc := 37) X (by decide) dX11_add_37 ?_
      refine g_icmp_lt (pc := 39) (tgt := 48) X dX11_add_39 rfl (fun c16 => ?_) (fun c16 => ?_)
      · replace h := if_t c16 h
        refine g_aload_n (pc := 48) X 0 rfl dX11_add_48 ?_
        refine g_getR (r := 7) (pc := 49) X k_fl_X11_36 s_0 rfl dX11_add_49 ?_
        refine g_iload_n (pc := 52) X 1 rfl dX11_add_52 ?_
        refine g_iload_n (pc := 53) X 2 rfl dX11_add_53 ?_
        refine g_iconst (v := 1) (pc := 54) X rfl dX11_add_54 ?_
        refine g_lconst (v := 0) (pc := 55) X rfl dX11_add_55 ?_
        obtain ⟨σ9, hc8, h⟩ := bd_e h
        refine g_callV (pc := 56) X k_ml_X11_264 (run_Cl_append (oknCl_7) hc8) s_7 rfl (room_ok (Nat.le_of_ble_eq_true rfl) (Nat.le_of_ble_eq_true rfl)) ⟨Nat.le_refl _, Nat.le_refl _⟩ _ rfl (Nat.le_of_ble_eq_true rfl) dX11_add_56 ?_
        show Go V Γ M_X11_add (Zm V Γ 2 fin) 59 [(0, .ref (V.2.2.1 + 0)), (1, .int p1), (2, .int p2)] [] σ9
        refine g_aload_n (pc := 59) X 0 rfl dX11_add_59 ?_
        refine g_aload_n (pc := 60) X 0 rfl dX11_add_60 ?_
        refine g_getR (r := 7) (pc := 61) X k_fl_X11_36 s_0 rfl dX11_add_61 ?_
        refine g_getI (pc := 64) X k_fl_X11_182 s_7 rfl dX11_add_64 ?_
        refine g_iconst (v := 1) (pc := 67) X rfl dX11_add_67 ?_
        refine g_isub (pc := 68) X dX11_add_68 ?_
        obtain ⟨r11, σ12, hc10, h⟩ := bd2_e h
        refine g_callV (pc := 69) X k_ml_X11_185 (run_RC_answer  hc10) s_0 rfl (room_ok (Nat.le_of_ble_eq_true rfl) (Nat.le_of_ble_eq_true rfl)) ⟨Nat.le_refl _, Nat.le_refl _⟩ _ rfl (Nat.le_of_ble_eq_true rfl) dX11_add_69 ?_
        show Go V Γ M_X11_add (Zm V Γ 2 fin) 72 [(0, .ref (V.2.2.1 + 0)), (1, .int p1), (2, .int p2)] [.int r11] σ12
        cases h
        exact g_iret (pc := 72) X rfl rfl (hr _ _ hA) dX11_add_72
      · replace h := if_f c16 h
        refine g_aload_n (pc := 42) X 0 rfl dX11_add_42 ?_
        refine g_iconst (v := 4) (pc := 43) X rfl dX11_add_43 ?_
        obtain ⟨r14, σ15, hc13, h⟩ := bd2_e h
        refine g_callV (pc := 44) X k_ml_X11_124 (run_RC_refuse  hc13) s_0 rfl (room_ok (Nat.le_of_ble_eq_true rfl) (Nat.le_of_ble_eq_true rfl)) ⟨Nat.le_refl _, Nat.le_refl _⟩ _ rfl (Nat.le_of_ble_eq_true rfl) dX11_add_44 ?_
        show Go V Γ M_X11_add (Zm V Γ 2 fin) 47 [(0, .ref (V.2.2.1 + 0)), (1, .int p1), (2, .int p2)] [.int r14] σ15
        cases h
        exact g_iret (pc := 47) X rfl rfl (hr _ _ hA) dX11_add_47
    · replace h := if_t c20 h
      refine g_aload_n (pc := 24) X 0 rfl dX11_add_24 ?_
      refine g_iconst (v := 1) (pc := 25) X rfl dX11_add_25 ?_
      obtain ⟨r18, σ19, hc17, h⟩ := bd2_e h
      refine g_callV (pc := 26) X k_ml_X11_124 (run_RC_refuse  hc17) s_0 rfl (room_ok (Nat.le_of_ble_eq_true rfl) (Nat.le_of_ble_eq_true rfl)) ⟨Nat.le_refl _, Nat.le_refl _⟩ _ rfl (Nat.le_of_ble_eq_true rfl) dX11_add_26 ?_
      show Go V Γ M_X11_add (Zm V Γ 2 fin) 29 [(0, .ref (V.2.2.1 + 0)), (1, .int p1), (2, .int p2)] [.int r18] σ19
      cases h
      exact g_iret (pc := 29) X rfl rfl (hr _ _ hA) dX11_add_29
set_option maxRecDepth 100000 in
theorem run_RC_add {V : Ev} {σ : St} {p1 : Int32} {p2 : Int32} {o : (Int32 × St)}   (h : RC_add σ p1 p2 = some o) : Rs V 2 M_X11_add [.ref (V.2.2.1 + 0), .int p1, .int p2] σ (some (.int o.1), o.2) := by
  refine Rs.of (by decide +kernel) (Nat.le_of_ble_eq_true rfl) (fun Γ X => ?_)
  exact tm_RC_add X (A := fun o1 => o1 = o)  (fun _ _ e => by rw [← e]) h rfl
theorem dX11_drop_0 : decode cX11_drop 0 = .ok (.aload_n 0, 1) := by decide +kernel
theorem dX11_drop_1 : decode cX11_drop 1 = .ok (.getfield 36, 3) := by decide +kernel
theorem dX11_drop_4 : decode cX11_drop 4 = .ok (.iload_n 1, 1) := by decide +kernel
theorem dX11_drop_5 : decode cX11_drop 5 = .ok (.invokevirtual 235, 3) := by decide +kernel
theorem dX11_drop_8 : decode cX11_drop 8 = .ok (.ifCond .ne 9, 3) := by decide +kernel
theorem dX11_drop_11 : decode cX11_drop 11 = .ok (.aload_n 0, 1) := by decide +kernel
theorem dX11_drop_12 : decode cX11_drop 12 = .ok (.iconst 1, 1) := by decide +kernel
theorem dX11_drop_13 : decode cX11_drop 13 = .ok (.invokevirtual 124, 3) := by decide +kernel
theorem dX11_drop_16 : decode cX11_drop 16 = .ok (.ireturn, 1) := by decide +kernel
theorem dX11_drop_17 : decode cX11_drop 17 = .ok (.aload_n 0, 1) := by decide +kernel
theorem dX11_drop_18 : decode cX11_drop 18 = .ok (.getfield 36, 3) := by decide +kernel
theorem dX11_drop_21 : decode cX11_drop 21 = .ok (.iload_n 1, 1) := by decide +kernel
theorem dX11_drop_22 : decode cX11_drop 22 = .ok (.invokevirtual 267, 3) := by decide +kernel
theorem dX11_drop_25 : decode cX11_drop 25 = .ok (.aload_n 0, 1) := by decide +kernel
theorem dX11_drop_26 : decode cX11_drop 26 = .ok (.aload_n 0, 1) := by decide +kernel
theorem dX11_drop_27 : decode cX11_drop 27 = .ok (.getfield 36, 3) := by decide +kernel
theorem dX11_drop_30 : decode cX11_drop 30 = .ok (.getfield 182, 3) := by decide +kernel
theorem dX11_drop_33 : decode cX11_drop 33 = .ok (.invokevirtual 185, 3) := by decide +kernel
theorem dX11_drop_36 : decode cX11_drop 36 = .ok (.ireturn, 1) := by decide +kernel
noncomputable def RC_drop (σ : St) (p1 : Int32) : Option (Int32 × St) :=
  bd (Cl_isThere σ 7 p1) (fun r2 => if r2 = 0 then (bd2 (RC_refuse σ 1) (fun r9 σ10 => some (r9, σ10))) else (bd (Cl_remove σ 7 p1) (fun σ4 => bd2 (RC_answer σ4 (σ4.1 7 3)) (fun r6 σ7 => some (r6, σ7)))))
set_option maxRecDepth 100000 in
set_option maxHeartbeats 4000000 in
theorem tm_RC_drop {V : Ev} {Γ : Cn} {fin : Option Value × St} {σ : St} {p1 : Int32} {o : (Int32 × St)} (X : Cx V Γ M_X11_drop) {A : (Int32 × St) → Prop}  (hr : ∀ (r : Int32) (σ9 : St), A (r, σ9) → (some (.int r), σ9) = fin) (h : RC_drop σ p1 = some o) (hA : A o) : Go V Γ M_X11_drop (Zm V Γ 2 fin) 0 [(0, .ref (V.2.2.1 + 0)), (1, .int p1)] [] σ := by
  unfold RC_drop at h
  refine g_aload_n (pc := 0) X 0 rfl dX11_drop_0 ?_
  refine g_getR (r := 7) (pc := 1) X k_fl_X11_36 s_0 rfl dX11_drop_1 ?_
  refine g_iload_n (pc := 4) X 1 rfl dX11_drop_4 ?_
  obtain ⟨r2, hc1, h⟩ := bd_e h
  refine g_callV (pc := 5) X k_ml_X11_235 (run_Cl_isThere (oknCl_7) hc1) s_7 rfl (room_ok (Nat.le_of_ble_eq_true rfl) (Nat.le_of_ble_eq_true rfl)) ⟨Nat.le_refl _, Nat.le_refl _⟩ _ rfl (Nat.le_of_ble_eq_true rfl) dX11_drop_5 ?_
  show Go V Γ M_X11_drop (Zm V Γ 2 fin) 8 [(0, .ref (V.2.2.1 + 0)), (1, .int p1)] [.int r2] σ
  refine g_if_ne (pc := 8) (tgt := 17) X dX11_drop_8 rfl (fun c11 => ?_) (fun c11 => ?_)
  · replace h := if_f c11 h
    refine g_aload_n (pc := 17) X 0 rfl dX11_drop_17 ?_
    refine g_getR (r := 7) (pc := 18) X k_fl_X11_36 s_0 rfl dX11_drop_18 ?_
    refine g_iload_n (pc := 21) X 1 rfl dX11_drop_21 ?_
    obtain ⟨σ4, hc3, h⟩ := bd_e h
    refine g_callV (pc := 22) X k_ml_X11_267 (run_Cl_remove (oknCl_7) hc3) s_7 rfl (room_ok (Nat.le_of_ble_eq_true rfl) (Nat.le_of_ble_eq_true rfl)) ⟨Nat.le_refl _, Nat.le_refl _⟩ _ rfl (Nat.le_of_ble_eq_true rfl) dX11_drop_22 ?_
    show Go V Γ M_X11_drop (Zm V Γ 2 fin) 25 [(0, .ref (V.2.2.1 + 0)), (1, .int p1)] [] σ4
    refine g_aload_n (pc := 25) X 0 rfl dX11_drop_25 ?_
    refine g_aload_n (pc := 26) X 0 rfl dX11_drop_26 ?_
    refine g_getR (r := 7) (pc := 27) X k_fl_X11_36 s_0 rfl dX11_drop_27 ?_
    refine g_getI (pc := 30) X k_fl_X11_182 s_7 rfl dX11_drop_30 ?_
    obtain ⟨r6, σ7, hc5, h⟩ := bd2_e h
    refine g_callV (pc := 33) X k_ml_X11_185 (run_RC_answer  hc5) s_0 rfl (room_ok (Nat.le_of_ble_eq_true rfl) (Nat.le_of_ble_eq_true rfl)) ⟨Nat.le_refl _, Nat.le_refl _⟩ _ rfl (Nat.le_of_ble_eq_true rfl) dX11_drop_33 ?_
    show Go V Γ M_X11_drop (Zm V Γ 2 fin) 36 [(0, .ref (V.2.2.1 + 0)), (1, .int p1)] [.int r6] σ7
    cases h
    exact g_iret (pc := 36) X rfl rfl (hr _ _ hA) dX11_drop_36
  · replace h := if_t c11 h
    refine g_aload_n (pc := 11) X 0 rfl dX11_drop_11 ?_
    refine g_iconst (v := 1) (pc := 12) X rfl dX11_drop_12 ?_
    obtain ⟨r9, σ10, hc8, h⟩ := bd2_e h
    refine g_callV (pc := 13) X k_ml_X11_124 (run_RC_refuse  hc8) s_0 rfl (room_ok (Nat.le_of_ble_eq_true rfl) (Nat.le_of_ble_eq_true rfl)) ⟨Nat.le_refl _, Nat.le_refl _⟩ _ rfl (Nat.le_of_ble_eq_true rfl) dX11_drop_13 ?_
    show Go V Γ M_X11_drop (Zm V Γ 2 fin) 16 [(0, .ref (V.2.2.1 + 0)), (1, .int p1)] [.int r9] σ10
    cases h
    exact g_iret (pc := 16) X rfl rfl (hr _ _ hA) dX11_drop_16
set_option maxRecDepth 100000 in
theorem run_RC_drop {V : Ev} {σ : St} {p1 : Int32} {o : (Int32 × St)}   (h : RC_drop σ p1 = some o) : Rs V 2 M_X11_drop [.ref (V.2.2.1 + 0), .int p1] σ (some (.int o.1), o.2) := by
  refine Rs.of (by decide +kernel) (Nat.le_of_ble_eq_true rfl) (fun Γ X => ?_)
  exact tm_RC_drop X (A := fun o1 => o1 = o)  (fun _ _ e => by rw [← e]) h rfl
theorem dX11_move_0 : decode cX11_move 0 = .ok (.aload_n 0, 1) := by decide +kernel
theorem dX11_move_1 : decode cX11_move 1 = .ok (.getfield 36, 3) := by decide +kernel
theorem dX11_move_4 : decode cX11_move 4 = .ok (.iload_n 1, 1) := by decide +kernel
theorem dX11_move_5 : decode cX11_move 5 = .ok (.invokevirtual 235, 3) := by decide +kernel
theorem dX11_move_8 : decode cX11_move 8 = .ok (.ifCond .eq 15, 3) := by decide +kernel
theorem dX11_move_11 : decode cX11_move 11 = .ok (.iload_n 2, 1) := by decide +kernel
theorem dX11_move_12 : decode cX11_move 12 = .ok (.i2l, 1) := by decide +kernel
theorem dX11_move_13 : decode cX11_move 13 = .ok (.lconst 0, 1) := by decide +kernel
theorem dX11_move_14 : decode cX11_move 14 = .ok (.ldc2_w 262, 3) := by decide +kernel
theorem dX11_move_17 : decode cX11_move 17 = .ok (.invokestatic 98, 3) := by decide +kernel
theorem dX11_move_20 : decode cX11_move 20 = .ok (.ifCond .ne 9, 3) := by decide +kernel
theorem dX11_move_23 : decode cX11_move 23 = .ok (.aload_n 0, 1) := by decide +kernel
theorem dX11_move_24 : decode cX11_move 24 = .ok (.iconst 1, 1) := by decide +kernel
theorem dX11_move_25 : decode cX11_move 25 = .ok (.invokevirtual 124, 3) := by decide +kernel
theorem dX11_move_28 : decode cX11_move 28 = .ok (.ireturn, 1) := by decide +kernel
theorem dX11_move_29 : decode cX11_move 29 = .ok (.aload_n 0, 1) := by decide +kernel
theorem dX11_move_30 : decode cX11_move 30 = .ok (.getfield 36, 3) := by decide +kernel
theorem dX11_move_33 : decode cX11_move 33 = .ok (.getfield 238, 3) := by decide +kernel
theorem dX11_move_36 : decode cX11_move 36 = .ok (.iload_n 1, 1) := by decide +kernel
theorem dX11_move_37 : decode cX11_move 37 = .ok (.iaload, 1) := by decide +kernel
theorem dX11_move_38 : decode cX11_move 38 = .ok (.istore_n 3, 1) := by decide +kernel
theorem dX11_move_39 : decode cX11_move 39 = .ok (.aload_n 0, 1) := by decide +kernel
theorem dX11_move_40 : decode cX11_move 40 = .ok (.getfield 36, 3) := by decide +kernel
theorem dX11_move_43 : decode cX11_move 43 = .ok (.getfield 238, 3) := by decide +kernel
theorem dX11_move_46 : decode cX11_move 46 = .ok (.iload_n 1, 1) := by decide +kernel
theorem dX11_move_47 : decode cX11_move 47 = .ok (.iload_n 2, 1) := by decide +kernel
theorem dX11_move_48 : decode cX11_move 48 = .ok (.aload_n 0, 1) := by decide +kernel
theorem dX11_move_49 : decode cX11_move 49 = .ok (.getfield 36, 3) := by decide +kernel
theorem dX11_move_52 : decode cX11_move 52 = .ok (.getfield 242, 3) := by decide +kernel
theorem dX11_move_55 : decode cX11_move 55 = .ok (.iload_n 1, 1) := by decide +kernel
theorem dX11_move_56 : decode cX11_move 56 = .ok (.iaload, 1) := by decide +kernel
theorem dX11_move_57 : decode cX11_move 57 = .ok (.invokestatic 270, 3) := by decide +kernel
theorem dX11_move_60 : decode cX11_move 60 = .ok (.iastore, 1) := by decide +kernel
theorem dX11_move_61 : decode cX11_move 61 = .ok (.aload_n 0, 1) := by decide +kernel
theorem dX11_move_62 : decode cX11_move 62 = .ok (.iload_n 3, 1) := by decide +kernel
theorem dX11_move_63 : decode cX11_move 63 = .ok (.invokevirtual 185, 3) := by decide +kernel
theorem dX11_move_66 : decode cX11_move 66 = .ok (.ireturn, 1) := by decide +kernel
noncomputable def RC_move (σ : St) (p1 : Int32) (p2 : Int32) : Option (Int32 × St) :=
  bd (Cl_isThere σ 7 p1) (fun r2 => if r2 = 0 then (bd2 (RC_refuse σ 1) (fun r4 σ5 => some (r4, σ5))) else (bd (RC_within p2.toInt64 0 59) (fun r7 => if r7 = 0 then (bd2 (RC_refuse σ 1) (fun r19 σ20 => some (r19, σ20))) else (chk (ix p1 12) (bnd ((σ.1 8 (tn p1))) (fun v9 => chk (ix p1 12) (bd (RC_leftBy p2 (σ.1 9 (tn p1))) (fun r12 => chk (ix p1 12) (bnd (wI σ 8 (tn p1) r12) (fun σ14 => bd2 (RC_answer σ14 v9) (fun r16 σ17 => some (r16, σ17))))))))))))
set_option maxRecDepth 100000 in
set_option maxHeartbeats 4000000 in
theorem tm_RC_move {V : Ev} {Γ : Cn} {fin : Option Value × St} {σ : St} {p1 : Int32} {p2 : Int32} {o : (Int32 × St)} (X : Cx V Γ M_X11_move) {A : (Int32 × St) → Prop}  (hr : ∀ (r : Int32) (σ9 : St), A (r, σ9) → (some (.int r), σ9) = fin) (h : RC_move σ p1 p2 = some o) (hA : A o) : Go V Γ M_X11_move (Zm V Γ 1 fin) 0 [(0, .ref (V.2.2.1 + 0)), (1, .int p1), (2, .int p2)] [] σ := by
  unfold RC_move at h
  refine g_aload_n (pc := 0) X 0 rfl dX11_move_0 ?_
  refine g_getR (r := 7) (pc := 1) X k_fl_X11_36 s_0 rfl dX11_move_1 ?_
  refine g_iload_n (pc := 4) X 1 rfl dX11_move_4 ?_
  obtain ⟨r2, hc1, h⟩ := bd_e h
  refine g_callV (pc := 5) X k_ml_X11_235 (run_Cl_isThere (oknCl_7) hc1) s_7 rfl (room_ok (Nat.le_of_ble_eq_true rfl) (Nat.le_of_ble_eq_true rfl)) ⟨Nat.le_refl _, Nat.le_refl _⟩ _ rfl (Nat.le_of_ble_eq_true rfl) dX11_move_5 ?_
  show Go V Γ M_X11_move (Zm V Γ 1 fin) 8 [(0, .ref (V.2.2.1 + 0)), (1, .int p1), (2, .int p2)] [.int r2] σ
  refine g_if_eq (pc := 8) (tgt := 23) X dX11_move_8 rfl (fun c22 => ?_) (fun c22 => ?_)
  · replace h := if_t c22 h
    refine g_aload_n (pc := 23) X 0 rfl dX11_move_23 ?_
    refine g_iconst (v := 1) (pc := 24) X rfl dX11_move_24 ?_
    obtain ⟨r4, σ5, hc3, h⟩ := bd2_e h
    refine g_callV (pc := 25) X k_ml_X11_124 (run_RC_refuse  hc3) s_0 rfl (room_ok (Nat.le_of_ble_eq_true rfl) (Nat.le_of_ble_eq_true rfl)) ⟨Nat.le_refl _, Nat.le_refl _⟩ _ rfl (Nat.le_of_ble_eq_true rfl) dX11_move_25 ?_
    show Go V Γ M_X11_move (Zm V Γ 1 fin) 28 [(0, .ref (V.2.2.1 + 0)), (1, .int p1), (2, .int p2)] [.int r4] σ5
    cases h
    exact g_iret (pc := 28) X rfl rfl (hr _ _ hA) dX11_move_28
  · replace h := if_f c22 h
    refine g_iload_n (pc := 11) X 2 rfl dX11_move_11 ?_
    refine g_i2l (pc := 12) X dX11_move_12 ?_
    refine g_lconst (v := 0) (pc := 13) X rfl dX11_move_13 ?_
    refine g_ldc2 (v := 59) (pc := 14) X k_constl_X11_262 dX11_move_14 ?_
    obtain ⟨r7, hc6, h⟩ := bd_e h
    refine g_callS (pc := 17) X k_ml_X11_98 (run_RC_within  hc6) rfl (room_ok (Nat.le_of_ble_eq_true rfl) (Nat.le_of_ble_eq_true rfl)) ⟨Nat.le_refl _, Nat.le_refl _⟩ _ rfl (Nat.le_of_ble_eq_true rfl) dX11_move_17 ?_
    show Go V Γ M_X11_move (Zm V Γ 1 fin) 20 [(0, .ref (V.2.2.1 + 0)), (1, .int p1), (2, .int p2)] [.int r7] σ
    refine g_if_ne (pc := 20) (tgt := 29) X dX11_move_20 rfl (fun c21 => ?_) (fun c21 => ?_)
    · replace h := if_f c21 h
      refine g_aload_n (pc := 29) X 0 rfl dX11_move_29 ?_
      refine g_getR (r := 7) (pc := 30) X k_fl_X11_36 s_0 rfl dX11_move_30 ?_
      refine g_getR (r := 8) (pc := 33) X k_fl_X11_238 s_7 rfl dX11_move_33 ?_
      refine g_iload_n (pc := 36) X 1 rfl dX11_move_36 ?_
      obtain ⟨c8, h⟩ := chk_e h
      refine g_iald (pc := 37) X s_8 c8 dX11_move_37 ?_
      obtain ⟨v9, e_v9, h⟩ := bnd_e h
      refine g_nmI e_v9 ?_
      refine g_istore_n (pc := 38) X [(3, .int v9), (0, .ref (V.2.2.1 + 0)), (1, .int p1), (2, .int p2)] rfl (Nat.le_of_ble_eq_true rfl) rfl dX11_move_38 ?_
      refine g_aload_n (pc := 39) X 1 rfl dX11_move_39 ?_
      refine g_getR (r := 7) (pc := 40) X k_fl_X11_36 s_0 rfl dX11_move_40 ?_
      refine g_getR (r := 8) (pc := 43) X k_fl_X11_238 s_7 rfl dX11_move_43 ?_
      refine g_iload_n (pc := 46) X 2 rfl dX11_move_46 ?_
      refine g_iload_n (pc := 47) X 3 rfl dX11_move_47 ?_
      refine g_aload_n (pc := 48) X 1 rfl dX11_move_48 ?_
      refine g_getR (r := 7) (pc := 49) X k_fl_X11_36 s_0 rfl dX11_move_49 ?_
      refine g_getR (r := 9) (pc := 52) X k_fl_X11_242 s_7 rfl dX11_move_52 ?_
      refine g_iload_n (pc := 55) X 2 rfl dX11_move_55 ?_
      obtain ⟨c10, h⟩ := chk_e h
      refine g_iald (pc := 56) X s_9 c10 dX11_move_56 ?_
      obtain ⟨r12, hc11, h⟩ := bd_e h
      refine g_callS (pc := 57) X k_ml_X11_270 (run_RC_leftBy  hc11) rfl (room_ok (Nat.le_of_ble_eq_true rfl) (Nat.le_of_ble_eq_true rfl)) ⟨Nat.le_refl _, Nat.le_refl _⟩ _ rfl (Nat.le_of_ble_eq_true rfl) dX11_move_57 ?_
      show Go V Γ M_X11_move (Zm V Γ 1 fin) 60 [(3, .int v9), (0, .ref (V.2.2.1 + 0)), (1, .int p1), (2, .int p2)] [.int r12, .int p1, .ref (V.2.2.1 + 8)] σ
      obtain ⟨c13, h⟩ := chk_e h
      refine g_iast (pc := 60) X s_8 c13 dX11_move_60 ?_
      obtain ⟨σ14, e_σ14, h⟩ := bnd_e h
      refine g_nmS e_σ14 ?_
      refine g_aload_n (pc := 61) X 1 rfl dX11_move_61 ?_
      refine g_iload_n (pc := 62) X 0 rfl dX11_move_62 ?_
      obtain ⟨r16, σ17, hc15, h⟩ := bd2_e h
      refine g_callV (pc := 63) X k_ml_X11_185 (run_RC_answer  hc15) s_0 rfl (room_ok (Nat.le_of_ble_eq_true rfl) (Nat.le_of_ble_eq_true rfl)) ⟨Nat.le_refl _, Nat.le_refl _⟩ _ rfl (Nat.le_of_ble_eq_true rfl) dX11_move_63 ?_
      show Go V Γ M_X11_move (Zm V Γ 1 fin) 66 [(3, .int v9), (0, .ref (V.2.2.1 + 0)), (1, .int p1), (2, .int p2)] [.int r16] σ17
      cases h
      exact g_iret (pc := 66) X rfl rfl (hr _ _ hA) dX11_move_66
    · replace h := if_t c21 h
      refine g_aload_n (pc := 23) X 0 rfl dX11_move_23 ?_
      refine g_iconst (v := 1) (pc := 24) X rfl dX11_move_24 ?_
      obtain ⟨r19, σ20, hc18, h⟩ := bd2_e h
      refine g_callV (pc := 25) X k_ml_X11_124 (run_RC_refuse  hc18) s_0 rfl (room_ok (Nat.le_of_ble_eq_true rfl) (Nat.le_of_ble_eq_true rfl)) ⟨Nat.le_refl _, Nat.le_refl _⟩ _ rfl (Nat.le_of_ble_eq_true rfl) dX11_move_25 ?_
      show Go V Γ M_X11_move (Zm V Γ 1 fin) 28 [(0, .ref (V.2.2.1 + 0)), (1, .int p1), (2, .int p2)] [.int r19] σ20
      cases h
      exact g_iret (pc := 28) X rfl rfl (hr _ _ hA) dX11_move_28
set_option maxRecDepth 100000 in
theorem run_RC_move {V : Ev} {σ : St} {p1 : Int32} {p2 : Int32} {o : (Int32 × St)}   (h : RC_move σ p1 p2 = some o) : Rs V 1 M_X11_move [.ref (V.2.2.1 + 0), .int p1, .int p2] σ (some (.int o.1), o.2) := by
  refine Rs.of (by decide +kernel) (Nat.le_of_ble_eq_true rfl) (fun Γ X => ?_)
  exact tm_RC_move X (A := fun o1 => o1 = o)  (fun _ _ e => by rw [← e]) h rfl
theorem dX11_shift_0 : decode cX11_shift 0 = .ok (.iload_n 1, 1) := by decide +kernel
theorem dX11_shift_1 : decode cX11_shift 1 = .ok (.i2l, 1) := by decide +kernel
theorem dX11_shift_2 : decode cX11_shift 2 = .ok (.lconst 0, 1) := by decide +kernel
theorem dX11_shift_3 : decode cX11_shift 3 = .ok (.ldc2_w 262, 3) := by decide +kernel
theorem dX11_shift_6 : decode cX11_shift 6 = .ok (.invokestatic 98, 3) := by decide +kernel
theorem dX11_shift_9 : decode cX11_shift 9 = .ok (.ifCond .ne 9, 3) := by decide +kernel
theorem dX11_shift_12 : decode cX11_shift 12 = .ok (.aload_n 0, 1) := by decide +kernel
theorem dX11_shift_13 : decode cX11_shift 13 = .ok (.iconst 1, 1) := by decide +kernel
theorem dX11_shift_14 : decode cX11_shift 14 = .ok (.invokevirtual 104, 3) := by decide +kernel
theorem dX11_shift_17 : decode cX11_shift 17 = .ok (.ireturn, 1) := by decide +kernel
theorem dX11_shift_18 : decode cX11_shift 18 = .ok (.aload_n 0, 1) := by decide +kernel
theorem dX11_shift_19 : decode cX11_shift 19 = .ok (.getfield 36, 3) := by decide +kernel
theorem dX11_shift_22 : decode cX11_shift 22 = .ok (.iload_n 1, 1) := by decide +kernel
theorem dX11_shift_23 : decode cX11_shift 23 = .ok (.invokevirtual 273, 3) := by decide +kernel
theorem dX11_shift_26 : decode cX11_shift 26 = .ok (.aload_n 0, 1) := by decide +kernel
theorem dX11_shift_27 : decode cX11_shift 27 = .ok (.invokevirtual 112, 3) := by decide +kernel
theorem dX11_shift_30 : decode cX11_shift 30 = .ok (.ireturn, 1) := by decide +kernel
noncomputable def RC_shift (σ : St) (p1 : Int32) : Option (Int32 × St) :=
  bd (RC_within p1.toInt64 0 59) (fun r2 => if r2 = 0 then (bd2 (RC_deny σ 1) (fun r10 σ11 => chk (ckz r10) (some (r10, σ11)))) else (bd (Cl_slide σ 7 p1) (fun σ4 => bd2 (RC_agree σ4) (fun r6 σ7 => chk (ckz r6) (some (r6, σ7))))))
set_option maxRecDepth 100000 in
set_option maxHeartbeats 4000000 in
theorem tm_RC_shift {V : Ev} {Γ : Cn} {fin : Option Value × St} {σ : St} {p1 : Int32} {o : (Int32 × St)} (X : Cx V Γ M_X11_shift) {A : (Int32 × St) → Prop}  (hr : ∀ (r : Int32) (σ9 : St), A (r, σ9) → (some (.int r), σ9) = fin) (h : RC_shift σ p1 = some o) (hA : A o) : Go V Γ M_X11_shift (Zm V Γ 2 fin) 0 [(0, .ref (V.2.2.1 + 0)), (1, .int p1)] [] σ := by
  unfold RC_shift at h
  refine g_iload_n (pc := 0) X 1 rfl dX11_shift_0 ?_
  refine g_i2l (pc := 1) X dX11_shift_1 ?_
  refine g_lconst (v := 0) (pc := 2) X rfl dX11_shift_2 ?_
  refine g_ldc2 (v := 59) (pc := 3) X k_constl_X11_262 dX11_shift_3 ?_
  obtain ⟨r2, hc1, h⟩ := bd_e h
  refine g_callS (pc := 6) X k_ml_X11_98 (run_RC_within  hc1) rfl (room_ok (Nat.le_of_ble_eq_true rfl) (Nat.le_of_ble_eq_true rfl)) ⟨Nat.le_refl _, Nat.le_refl _⟩ _ rfl (Nat.le_of_ble_eq_true rfl) dX11_shift_6 ?_
  show Go V Γ M_X11_shift (Zm V Γ 2 fin) 9 [(0, .ref (V.2.2.1 + 0)), (1, .int p1)] [.int r2] σ
  refine g_if_ne (pc := 9) (tgt := 18) X dX11_shift_9 rfl (fun c13 => ?_) (fun c13 => ?_)
  · replace h := if_f c13 h
    refine g_aload_n (pc := 18) X 0 rfl dX11_shift_18 ?_
    refine g_getR (r := 7) (pc := 19) X k_fl_X11_36 s_0 rfl dX11_shift_19 ?_
    refine g_iload_n (pc := 22) X 1 rfl dX11_shift_22 ?_
    obtain ⟨σ4, hc3, h⟩ := bd_e h
    refine g_callV (pc := 23) X k_ml_X11_273 (run_Cl_slide (oknCl_7) hc3) s_7 rfl (room_ok (Nat.le_of_ble_eq_true rfl) (Nat.le_of_ble_eq_true rfl)) ⟨Nat.le_refl _, Nat.le_refl _⟩ _ rfl (Nat.le_of_ble_eq_true rfl) dX11_shift_23 ?_
    show Go V Γ M_X11_shift (Zm V Γ 2 fin) 26 [(0, .ref (V.2.2.1 + 0)), (1, .int p1)] [] σ4
    refine g_aload_n (pc := 26) X 0 rfl dX11_shift_26 ?_
    obtain ⟨r6, σ7, hc5, h⟩ := bd2_e h
    refine g_callV (pc := 27) X k_ml_X11_112 (run_RC_agree  hc5) s_0 rfl (room_ok (Nat.le_of_ble_eq_true rfl) (Nat.le_of_ble_eq_true rfl)) ⟨Nat.le_refl _, Nat.le_refl _⟩ _ rfl (Nat.le_of_ble_eq_true rfl) dX11_shift_27 ?_
    show Go V Γ M_X11_shift (Zm V Γ 2 fin) 30 [(0, .ref (V.2.2.1 + 0)), (1, .int p1)] [.int r6] σ7
    obtain ⟨c8, h⟩ := chk_e h
    cases h
    exact g_iret (pc := 30) X rfl (ckz_e c8).1 (hr _ _ hA) dX11_shift_30
  · replace h := if_t c13 h
    refine g_aload_n (pc := 12) X 0 rfl dX11_shift_12 ?_
    refine g_iconst (v := 1) (pc := 13) X rfl dX11_shift_13 ?_
    obtain ⟨r10, σ11, hc9, h⟩ := bd2_e h
    refine g_callV (pc := 14) X k_ml_X11_104 (run_RC_deny  hc9) s_0 rfl (room_ok (Nat.le_of_ble_eq_true rfl) (Nat.le_of_ble_eq_true rfl)) ⟨Nat.le_refl _, Nat.le_refl _⟩ _ rfl (Nat.le_of_ble_eq_true rfl) dX11_shift_14 ?_
    show Go V Γ M_X11_shift (Zm V Γ 2 fin) 17 [(0, .ref (V.2.2.1 + 0)), (1, .int p1)] [.int r10] σ11
    obtain ⟨c12, h⟩ := chk_e h
    cases h
    exact g_iret (pc := 17) X rfl (ckz_e c12).1 (hr _ _ hA) dX11_shift_17
set_option maxRecDepth 100000 in
theorem run_RC_shift {V : Ev} {σ : St} {p1 : Int32} {o : (Int32 × St)}   (h : RC_shift σ p1 = some o) : Rs V 2 M_X11_shift [.ref (V.2.2.1 + 0), .int p1] σ (some (.int o.1), o.2) := by
  refine Rs.of (by decide +kernel) (Nat.le_of_ble_eq_true rfl) (fun Γ X => ?_)
  exact tm_RC_shift X (A := fun o1 => o1 = o)  (fun _ _ e => by rw [← e]) h rfl
