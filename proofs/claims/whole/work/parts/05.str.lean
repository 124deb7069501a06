theorem dJ0_length_8abf5_0 : decode cJ0_length_8abf5 0 = .ok (.aload_n 0, 1) := by decide +kernel
theorem dJ0_length_8abf5_1 : decode cJ0_length_8abf5 1 = .ok (.getfield 9, 3) := by decide +kernel
theorem dJ0_length_8abf5_4 : decode cJ0_length_8abf5 4 = .ok (.arraylength, 1) := by decide +kernel
theorem dJ0_length_8abf5_5 : decode cJ0_length_8abf5 5 = .ok (.aload_n 0, 1) := by decide +kernel
theorem dJ0_length_8abf5_6 : decode cJ0_length_8abf5 6 = .ok (.invokevirtual 335, 3) := by decide +kernel
theorem dJ0_length_8abf5_9 : decode cJ0_length_8abf5 9 = .ok (.ishr, 1) := by decide +kernel
theorem dJ0_length_8abf5_10 : decode cJ0_length_8abf5 10 = .ok (.ireturn, 1) := by decide +kernel
theorem dJ0_charAt_5068e_0 : decode cJ0_charAt_5068e 0 = .ok (.aload_n 0, 1) := by decide +kernel
theorem dJ0_charAt_5068e_1 : decode cJ0_charAt_5068e 1 = .ok (.invokevirtual 492, 3) := by decide +kernel
theorem dJ0_charAt_5068e_4 : decode cJ0_charAt_5068e 4 = .ok (.ifCond .eq 12, 3) := by decide +kernel
theorem dJ0_charAt_5068e_7 : decode cJ0_charAt_5068e 7 = .ok (.aload_n 0, 1) := by decide +kernel
theorem dJ0_charAt_5068e_8 : decode cJ0_charAt_5068e 8 = .ok (.getfield 9, 3) := by decide +kernel
theorem dJ0_charAt_5068e_11 : decode cJ0_charAt_5068e 11 = .ok (.iload_n 1, 1) := by decide +kernel
theorem dJ0_charAt_5068e_12 : decode cJ0_charAt_5068e 12 = .ok (.invokestatic 495, 3) := by decide +kernel
theorem dJ0_charAt_5068e_15 : decode cJ0_charAt_5068e 15 = .ok (.ireturn, 1) := by decide +kernel
theorem dJ0_charAt_5068e_16 : decode cJ0_charAt_5068e 16 = .ok (.aload_n 0, 1) := by decide +kernel
theorem dJ0_charAt_5068e_17 : decode cJ0_charAt_5068e 17 = .ok (.getfield 9, 3) := by decide +kernel
theorem dJ0_charAt_5068e_20 : decode cJ0_charAt_5068e 20 = .ok (.iload_n 1, 1) := by decide +kernel
theorem dJ0_charAt_5068e_21 : decode cJ0_charAt_5068e 21 = .ok (.invokestatic 498, 3) := by decide +kernel
theorem dJ0_charAt_5068e_24 : decode cJ0_charAt_5068e 24 = .ok (.ireturn, 1) := by decide +kernel
theorem dJ0_coder_7d493_0 : decode cJ0_coder_7d493 0 = .ok (.getstatic 38, 3) := by decide +kernel
theorem dJ0_coder_7d493_3 : decode cJ0_coder_7d493 3 = .ok (.ifCond .eq 10, 3) := by decide +kernel
theorem dJ0_coder_7d493_6 : decode cJ0_coder_7d493 6 = .ok (.aload_n 0, 1) := by decide +kernel
theorem dJ0_coder_7d493_7 : decode cJ0_coder_7d493 7 = .ok (.getfield 15, 3) := by decide +kernel
theorem dJ0_coder_7d493_10 : decode cJ0_coder_7d493 10 = .ok (.goto 4, 3) := by decide +kernel
theorem dJ0_coder_7d493_13 : decode cJ0_coder_7d493 13 = .ok (.iconst 1, 1) := by decide +kernel
theorem dJ0_coder_7d493_14 : decode cJ0_coder_7d493 14 = .ok (.ireturn, 1) := by decide +kernel
theorem dJ0_isLatin1_aae02_0 : decode cJ0_isLatin1_aae02 0 = .ok (.getstatic 38, 3) := by decide +kernel
theorem dJ0_isLatin1_aae02_3 : decode cJ0_isLatin1_aae02 3 = .ok (.ifCond .eq 14, 3) := by decide +kernel
theorem dJ0_isLatin1_aae02_6 : decode cJ0_isLatin1_aae02 6 = .ok (.aload_n 0, 1) := by decide +kernel
theorem dJ0_isLatin1_aae02_7 : decode cJ0_isLatin1_aae02 7 = .ok (.getfield 15, 3) := by decide +kernel
theorem dJ0_isLatin1_aae02_10 : decode cJ0_isLatin1_aae02 10 = .ok (.ifCond .ne 7, 3) := by decide +kernel
theorem dJ0_isLatin1_aae02_13 : decode cJ0_isLatin1_aae02 13 = .ok (.iconst 1, 1) := by decide +kernel
theorem dJ0_isLatin1_aae02_14 : decode cJ0_isLatin1_aae02 14 = .ok (.goto 4, 3) := by decide +kernel
theorem dJ0_isLatin1_aae02_17 : decode cJ0_isLatin1_aae02 17 = .ok (.iconst 0, 1) := by decide +kernel
theorem dJ0_isLatin1_aae02_18 : decode cJ0_isLatin1_aae02 18 = .ok (.ireturn, 1) := by decide +kernel
theorem dJ0_checkIndex_df160_0 : decode cJ0_checkIndex_df160 0 = .ok (.iload_n 0, 1) := by decide +kernel
theorem dJ0_checkIndex_df160_1 : decode cJ0_checkIndex_df160 1 = .ok (.iload_n 1, 1) := by decide +kernel
theorem dJ0_checkIndex_df160_2 : decode cJ0_checkIndex_df160 2 = .ok (.getstatic 1053, 3) := by decide +kernel
theorem dJ0_checkIndex_df160_5 : decode cJ0_checkIndex_df160 5 = .ok (.invokestatic 1059, 3) := by decide +kernel
theorem dJ0_checkIndex_df160_8 : decode cJ0_checkIndex_df160 8 = .ok (.pop, 1) := by decide +kernel
theorem dJ0_checkIndex_df160_9 : decode cJ0_checkIndex_df160 9 = .ok (.return_, 1) := by decide +kernel
theorem dJ1_charAt_3b067_0 : decode cJ1_charAt_3b067 0 = .ok (.iload_n 1, 1) := by decide +kernel
theorem dJ1_charAt_3b067_1 : decode cJ1_charAt_3b067 1 = .ok (.aload_n 0, 1) := by decide +kernel
theorem dJ1_charAt_3b067_2 : decode cJ1_charAt_3b067 2 = .ok (.arraylength, 1) := by decide +kernel
theorem dJ1_charAt_3b067_3 : decode cJ1_charAt_3b067 3 = .ok (.invokestatic 9, 3) := by decide +kernel
theorem dJ1_charAt_3b067_6 : decode cJ1_charAt_3b067 6 = .ok (.aload_n 0, 1) := by decide +kernel
theorem dJ1_charAt_3b067_7 : decode cJ1_charAt_3b067 7 = .ok (.iload_n 1, 1) := by decide +kernel
theorem dJ1_charAt_3b067_8 : decode cJ1_charAt_3b067 8 = .ok (.baload, 1) := by decide +kernel
theorem dJ1_charAt_3b067_9 : decode cJ1_charAt_3b067 9 = .ok (.sipush 255, 3) := by decide +kernel
theorem dJ1_charAt_3b067_12 : decode cJ1_charAt_3b067 12 = .ok (.iand, 1) := by decide +kernel
theorem dJ1_charAt_3b067_13 : decode cJ1_charAt_3b067 13 = .ok (.i2c, 1) := by decide +kernel
theorem dJ1_charAt_3b067_14 : decode cJ1_charAt_3b067 14 = .ok (.ireturn, 1) := by decide +kernel
theorem dJ3_checkIndex_8e157_0 : decode cJ3_checkIndex_8e157 0 = .ok (.iload_n 0, 1) := by decide +kernel
theorem dJ3_checkIndex_8e157_1 : decode cJ3_checkIndex_8e157 1 = .ok (.ifCond .lt 8, 3) := by decide +kernel
theorem dJ3_checkIndex_8e157_4 : decode cJ3_checkIndex_8e157 4 = .ok (.iload_n 0, 1) := by decide +kernel
theorem dJ3_checkIndex_8e157_5 : decode cJ3_checkIndex_8e157 5 = .ok (.iload_n 1, 1) := by decide +kernel
theorem dJ3_checkIndex_8e157_6 : decode cJ3_checkIndex_8e157 6 = .ok (.if_icmp .lt 10, 3) := by decide +kernel
theorem dJ3_checkIndex_8e157_9 : decode cJ3_checkIndex_8e157 9 = .ok (.aload_n 2, 1) := by decide +kernel
theorem dJ3_checkIndex_8e157_10 : decode cJ3_checkIndex_8e157 10 = .ok (.iload_n 0, 1) := by decide +kernel
theorem dJ3_checkIndex_8e157_11 : decode cJ3_checkIndex_8e157 11 = .ok (.iload_n 1, 1) := by decide +kernel
theorem dJ3_checkIndex_8e157_12 : decode cJ3_checkIndex_8e157 12 = .ok (.invokestatic 95, 3) := by decide +kernel
theorem dJ3_checkIndex_8e157_15 : decode cJ3_checkIndex_8e157 15 = .ok (.athrow, 1) := by decide +kernel
theorem dJ3_checkIndex_8e157_16 : decode cJ3_checkIndex_8e157 16 = .ok (.iload_n 0, 1) := by decide +kernel
theorem dJ3_checkIndex_8e157_17 : decode cJ3_checkIndex_8e157 17 = .ok (.ireturn, 1) := by decide +kernel
def M_J0_length_8abf5 : Mi := (yJ0_length_8abf5, cJ0_length_8abf5, 1, (some .int))
theorem ok2_J0_length_8abf5 : Ok2 M_J0_length_8abf5 0 := ⟨(gt3 15 rfl rfl), (gt1 14 rfl rfl), by decide +kernel, by decide +kernel, by decide +kernel⟩
def M_J0_charAt_5068e : Mi := (yJ0_charAt_5068e, cJ0_charAt_5068e, 2, (some .char))
theorem ok2_J0_charAt_5068e : Ok2 M_J0_charAt_5068e 1 := ⟨(gt3 29 rfl rfl), (gt1 14 rfl rfl), by decide +kernel, by decide +kernel, by decide +kernel⟩
def M_J0_coder_7d493 : Mi := (yJ0_coder_7d493, cJ0_coder_7d493, 1, (some .byte))
theorem ok2_J0_coder_7d493 : Ok2 M_J0_coder_7d493 0 := ⟨(gt3 19 rfl rfl), (gt1 14 rfl rfl), by decide +kernel, by decide +kernel, by decide +kernel⟩
def M_J0_isLatin1_aae02 : Mi := (yJ0_isLatin1_aae02, cJ0_isLatin1_aae02, 1, (some .boolean))
theorem ok2_J0_isLatin1_aae02 : Ok2 M_J0_isLatin1_aae02 0 := ⟨(gt3 33 rfl rfl), (gt1 14 rfl rfl), by decide +kernel, by decide +kernel, by decide +kernel⟩
def M_J0_checkIndex_df160 : Mi := (yJ0_checkIndex_df160, cJ0_checkIndex_df160, 2, none)
theorem ok2_J0_checkIndex_df160 : Ok2 M_J0_checkIndex_df160 2 := ⟨(gt3 39 rfl rfl), (gt1 14 rfl rfl), by decide +kernel, by decide +kernel, by decide +kernel⟩
def M_J1_charAt_3b067 : Mi := (yJ1_charAt_3b067, cJ1_charAt_3b067, 2, (some .char))
theorem ok2_J1_charAt_3b067 : Ok2 M_J1_charAt_3b067 2 := ⟨(gt3 36 rfl rfl), (gt1 15 rfl rfl), by decide +kernel, by decide +kernel, by decide +kernel⟩
def M_J3_checkIndex_8e157 : Mi := (yJ3_checkIndex_8e157, cJ3_checkIndex_8e157, 3, (some .int))
theorem ok2_J3_checkIndex_8e157 : Ok2 M_J3_checkIndex_8e157 3 := ⟨(gt3 44 rfl rfl), (gt1 16 rfl rfl), by decide +kernel, by decide +kernel, by decide +kernel⟩
def txl (i : Nat) : List Int32 := [txB tx0, txB tx1].getD i []
def txn (i : Nat) : Nat := [(txB tx0).length, (txB tx1).length].getD i 0
def txC (i k : Nat) : Int32 := ((((txl i).getD k 0) &&& 255).toUInt32 % 65536).toInt32
section STR
variable {V : Ev} {Γ : Cn} {M : Mi} {Z : Zt} {pc : Nat} {lv : List (Nat × Value)} {st : List Value} {σ : St}
theorem g_ldcS0 {index : Nat} (X : Cx V Γ M) (hw : (M.1.cls, index) = ("ResidueCover$Reader", 97)) (hd : decode M.2.1 pc = .ok (.ldc index, 2)) (kk : Go V Γ M Z (pc + 2) lv (.ref (V.2.2.2 0) :: st) σ) : Go V Γ M Z pc lv st σ := by
  intro H locs ls hP hS hl
  obtain ⟨hx, hb, hml, hown, hts, hrr, hlk, hWk⟩ := X
  have e1 := congrArg Prod.fst hw
  have e2 := congrArg Prod.snd hw
  dsimp only at e1 e2
  subst e2
  rw [e1] at hown
  exact va_ldcS hx hb hown hWk.2.2.1 hd (kk H locs ls hP hS hl)
theorem g_ldcS1 {index : Nat} (X : Cx V Γ M) (hw : (M.1.cls, index) = ("ResidueCoverModel", 170)) (hd : decode M.2.1 pc = .ok (.ldc index, 2)) (kk : Go V Γ M Z (pc + 2) lv (.ref (V.2.2.2 1) :: st) σ) : Go V Γ M Z pc lv st σ := by
  intro H locs ls hP hS hl
  obtain ⟨hx, hb, hml, hown, hts, hrr, hlk, hWk⟩ := X
  have e1 := congrArg Prod.fst hw
  have e2 := congrArg Prod.snd hw
  dsimp only at e1 e2
  subst e2
  rw [e1] at hown
  exact va_ldcS hx hb hown hWk.2.2.2.1 hd (kk H locs ls hP hS hl)
theorem g_getsC {index : Nat} (X : Cx V Γ M) (hw : Cond.fieldLink M.1.cls index "java/lang/String" "COMPACT_STRINGS" "Z" ∈ lw_good) (hd : decode M.2.1 pc = .ok (.getstatic index, 3)) (kk : Go V Γ M Z (pc + 3) lv (.int 1 :: st) σ) : Go V Γ M Z pc lv st σ := by
  intro H locs ls hP hS hl
  obtain ⟨hx, hb, hml, hown, hts, hrr, hlk, hWk⟩ := X
  exact va_gets hx hb hWk.2.2.2.2.2.1 hS hown (hts _ hw) (fun x h => h) hd (kk H locs ls hP hS hl)
theorem g_getsP {index : Nat} (X : Cx V Γ M) (hw : Cond.fieldLink M.1.cls index "jdk/internal/util/Preconditions" "SIOOBE_FORMATTER" "Ljava/util/function/BiFunction;" ∈ lw_good) (hd : decode M.2.1 pc = .ok (.getstatic index, 3)) (kk : ∀ v : Value, v.category = 1 → Go V Γ M Z (pc + 3) lv (v :: st) σ) : Go V Γ M Z pc lv st σ := by
  intro H locs ls hP hS hl
  obtain ⟨hx, hb, hml, hown, hts, hrr, hlk, hWk⟩ := X
  obtain ⟨v, hv, hz⟩ := hWk.2.2.2.2.2.2
  exact va_gets hx hb hz hS hown (hts _ hw) (fun x h => h) hd (kk v hv H locs ls hP hS hl)
theorem g_strV {index i : Nat} (X : Cx V Γ M) (hi : i < 2) (hw : Cond.fieldLink M.1.cls index "java/lang/String" "value" "[B" ∈ lw_good) (hd : decode M.2.1 pc = .ok (.getfield index, 3)) (kk : Go V Γ M Z (pc + 3) lv (.ref (V.2.2.2 (i + 2)) :: st) σ) : Go V Γ M Z pc lv (.ref (V.2.2.2 i) :: st) σ := by
  intro H locs ls hP hS hl
  obtain ⟨hx, hb, hml, hown, hts, hrr, hlk, hWk⟩ := X
  exact vk_getf hx hb (hWk.2.2.2.2.1.1 i hi).2.2.1 hS hown (hts _ hw) (fun x h => h) hd (kk H locs ls hP hS hl)
theorem g_strC {index i : Nat} (X : Cx V Γ M) (hi : i < 2) (hw : Cond.fieldLink M.1.cls index "java/lang/String" "coder" "B" ∈ lw_good) (hd : decode M.2.1 pc = .ok (.getfield index, 3)) (kk : Go V Γ M Z (pc + 3) lv (.int 0 :: st) σ) : Go V Γ M Z pc lv (.ref (V.2.2.2 i) :: st) σ := by
  intro H locs ls hP hS hl
  obtain ⟨hx, hb, hml, hown, hts, hrr, hlk, hWk⟩ := X
  exact vk_getf hx hb (hWk.2.2.2.2.1.1 i hi).2.1 hS hown (hts _ hw) (fun x h => h) hd (kk H locs ls hP hS hl)
theorem g_strL {i : Nat} (X : Cx V Γ M) (hi : i < 2) (hd : decode M.2.1 pc = .ok (.arraylength, 1)) (kk : Go V Γ M Z (pc + 1) lv (.int (Int32.ofNat (txn i)) :: st) σ) : Go V Γ M Z pc lv (.ref (V.2.2.2 (i + 2)) :: st) σ := by
  intro H locs ls hP hS hl
  obtain ⟨hx, hb, hml, hown, hts, hrr, hlk, hWk⟩ := X
  exact va_tlen hx hb (hWk.2.2.2.2.1.1 i hi).2.2.2 hS rfl hd (kk H locs ls hP hS hl)
theorem g_strB {i : Nat} {j : Int32} (X : Cx V Γ M) (hi : i < 2) (hj : ix j (txn i) = true) (hd : decode M.2.1 pc = .ok (.baload, 1)) (kk : Go V Γ M Z (pc + 1) lv (.int ((txl i).getD (tn j) 0) :: st) σ) : Go V Γ M Z pc lv (.int j :: .ref (V.2.2.2 (i + 2)) :: st) σ := by
  intro H locs ls hP hS hl
  obtain ⟨hx, hb, hml, hown, hts, hrr, hlk, hWk⟩ := X
  exact va_tb hx hb (hWk.2.2.2.2.1.1 i hi).2.2.2 hS (ix_in hj) rfl hd (kk H locs ls hP hS hl)
theorem g_any {i : Fin 4} {v : Value} (X : Cx V Γ M) (q : Nat) (hq : lv[q]? = some ((i : Nat), v)) : True := trivial
theorem g_popV {a : Value} (X : Cx V Γ M) (hc : a.category = 1) (hd : decode M.2.1 pc = .ok (.pop, 1)) (kk : Go V Γ M Z (pc + 1) lv st σ) : Go V Γ M Z pc lv (a :: st) σ := g_pop X hc hd kk
def CvS (own : String) (index : Nat) (M' : Mi) (n : Nat) : Prop := Lk own index M' ∧ Ok2 M' n ∧ Cond.instanceMethod M'.1 ∈ lw_good ∧ Cond.selects M'.1.cls M'.1 M'.1 ∈ lw_good ∧ M'.1.cls = "java/lang/String"
theorem g_callStr {d' index n i : Nat} {M' : Mi} {av : List Value} {σ' : St} {v : Option Value} (X : Cx V Γ M) (hi : i < 2) (hC : CvS M.1.cls index M' n) (hM : Rs V d' M' (.ref (V.2.2.2 i) :: av) σ (v, σ')) (hn : av.length = n) (hR : d' + 1 ≤ Z.1.frames ∧ 8 + (M'.2.2.1 + 11) + 100 * d' ≤ Z.1.locals) (hz : Z.2.1 ≤ Z.1.cells ∧ Z.2.2.1 ≤ Z.1.slots) (st0 : List Value) (hst : st0 = av.reverse ++ .ref (V.2.2.2 i) :: st) (hW : (st.map fun v => v.category).sum ≤ 8) (hd : decode M.2.1 pc = .ok (.invokevirtual index, 3))
    (kk : Go V Γ M Z (pc + 3) lv (v.toList ++ st) σ') : Go V Γ M Z pc lv st0 σ := by
  intro H locs ls hP hS hl
  obtain ⟨hx, hb, hml, hown, hts, hrr, hlk, hWk⟩ := X
  obtain ⟨hL, ⟨o1, o2, o3, o4, o5⟩, hins, hsel, hcl⟩ := hC
  have hpar : ∀ sig, parseMethodDescriptor M'.1.desc = some sig → n = sig.parameters.length := fun sig h => by rw [h] at o5; exact (Option.some.inj o5).symm
  have hpre : PreV Γ.2.2.2.1 H M'.1.cls (V.2.2.2 i) (Pf V (.ref (V.2.2.2 i) :: av) σ) av := ⟨Pf_blind V _ σ, by rw [hcl]; exact vk_recv hWk.2.2.2.2.1 hi hS, Pf_call hP hS hWk⟩
  have hmon : 2 * (F0 Γ.2.2.2.2.1 pc ls st0).monitorRoom + (st.map fun v => v.category).sum ≤ 8 := by show 2 * 0 + _ ≤ 8; omega
  refine g_back (v := v) (σ' := σ') (rest := st) (a := (Value.ref (V.2.2.2 i) :: av).toArray) ?_ hS (fun H1 locs1 hP1 hS1 => kk H1 locs1 ls hP1 hS1 hl)
  · rcases hL with hL | ⟨host, hL⟩
    · exact va_runV ⟨hx, hb, hml, hown, hts⟩ (hM Γ.2.1) ⟨⟨rfl, rfl, hR.1, hR.2, ww_pay hts o1, List.mem_cons_self, hts _ o1, hts _ o2, ⟨o3, o4⟩, hpar, hts _ hL⟩, hts _ hins, hts _ hsel⟩ hpre rfl hn hl.1 hst hmon hd hz
    · exact va_runVN ⟨hx, hb, hml, hown, hts⟩ (hM Γ.2.1) ⟨⟨⟨rfl, rfl, hR.1, hR.2, ww_pay hts o1, List.mem_cons_self⟩, hts _ o1, hts _ o2, ⟨o3, o4⟩, hpar, va_Nw.use rfl (hWk.2.1 _ hL)⟩, hts _ hins, hts _ hsel⟩ hpre rfl hn hl.1 hst hmon hd hz
end STR
theorem k_sl_coder : CvS "java/lang/String" 335 M_J0_coder_7d493 0 := ⟨Or.inl (gt3 16 rfl rfl), ok2_J0_coder_7d493, (gt3 17 rfl rfl), (gt3 18 rfl rfl), rfl⟩
theorem k_sl_lat : CvS "java/lang/String" 492 M_J0_isLatin1_aae02 0 := ⟨Or.inl (gt3 30 rfl rfl), ok2_J0_isLatin1_aae02, (gt3 31 rfl rfl), (gt3 32 rfl rfl), rfl⟩
theorem k_ml_X6_99 : CvS RX6 99 M_J0_length_8abf5 0 := ⟨Or.inl (gt3 12 rfl rfl), ok2_J0_length_8abf5, (gt3 13 rfl rfl), (gt3 14 rfl rfl), rfl⟩
theorem k_ml_X6_108 : CvS RX6 108 M_J0_charAt_5068e 1 := ⟨Or.inl (gt3 26 rfl rfl), ok2_J0_charAt_5068e, (gt3 27 rfl rfl), (gt3 28 rfl rfl), rfl⟩
theorem k_ml_X12_148 : CvS RX12 148 M_J0_length_8abf5 0 := ⟨Or.inl (gt6 231 rfl rfl), ok2_J0_length_8abf5, (gt3 13 rfl rfl), (gt3 14 rfl rfl), rfl⟩
theorem k_ml_X12_154 : CvS RX12 154 M_J0_charAt_5068e 1 := ⟨Or.inl (gt6 232 rfl rfl), ok2_J0_charAt_5068e, (gt3 27 rfl rfl), (gt3 28 rfl rfl), rfl⟩
theorem k_sl_c1 : Cs "java/lang/String" 495 M_J1_charAt_3b067 2 := ⟨Or.inl (gt3 34 rfl rfl), ok2_J1_charAt_3b067, (gt3 35 rfl rfl)⟩
theorem k_sl_pk : Cs "java/lang/String" 1059 M_J3_checkIndex_8e157 3 := ⟨Or.inl (gt3 42 rfl rfl), ok2_J3_checkIndex_8e157, (gt3 43 rfl rfl)⟩
theorem k_sl_ck : Cs "java/lang/StringLatin1" 9 M_J0_checkIndex_df160 2 := ⟨Or.inl (gt3 37 rfl rfl), ok2_J0_checkIndex_df160, (gt3 38 rfl rfl)⟩
theorem k_sf_38 : Cond.fieldLink "java/lang/String" 38 "java/lang/String" "COMPACT_STRINGS" "Z" ∈ lw_good := (gt3 20 rfl rfl)
theorem k_sf_1053 : Cond.fieldLink "java/lang/String" 1053 "jdk/internal/util/Preconditions" "SIOOBE_FORMATTER" "Ljava/util/function/BiFunction;" ∈ lw_good := (gt3 40 rfl rfl)
theorem k_sf_9 : Cond.fieldLink "java/lang/String" 9 "java/lang/String" "value" "[B" ∈ lw_good := (gt8 200 rfl rfl)
theorem k_sf_15 : Cond.fieldLink "java/lang/String" 15 "java/lang/String" "coder" "B" ∈ lw_good := (gt8 201 rfl rfl)
set_option maxRecDepth 100000 in
theorem run_coder {V : Ev} {σ : St} {i : Nat} (hi : i < 2) : Rs V 0 M_J0_coder_7d493 [.ref (V.2.2.2 i)] σ (some (.int 0), σ) := by
  refine Rs.of (by decide +kernel) (Nat.le_of_ble_eq_true rfl) (fun Γ X => ?_)
  refine g_getsC (pc := 0) X k_sf_38 dJ0_coder_7d493_0 ?_
  refine g_if_eq (pc := 3) (tgt := 13) X dJ0_coder_7d493_3 rfl (fun c => absurd c (by decide)) (fun _ => ?_)
  refine g_aload_n (pc := 6) X 0 rfl dJ0_coder_7d493_6 ?_
  refine g_strC (pc := 7) X hi k_sf_15 dJ0_coder_7d493_7 ?_
  refine g_goto (pc := 10) (tgt := 14) X dJ0_coder_7d493_10 rfl ?_
  exact g_iret (pc := 14) X rfl (by decide +kernel) rfl dJ0_coder_7d493_14
set_option maxRecDepth 100000 in
theorem run_lat {V : Ev} {σ : St} {i : Nat} (hi : i < 2) : Rs V 0 M_J0_isLatin1_aae02 [.ref (V.2.2.2 i)] σ (some (.int 1), σ) := by
  refine Rs.of (by decide +kernel) (Nat.le_of_ble_eq_true rfl) (fun Γ X => ?_)
  refine g_getsC (pc := 0) X k_sf_38 dJ0_isLatin1_aae02_0 ?_
  refine g_if_eq (pc := 3) (tgt := 17) X dJ0_isLatin1_aae02_3 rfl (fun c => absurd c (by decide)) (fun _ => ?_)
  refine g_aload_n (pc := 6) X 0 rfl dJ0_isLatin1_aae02_6 ?_
  refine g_strC (pc := 7) X hi k_sf_15 dJ0_isLatin1_aae02_7 ?_
  refine g_if_ne (pc := 10) (tgt := 17) X dJ0_isLatin1_aae02_10 rfl (fun c => absurd rfl c) (fun _ => ?_)
  refine g_iconst (v := 1) (pc := 13) X rfl dJ0_isLatin1_aae02_13 ?_
  refine g_goto (pc := 14) (tgt := 18) X dJ0_isLatin1_aae02_14 rfl ?_
  exact g_iret (pc := 18) X rfl nz1.1 rfl dJ0_isLatin1_aae02_18
theorem txn_shr : ∀ i, i < 2 → Int32.ofNat (txn i) >>> ((0 : Int32) &&& 31) = Int32.ofNat (txn i) := by decide +kernel
set_option maxRecDepth 100000 in
theorem run_slen {V : Ev} {σ : St} {i : Nat} (hi : i < 2) : Rs V 1 M_J0_length_8abf5 [.ref (V.2.2.2 i)] σ (some (.int (Int32.ofNat (txn i))), σ) := by
  refine Rs.of (by decide +kernel) (Nat.le_of_ble_eq_true rfl) (fun Γ X => ?_)
  refine g_aload_n (pc := 0) X 0 rfl dJ0_length_8abf5_0 ?_
  refine g_strV (pc := 1) X hi k_sf_9 dJ0_length_8abf5_1 ?_
  refine g_strL (pc := 4) X hi dJ0_length_8abf5_4 ?_
  refine g_aload_n (pc := 5) X 0 rfl dJ0_length_8abf5_5 ?_
  refine g_callStr (pc := 6) X hi k_sl_coder (run_coder hi) rfl (room_ok (Nat.le_of_ble_eq_true rfl) (Nat.le_of_ble_eq_true rfl)) ⟨Nat.le_refl _, Nat.le_refl _⟩ _ rfl (Nat.le_of_ble_eq_true rfl) dJ0_length_8abf5_6 ?_
  refine g_ishr (pc := 9) X dJ0_length_8abf5_9 ?_
  refine g_nmI (txn_shr i hi).symm ?_
  exact g_iret (pc := 10) X rfl rfl rfl dJ0_length_8abf5_10
set_option maxRecDepth 100000 in
theorem run_pk {V : Ev} {σ : St} {i n : Int32} {v : Value} (hv : v.category = 1) (h0 : ¬ i < 0) (h1 : i < n) : Rs V 0 M_J3_checkIndex_8e157 [.int i, .int n, v] σ (some (.int i), σ) := by
  refine Rs.of (by decide +kernel) ?_ (fun Γ X => ?_)
  · show (lg_sl [.int i, .int n, v]).length ≤ 3
    cases v with
    | long x => cases hv
    | double x => cases hv
    | _ => exact Nat.le_of_ble_eq_true rfl
  · have e : lv_args 0 [Value.int i, Value.int n, v] = [(0, .int i), (1, .int n), (2, v)] := by
      cases v with
      | long x => cases hv
      | double x => cases hv
      | _ => rfl
    rw [e]
    refine g_iload_n (pc := 0) X 0 rfl dJ3_checkIndex_8e157_0 ?_
    refine g_if_lt (pc := 1) (tgt := 9) X dJ3_checkIndex_8e157_1 rfl (fun c => absurd c h0) (fun _ => ?_)
    refine g_iload_n (pc := 4) X 0 rfl dJ3_checkIndex_8e157_4 ?_
    refine g_iload_n (pc := 5) X 1 rfl dJ3_checkIndex_8e157_5 ?_
    refine g_icmp_lt (pc := 6) (tgt := 16) X dJ3_checkIndex_8e157_6 rfl (fun _ => ?_) (fun c => absurd h1 c)
    refine g_iload_n (pc := 16) X 0 rfl dJ3_checkIndex_8e157_16 ?_
    exact g_iret (pc := 17) X rfl rfl rfl dJ3_checkIndex_8e157_17
set_option maxRecDepth 100000 in
theorem run_ck {V : Ev} {σ : St} {i n : Int32} (h0 : ¬ i < 0) (h1 : i < n) : Rs V 1 M_J0_checkIndex_df160 [.int i, .int n] σ (none, σ) := by
  refine Rs.of (by decide +kernel) (Nat.le_of_ble_eq_true rfl) (fun Γ X => ?_)
  refine g_iload_n (pc := 0) X 0 rfl dJ0_checkIndex_df160_0 ?_
  refine g_iload_n (pc := 1) X 1 rfl dJ0_checkIndex_df160_1 ?_
  refine g_getsP (pc := 2) X k_sf_1053 dJ0_checkIndex_df160_2 (fun v hv => ?_)
  refine g_callS (pc := 5) X k_sl_pk (run_pk hv h0 h1) rfl (room_ok (Nat.le_of_ble_eq_true rfl) (Nat.le_of_ble_eq_true rfl)) ⟨Nat.le_refl _, Nat.le_refl _⟩ _ rfl (Nat.le_of_ble_eq_true rfl) dJ0_checkIndex_df160_5 ?_
  refine g_pop (pc := 8) X rfl dJ0_checkIndex_df160_8 ?_
  exact g_vret (pc := 9) X rfl rfl dJ0_checkIndex_df160_9
theorem txn_sm : ∀ i, i < 2 → txn i < 2 ^ 31 := by decide +kernel
set_option maxRecDepth 100000 in
theorem run_c1 {V : Ev} {σ : St} {i : Nat} {j : Int32} (hi : i < 2) (hj : ix j (txn i) = true) : Rs V 2 M_J1_charAt_3b067 [.ref (V.2.2.2 (i + 2)), .int j] σ (some (.int ((((txl i).getD (tn j) 0) &&& 255).toUInt32 % 65536).toInt32), σ) := by
  refine Rs.of (by decide +kernel) (Nat.le_of_ble_eq_true rfl) (fun Γ X => ?_)
  have hin := ix_in hj
  have hlt : tn j < txn i := ix_tn hj
  have hsm : txn i < 2 ^ 31 := txn_sm i hi
  obtain ⟨q, hq, rfl⟩ := vp_in_of hin hsm
  refine g_iload_n (pc := 0) X 1 rfl dJ1_charAt_3b067_0 ?_
  refine g_aload_n (pc := 1) X 0 rfl dJ1_charAt_3b067_1 ?_
  refine g_strL (pc := 2) X hi dJ1_charAt_3b067_2 ?_
  refine g_callS (pc := 3) X k_sl_ck (run_ck (nI_pos (by omega)) (nI_lt hq hsm)) rfl (room_ok (Nat.le_of_ble_eq_true rfl) (Nat.le_of_ble_eq_true rfl)) ⟨Nat.le_refl _, Nat.le_refl _⟩ _ rfl (Nat.le_of_ble_eq_true rfl) dJ1_charAt_3b067_3 ?_
  refine g_aload_n (pc := 6) X 0 rfl dJ1_charAt_3b067_6 ?_
  refine g_iload_n (pc := 7) X 1 rfl dJ1_charAt_3b067_7 ?_
  refine g_strB (pc := 8) X hi hj dJ1_charAt_3b067_8 ?_
  refine g_sipush (v := 255) (pc := 9) X (by decide) dJ1_charAt_3b067_9 ?_
  refine g_iand (pc := 12) X dJ1_charAt_3b067_12 ?_
  refine g_i2c (pc := 13) X dJ1_charAt_3b067_13 ?_
  exact g_iret (pc := 14) X rfl (pk_nc _) rfl dJ1_charAt_3b067_14
set_option maxRecDepth 100000 in
theorem run_sch {V : Ev} {σ : St} {i : Nat} {j : Int32} (hi : i < 2) (hj : ix j (txn i) = true) : Rs V 3 M_J0_charAt_5068e [.ref (V.2.2.2 i), .int j] σ (some (.int ((((txl i).getD (tn j) 0) &&& 255).toUInt32 % 65536).toInt32), σ) := by
  refine Rs.of (by decide +kernel) (Nat.le_of_ble_eq_true rfl) (fun Γ X => ?_)
  refine g_aload_n (pc := 0) X 0 rfl dJ0_charAt_5068e_0 ?_
  refine g_callStr (pc := 1) X hi k_sl_lat (run_lat hi) rfl (room_ok (Nat.le_of_ble_eq_true rfl) (Nat.le_of_ble_eq_true rfl)) ⟨Nat.le_refl _, Nat.le_refl _⟩ _ rfl (Nat.le_of_ble_eq_true rfl) dJ0_charAt_5068e_1 ?_
  refine g_if_eq (pc := 4) (tgt := 16) X dJ0_charAt_5068e_4 rfl (fun c => absurd c (by decide)) (fun _ => ?_)
  refine g_aload_n (pc := 7) X 0 rfl dJ0_charAt_5068e_7 ?_
  refine g_strV (pc := 8) X hi k_sf_9 dJ0_charAt_5068e_8 ?_
  refine g_iload_n (pc := 11) X 1 rfl dJ0_charAt_5068e_11 ?_
  refine g_callS (pc := 12) X k_sl_c1 (run_c1 hi hj) rfl (room_ok (Nat.le_of_ble_eq_true rfl) (Nat.le_of_ble_eq_true rfl)) ⟨Nat.le_refl _, Nat.le_refl _⟩ _ rfl (Nat.le_of_ble_eq_true rfl) dJ0_charAt_5068e_12 ?_
  exact g_iret (pc := 15) X rfl (pk_nc _) rfl dJ0_charAt_5068e_15
section STR2
variable {V : Ev} {Γ : Cn} {M : Mi} {Z : Zt} {pc : Nat} {lv : List (Nat × Value)} {st : List Value} {σ : St}
theorem g_slen {index i : Nat} (X : Cx V Γ M) (hi : i < 2) (hC : CvS M.1.cls index M_J0_length_8abf5 0) (hR : 1 + 1 ≤ Z.1.frames ∧ 8 + (1 + 11) + 100 * 1 ≤ Z.1.locals) (hz : Z.2.1 ≤ Z.1.cells ∧ Z.2.2.1 ≤ Z.1.slots) (hW : (st.map fun v => v.category).sum ≤ 8) (hd : decode M.2.1 pc = .ok (.invokevirtual index, 3)) (kk : Go V Γ M Z (pc + 3) lv (.int (Int32.ofNat (txn i)) :: st) σ) : Go V Γ M Z pc lv (.ref (V.2.2.2 i) :: st) σ :=
  g_callStr X hi hC (run_slen hi) rfl hR hz _ rfl hW hd kk
theorem g_sch {index i : Nat} {j : Int32} (X : Cx V Γ M) (hi : i < 2) (hC : CvS M.1.cls index M_J0_charAt_5068e 1) (hj : ix j (txn i) = true) (hR : 3 + 1 ≤ Z.1.frames ∧ 8 + (2 + 11) + 100 * 3 ≤ Z.1.locals) (hz : Z.2.1 ≤ Z.1.cells ∧ Z.2.2.1 ≤ Z.1.slots) (hW : (st.map fun v => v.category).sum ≤ 8) (hd : decode M.2.1 pc = .ok (.invokevirtual index, 3)) (kk : Go V Γ M Z (pc + 3) lv (.int (txC i (tn j)) :: st) σ) : Go V Γ M Z pc lv (.int j :: .ref (V.2.2.2 i) :: st) σ :=
  g_callStr (av := [.int j]) X hi hC (run_sch hi hj) rfl hR hz _ rfl hW hd kk
end STR2
