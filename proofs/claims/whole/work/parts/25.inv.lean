def At (a i : Nat) : Prop := (a = 0 ∧ i = 0) ∨ (51 ≤ a ∧ a ≤ 58) ∨ (a = 92 ∧ i = 2) ∨ (95 ≤ a ∧ a ≤ 97)
theorem inv_tr {σ σ2 : St} (I : Inv σ) (F : Fp At σ σ2) (h1 : σ2.1 0 0 = σ2.1 92 2) (htr : RTr σ2) : Inv σ2 := by
  obtain ⟨⟨s1, s2, s3⟩, ⟨f1, f2⟩, tr, ⟨n, n1, n2, n3, n4⟩, sy, dy, ⟨l1, l2⟩, ⟨m, m1, m2, m3, m4⟩⟩ := I
  have e : ∀ {b i : Nat}, ¬ At b i → σ2.1 b i = σ.1 b i := fun q => F.i q
  have el : ∀ {b i : Nat}, ¬ At b i → σ2.2 b i = σ.2 b i := fun q => F.l q
  refine ⟨⟨h1, ?_, ?_⟩, ⟨?_, ?_⟩, htr, ⟨n, n1, ?_, ?_, ?_⟩, ?_, ?_, ⟨?_, ?_⟩, ⟨m, m1, ?_, ?_, ?_⟩⟩
  · rw [el (by unfold At; omega), el (by unfold At; omega)]; exact s2
  · rw [el (by unfold At; omega), el (by unfold At; omega)]; exact s3
  · rw [e (by unfold At; omega), e (by unfold At; omega)]; exact f1
  · rw [e (by unfold At; omega), e (by unfold At; omega)]; exact f2
  · rw [e (by unfold At; omega)]; exact n2
  · rw [e (by unfold At; omega)]; exact n3
  · intro k hk
    rw [e (by unfold At; omega), e (by unfold At; omega)]; exact n4 k hk
  · exact sy.keep2 (F.sm (fun b i q1 q2 q => by unfold At at q; omega)) (fun i hi => e (by unfold At; omega)) (fun i hi => el (by unfold At; omega))
  · exact dy.keep2 (F.sm (fun b i q1 q2 q => by unfold At at q; omega)) (fun i hi => e (by unfold At; omega))
  · rw [e (b := 47) (by unfold At; omega), e (b := 92) (by unfold At; omega)]; exact l1
  · rw [e (b := 92) (i := 37) (by unfold At; omega), e (b := 47) (i := 3) (by unfold At; omega), e (b := 47) (i := 4) (by unfold At; omega), e (b := 47) (i := 5) (by unfold At; omega), e (b := 47) (i := 6) (by unfold At; omega), e (b := 47) (i := 7) (by unfold At; omega), e (b := 110) (i := 0) (by unfold At; omega), e (b := 110) (i := 1) (by unfold At; omega), e (b := 110) (i := 2) (by unfold At; omega), e (b := 110) (i := 3) (by unfold At; omega), e (b := 110) (i := 4) (by unfold At; omega)]
    exact l2
  · rw [e (by unfold At; omega)]; exact m2
  · rw [e (by unfold At; omega)]; exact m3
  · intro j hj
    obtain ⟨q1, q2⟩ := m4 j hj
    exact ⟨q1.keep2 (F.sm (fun b i q1 q2 q => by unfold At at q; omega)) (fun i hi => e (by unfold At; omega)) (fun i hi => el (by unfold At; omega)), q2.keep2 (F.sm (fun b i q1 q2 q => by unfold At at q; omega)) (fun i hi => e (by unfold At; omega))⟩
def Atp (a i : Nat) : Prop := (a = 2 ∧ i = 1) ∨ a = 3 ∨ (a = 92 ∧ i = 10) ∨ a = 98
theorem inv_tp {σ σ2 : St} (I : Inv σ) (F : Fp Atp σ σ2) (htp : RTp σ2) : Inv σ2 := by
  obtain ⟨⟨s1, s2, s3⟩, ⟨f1, f2⟩, tr, ⟨n, n1, n2, n3, n4⟩, sy, dy, ⟨l1, l2⟩, ⟨m, m1, m2, m3, m4⟩⟩ := I
  have e : ∀ {b i : Nat}, ¬ Atp b i → σ2.1 b i = σ.1 b i := fun q => F.i q
  have el : ∀ {b i : Nat}, ¬ Atp b i → σ2.2 b i = σ.2 b i := fun q => F.l q
  refine ⟨⟨?_, ?_, ?_⟩, ⟨?_, ?_⟩, ?_, htp, ?_, ?_, ⟨?_, ?_⟩, ⟨m, m1, ?_, ?_, ?_⟩⟩
  · rw [e (by unfold Atp; omega), e (by unfold Atp; omega)]; exact s1
  · rw [el (by unfold Atp; omega), el (by unfold Atp; omega)]; exact s2
  · rw [el (by unfold Atp; omega), el (by unfold Atp; omega)]; exact s3
  · rw [e (by unfold Atp; omega), e (by unfold Atp; omega)]; exact f1
  · rw [e (by unfold Atp; omega), e (by unfold Atp; omega)]; exact f2
  · exact tr.keep (F.sm (fun b i q1 q2 q => by unfold Atp at q; omega)) (F.sm (fun b i q1 q2 q => by unfold Atp at q; omega))
  · exact sy.keep2 (F.sm (fun b i q1 q2 q => by unfold Atp at q; omega)) (fun i hi => e (by unfold Atp; omega)) (fun i hi => el (by unfold Atp; omega))
  · exact dy.keep2 (F.sm (fun b i q1 q2 q => by unfold Atp at q; omega)) (fun i hi => e (by unfold Atp; omega))
  · rw [e (b := 47) (by unfold Atp; omega), e (b := 92) (by unfold Atp; omega)]; exact l1
  · rw [e (b := 92) (i := 37) (by unfold Atp; omega), e (b := 47) (i := 3) (by unfold Atp; omega), e (b := 47) (i := 4) (by unfold Atp; omega), e (b := 47) (i := 5) (by unfold Atp; omega), e (b := 47) (i := 6) (by unfold Atp; omega), e (b := 47) (i := 7) (by unfold Atp; omega), e (b := 110) (i := 0) (by unfold Atp; omega), e (b := 110) (i := 1) (by unfold Atp; omega), e (b := 110) (i := 2) (by unfold Atp; omega), e (b := 110) (i := 3) (by unfold Atp; omega), e (b := 110) (i := 4) (by unfold Atp; omega)]
    exact l2
  · rw [e (by unfold Atp; omega)]; exact m2
  · rw [e (by unfold Atp; omega)]; exact m3
  · intro j hj
    obtain ⟨q1, q2⟩ := m4 j hj
    exact ⟨q1.keep2 (F.sm (fun b i q1 q2 q => by unfold Atp at q; omega)) (fun i hi => e (by unfold Atp; omega)) (fun i hi => el (by unfold Atp; omega)), q2.keep2 (F.sm (fun b i q1 q2 q => by unfold Atp at q; omega)) (fun i hi => e (by unfold Atp; omega))⟩
def Amk (a i : Nat) : Prop := (a = 0 ∧ (i = 0 ∨ i = 11)) ∨ (59 ≤ a ∧ a ≤ 91) ∨ (a = 92 ∧ (i = 2 ∨ i = 38)) ∨ (a = 93 ∧ 404 ≤ i) ∨ (a = 94 ∧ 12 ≤ i)
theorem inv_mk {σ σ2 : St} (I : Inv σ) (F : Fp Amk σ σ2) (h1 : σ2.1 0 0 = σ2.1 92 2) (hmk : RMk σ2) : Inv σ2 := by
  obtain ⟨⟨s1, s2, s3⟩, ⟨f1, f2⟩, tr, ⟨n, n1, n2, n3, n4⟩, sy, dy, ⟨l1, l2⟩, ⟨m, m1, m2, m3, m4⟩⟩ := I
  have e : ∀ {b i : Nat}, ¬ Amk b i → σ2.1 b i = σ.1 b i := fun q => F.i q
  have el : ∀ {b i : Nat}, ¬ Amk b i → σ2.2 b i = σ.2 b i := fun q => F.l q
  refine ⟨⟨h1, ?_, ?_⟩, ⟨?_, ?_⟩, ?_, ⟨n, n1, ?_, ?_, ?_⟩, ?_, ?_, ⟨?_, ?_⟩, hmk⟩
  · rw [el (by unfold Amk; omega), el (by unfold Amk; omega)]; exact s2
  · rw [el (by unfold Amk; omega), el (by unfold Amk; omega)]; exact s3
  · rw [e (by unfold Amk; omega), e (by unfold Amk; omega)]; exact f1
  · rw [e (by unfold Amk; omega), e (by unfold Amk; omega)]; exact f2
  · exact tr.keep (F.sm (fun b i q1 q2 q => by unfold Amk at q; omega)) (F.sm (fun b i q1 q2 q => by unfold Amk at q; omega))
  · rw [e (by unfold Amk; omega)]; exact n2
  · rw [e (by unfold Amk; omega)]; exact n3
  · intro k hk
    rw [e (by unfold Amk; omega), e (by unfold Amk; omega)]; exact n4 k hk
  · exact sy.keep2 (F.sm (fun b i q1 q2 q => by unfold Amk at q; omega)) (fun i hi => e (by unfold Amk; omega)) (fun i hi => el (by unfold Amk; omega))
  · exact dy.keep2 (F.sm (fun b i q1 q2 q => by unfold Amk at q; omega)) (fun i hi => e (by unfold Amk; omega))
  · rw [e (b := 47) (by unfold Amk; omega), e (b := 92) (by unfold Amk; omega)]; exact l1
  · rw [e (b := 92) (i := 37) (by unfold Amk; omega), e (b := 47) (i := 3) (by unfold Amk; omega), e (b := 47) (i := 4) (by unfold Amk; omega), e (b := 47) (i := 5) (by unfold Amk; omega), e (b := 47) (i := 6) (by unfold Amk; omega), e (b := 47) (i := 7) (by unfold Amk; omega), e (b := 110) (i := 0) (by unfold Amk; omega), e (b := 110) (i := 1) (by unfold Amk; omega), e (b := 110) (i := 2) (by unfold Amk; omega), e (b := 110) (i := 3) (by unfold Amk; omega), e (b := 110) (i := 4) (by unfold Amk; omega)]
    exact l2
def Aun (a i : Nat) : Prop := (a = 0 ∧ (i = 0 ∨ i = 11)) ∨ (7 ≤ a ∧ a ≤ 10) ∨ (15 ≤ a ∧ a ≤ 21) ∨ (a = 92 ∧ (i = 2 ∨ i = 38)) ∨ (a = 93 ∧ i < 404) ∨ (a = 94 ∧ i < 12)
theorem inv_un {σ σ2 : St} (I : Inv σ) (F : Fp Aun σ σ2) (h1 : σ2.1 0 0 = σ2.1 92 2) (hsy : RSy σ2 7 0 0) (hdy : RDy σ2 15 0) (hmk : RMk σ2) : Inv σ2 := by
  obtain ⟨⟨s1, s2, s3⟩, ⟨f1, f2⟩, tr, ⟨n, n1, n2, n3, n4⟩, sy, dy, ⟨l1, l2⟩, ⟨m, m1, m2, m3, m4⟩⟩ := I
  have e : ∀ {b i : Nat}, ¬ Aun b i → σ2.1 b i = σ.1 b i := fun q => F.i q
  have el : ∀ {b i : Nat}, ¬ Aun b i → σ2.2 b i = σ.2 b i := fun q => F.l q
  refine ⟨⟨h1, ?_, ?_⟩, ⟨?_, ?_⟩, ?_, ⟨n, n1, ?_, ?_, ?_⟩, hsy, hdy, ⟨?_, ?_⟩, hmk⟩
  · rw [el (by unfold Aun; omega), el (by unfold Aun; omega)]; exact s2
  · rw [el (by unfold Aun; omega), el (by unfold Aun; omega)]; exact s3
  · rw [e (by unfold Aun; omega), e (by unfold Aun; omega)]; exact f1
  · rw [e (by unfold Aun; omega), e (by unfold Aun; omega)]; exact f2
  · exact tr.keep (F.sm (fun b i q1 q2 q => by unfold Aun at q; omega)) (F.sm (fun b i q1 q2 q => by unfold Aun at q; omega))
  · rw [e (by unfold Aun; omega)]; exact n2
  · rw [e (by unfold Aun; omega)]; exact n3
  · intro k hk
    rw [e (by unfold Aun; omega), e (by unfold Aun; omega)]; exact n4 k hk
  · rw [e (b := 47) (by unfold Aun; omega), e (b := 92) (by unfold Aun; omega)]; exact l1
  · rw [e (b := 92) (i := 37) (by unfold Aun; omega), e (b := 47) (i := 3) (by unfold Aun; omega), e (b := 47) (i := 4) (by unfold Aun; omega), e (b := 47) (i := 5) (by unfold Aun; omega), e (b := 47) (i := 6) (by unfold Aun; omega), e (b := 47) (i := 7) (by unfold Aun; omega), e (b := 110) (i := 0) (by unfold Aun; omega), e (b := 110) (i := 1) (by unfold Aun; omega), e (b := 110) (i := 2) (by unfold Aun; omega), e (b := 110) (i := 3) (by unfold Aun; omega), e (b := 110) (i := 4) (by unfold Aun; omega)]
    exact l2
def Ard (a i : Nat) : Prop := (a = 0 ∧ i = 0) ∨ (2 ≤ a ∧ a ≤ 46) ∨ (a = 92 ∧ (i = 2 ∨ (10 ≤ i ∧ i ≤ 36))) ∨ (98 ≤ a ∧ a ≤ 109) ∨ (a = 93 ∧ (i < 404 ∨ 1616 ≤ i)) ∨ (a = 94 ∧ (i < 12 ∨ 48 ≤ i))
theorem inv_rd {σ σ2 : St} (I : Inv σ) (F : Fp Ard σ σ2) (h1 : σ2.1 0 0 = σ2.1 92 2) (hfl : σ2.1 2 9 = σ2.1 92 16 ∧ σ2.1 2 10 = σ2.1 92 17) (htp : RTp σ2) (hsy : RSy σ2 7 0 0) (hdy : RDy σ2 15 0) : Inv σ2 := by
  obtain ⟨⟨s1, s2, s3⟩, ⟨f1, f2⟩, tr, ⟨n, n1, n2, n3, n4⟩, sy, dy, ⟨l1, l2⟩, ⟨m, m1, m2, m3, m4⟩⟩ := I
  have e : ∀ {b i : Nat}, ¬ Ard b i → σ2.1 b i = σ.1 b i := fun q => F.i q
  have el : ∀ {b i : Nat}, ¬ Ard b i → σ2.2 b i = σ.2 b i := fun q => F.l q
  refine ⟨⟨h1, ?_, ?_⟩, hfl, ?_, htp, hsy, hdy, ⟨?_, ?_⟩, ⟨m, m1, ?_, ?_, ?_⟩⟩
  · rw [el (by unfold Ard; omega), el (by unfold Ard; omega)]; exact s2
  · rw [el (by unfold Ard; omega), el (by unfold Ard; omega)]; exact s3
  · exact tr.keep (F.sm (fun b i q1 q2 q => by unfold Ard at q; omega)) (F.sm (fun b i q1 q2 q => by unfold Ard at q; omega))
  · rw [e (b := 47) (by unfold Ard; omega), e (b := 92) (by unfold Ard; omega)]; exact l1
  · rw [e (b := 92) (i := 37) (by unfold Ard; omega), e (b := 47) (i := 3) (by unfold Ard; omega), e (b := 47) (i := 4) (by unfold Ard; omega), e (b := 47) (i := 5) (by unfold Ard; omega), e (b := 47) (i := 6) (by unfold Ard; omega), e (b := 47) (i := 7) (by unfold Ard; omega), e (b := 110) (i := 0) (by unfold Ard; omega), e (b := 110) (i := 1) (by unfold Ard; omega), e (b := 110) (i := 2) (by unfold Ard; omega), e (b := 110) (i := 3) (by unfold Ard; omega), e (b := 110) (i := 4) (by unfold Ard; omega)]
    exact l2
  · rw [e (by unfold Ard; omega)]; exact m2
  · rw [e (by unfold Ard; omega)]; exact m3
  · intro j hj
    obtain ⟨q1, q2⟩ := m4 j hj
    exact ⟨q1.keep2 (F.sm (fun b i q1 q2 q => by unfold Ard at q; omega)) (fun i hi => e (by unfold Ard; omega)) (fun i hi => el (by unfold Ard; omega)), q2.keep2 (F.sm (fun b i q1 q2 q => by unfold Ard at q; omega)) (fun i hi => e (by unfold Ard; omega))⟩
def Alv (a i : Nat) : Prop := (a = 0 ∧ i = 0) ∨ (7 ≤ a ∧ a ≤ 14) ∨ (31 ≤ a ∧ a ≤ 34) ∨ (47 ≤ a ∧ a ≤ 48) ∨ (a = 92 ∧ (i = 2 ∨ (20 ≤ i ∧ i ≤ 37))) ∨ (100 ≤ a ∧ a ≤ 110) ∨ (a = 93 ∧ (i < 2 ∨ (4 ≤ i ∧ i < 40))) ∨ (a = 94 ∧ i < 12)
theorem inv_lv {σ σ2 : St} (I : Inv σ) (F : Fp Alv σ σ2) (h1 : σ2.1 0 0 = σ2.1 92 2) (hsy : RSy σ2 7 0 0) (hlf : RLf σ2) : Inv σ2 := by
  obtain ⟨⟨s1, s2, s3⟩, ⟨f1, f2⟩, tr, ⟨n, n1, n2, n3, n4⟩, sy, dy, ⟨l1, l2⟩, ⟨m, m1, m2, m3, m4⟩⟩ := I
  have e : ∀ {b i : Nat}, ¬ Alv b i → σ2.1 b i = σ.1 b i := fun q => F.i q
  have el : ∀ {b i : Nat}, ¬ Alv b i → σ2.2 b i = σ.2 b i := fun q => F.l q
  refine ⟨⟨h1, ?_, ?_⟩, ⟨?_, ?_⟩, ?_, ⟨n, n1, ?_, ?_, ?_⟩, hsy, ?_, hlf, ⟨m, m1, ?_, ?_, ?_⟩⟩
  · rw [el (by unfold Alv; omega), el (by unfold Alv; omega)]; exact s2
  · rw [el (by unfold Alv; omega), el (by unfold Alv; omega)]; exact s3
  · rw [e (by unfold Alv; omega), e (by unfold Alv; omega)]; exact f1
  · rw [e (by unfold Alv; omega), e (by unfold Alv; omega)]; exact f2
  · exact tr.keep (F.sm (fun b i q1 q2 q => by unfold Alv at q; omega)) (F.sm (fun b i q1 q2 q => by unfold Alv at q; omega))
  · rw [e (by unfold Alv; omega)]; exact n2
  · rw [e (by unfold Alv; omega)]; exact n3
  · intro k hk
    rw [e (by unfold Alv; omega), e (by unfold Alv; omega)]; exact n4 k hk
  · exact dy.keep2 (F.sm (fun b i q1 q2 q => by unfold Alv at q; omega)) (fun i hi => e (by unfold Alv; omega))
  · rw [e (by unfold Alv; omega)]; exact m2
  · rw [e (by unfold Alv; omega)]; exact m3
  · intro j hj
    obtain ⟨q1, q2⟩ := m4 j hj
    exact ⟨q1.keep2 (F.sm (fun b i q1 q2 q => by unfold Alv at q; omega)) (fun i hi => e (by unfold Alv; omega)) (fun i hi => el (by unfold Alv; omega)), q2.keep2 (F.sm (fun b i q1 q2 q => by unfold Alv at q; omega)) (fun i hi => e (by unfold Alv; omega))⟩
