/-! THE INVARIANT: what class (cells below 92) and reference (cells from 92 on) hold in common, part by part -/
def Sm (lo hi : Nat) (σ σ2 : St) : Prop := ∀ b i, lo ≤ b → b ≤ hi → σ2.1 b i = σ.1 b i ∧ σ2.2 b i = σ.2 b i
theorem Sm.i {lo hi : Nat} {σ σ2 : St} (h : Sm lo hi σ σ2) {b : Nat} (h1 : lo ≤ b) (h2 : b ≤ hi) (i : Nat) : σ2.1 b i = σ.1 b i := (h b i h1 h2).1
theorem Sm.l {lo hi : Nat} {σ σ2 : St} (h : Sm lo hi σ σ2) {b : Nat} (h1 : lo ≤ b) (h2 : b ≤ hi) (i : Nat) : σ2.2 b i = σ.2 b i := (h b i h1 h2).2
theorem Fp.sm {A : Nat → Nat → Prop} {σ σ2 : St} (h : Fp A σ σ2) {lo hi : Nat} (hA : ∀ b i, lo ≤ b → b ≤ hi → ¬ A b i) : Sm lo hi σ σ2 := fun b i h1 h2 => h b i (hA b i h1 h2)
theorem Fp.mono {A B : Nat → Nat → Prop} {σ σ2 : St} (h : Fp A σ σ2) (hAB : ∀ b i, A b i → B b i) : Fp B σ σ2 := fun b i hb => h b i (fun q => hb (hAB b i q))
theorem Fp.tr {A : Nat → Nat → Prop} {σ σ1 σ2 : St} (h : Fp A σ σ1) (h2 : Fp A σ1 σ2) : Fp A σ σ2 := fun b i hb => ⟨(h2 b i hb).1.trans (h b i hb).1, (h2 b i hb).2.trans (h b i hb).2⟩
theorem CV.keep {σ σ2 : St} {a c od on : Nat} {rs md nm : Nat → Nat} (h : CV σ a c od on rs md nm) (s : Sm a (a + 3) σ σ2) : CV σ2 a c od on rs md nm := by
  obtain ⟨h1, h2, h3, h4, h5, h6⟩ := h
  refine ⟨?_, ?_, ?_, fun k hk => ?_, fun k hk => ?_, fun k hk => ?_⟩
  · rw [s.i (by omega) (by omega)]; exact h1
  · rw [s.i (by omega) (by omega)]; exact h2
  · rw [s.i (by omega) (by omega)]; exact h3
  · rw [s.i (by omega) (by omega)]; exact h4 k hk
  · rw [s.i (by omega) (by omega)]; exact h5 k hk
  · rw [s.l (by omega) (by omega)]; exact h6 k hk
theorem MV.keep {σ σ2 : St} {o q c od on : Nat} {rs md nm : Nat → Nat} (h : MV σ o q c od on rs md nm) (s : Sm 93 94 σ σ2) : MV σ2 o q c od on rs md nm := by
  obtain ⟨h1, h2, h3, h4, h5, h6⟩ := h
  refine ⟨?_, ?_, fun k hk => ?_, fun k hk => ?_, fun k hk => ?_, fun k hk => ?_⟩
  · rw [s.i (by omega) (by omega)]; exact h1
  · rw [s.i (by omega) (by omega)]; exact h2
  · rw [s.i (by omega) (by omega)]; exact h3 k hk
  · rw [s.i (by omega) (by omega)]; exact h4 k hk
  · rw [s.i (by omega) (by omega)]; exact h5 k hk
  · rw [s.l (by omega) (by omega)]; exact h6 k hk
/-- the system: the class's at a, the reference's in the slot o, names from q on -/
def RSy (σ : St) (a o q : Nat) : Prop := ∃ (c od on : Nat) (rs md nm : Nat → Nat), CV σ a c od on rs md nm ∧ MV σ o q c od on rs md nm ∧ WF c od on rs md nm
theorem RSy.keep {σ σ2 : St} {a o q : Nat} (h : RSy σ a o q) (s : Sm a (a + 3) σ σ2) (t : Sm 93 94 σ σ2) : RSy σ2 a o q := by
  obtain ⟨c, od, on, rs, md, nm, h1, h2, h3⟩ := h
  exact ⟨c, od, on, rs, md, nm, h1.keep s, h2.keep t, h3⟩
/-! days: n entries, kind (14 off, 15 on, 16 shift, 17 split, 18 any, 19 when, 23 loop, 24 end, 25 stop), test (15 on, 20 covered, 21 caught, 22 gaps), sign (6 7 8), who, number, partner -/
def wantsW (kd te : Nat) : Prop := kd = 14 ∨ kd = 15 ∨ kd = 17 ∨ (kd = 19 ∧ te = 15)
def wantsN (kd te : Nat) : Prop := kd = 16 ∨ kd = 17 ∨ kd = 23 ∨ (kd = 19 ∧ (te = 21 ∨ te = 22))
def wantsP (kd : Nat) : Prop := kd = 19 ∨ kd = 23 ∨ kd = 24
def DVc (σ : St) (a n : Nat) (kd te sg wh nu pa : Nat → Nat) : Prop := σ.1 a 8 = 1 ∧ σ.1 a 6 = nI n ∧ ∀ k, k < n → σ.1 (a + 1) k = nI (kd k) ∧ (kd k = 19 → σ.1 (a + 2) k = nI (te k)) ∧ (kd k = 19 → te k = 22 → σ.1 (a + 3) k = nI (sg k)) ∧ (wantsW (kd k) (te k) → σ.1 (a + 4) k = nI (wh k)) ∧ (wantsN (kd k) (te k) → σ.1 (a + 5) k = nI (nu k)) ∧ (wantsP (kd k) → σ.1 (a + 6) k = nI (pa k))
def sgM (s : Nat) : Nat := if s = 6 then 60 else if s = 7 then 62 else 61
def DVm (σ : St) (o n : Nat) (kd te sg wh nu pa : Nat → Nat) : Prop := σ.1 93 (o + 2) = nI n ∧ ∀ k, k < n → σ.1 93 (o + (40 + 6 * k)) = nI (if kd k = 19 then 890 + te k else kd k - 10) ∧ (kd k = 19 → te k = 22 → σ.1 93 (o + (45 + 6 * k)) = nI (sgM (sg k))) ∧ (wantsW (kd k) (te k) → σ.1 93 (o + (41 + 6 * k)) = nI (wh k)) ∧ (wantsN (kd k) (te k) → σ.1 93 (o + (42 + 6 * k)) = nI (nu k)) ∧ (wantsP (kd k) → σ.1 93 (o + (44 + 6 * k)) = nI (pa k))
def WD (n : Nat) (kd te sg wh nu pa : Nat → Nat) : Prop := n ≤ 60 ∧ ∀ k, k < n → (kd k = 14 ∨ kd k = 15 ∨ kd k = 16 ∨ kd k = 17 ∨ kd k = 18 ∨ kd k = 19 ∨ kd k = 23 ∨ kd k = 24 ∨ kd k = 25) ∧ (kd k = 19 → te k = 15 ∨ te k = 20 ∨ te k = 21 ∨ te k = 22) ∧ (kd k = 19 → te k = 22 → sg k = 6 ∨ sg k = 7 ∨ sg k = 8) ∧ wh k < 12 ∧ nu k ≤ 9999 ∧ (kd k = 16 → nu k ≤ 59) ∧ (kd k = 17 → 2 ≤ nu k ∧ nu k ≤ 7) ∧ (kd k = 23 → 1 ≤ nu k ∧ nu k ≤ 99) ∧ (kd k = 19 ∨ kd k = 23 → k < pa k ∧ pa k < n ∧ kd (pa k) = 24 ∧ pa (pa k) = k) ∧ (kd k = 24 → pa k < k ∧ (kd (pa k) = 19 ∨ kd (pa k) = 23) ∧ pa (pa k) = k ∧ ∀ j, pa k < j → j < k → wantsP (kd j) → pa k < pa j ∧ pa j < k)
def RDy (σ : St) (a o : Nat) : Prop := (σ.1 a 8 = 0 ∧ σ.1 93 (o + 2) = -1) ∨ ∃ (n : Nat) (kd te sg wh nu pa : Nat → Nat), DVc σ a n kd te sg wh nu pa ∧ DVm σ o n kd te sg wh nu pa ∧ WD n kd te sg wh nu pa
theorem DVc.keep {σ σ2 : St} {a n : Nat} {kd te sg wh nu pa : Nat → Nat} (h : DVc σ a n kd te sg wh nu pa) (s : Sm a (a + 6) σ σ2) : DVc σ2 a n kd te sg wh nu pa := by
  refine ⟨?_, ?_, fun k hk => ?_⟩
  · rw [s.i (by omega) (by omega)]; exact h.1
  · rw [s.i (by omega) (by omega)]; exact h.2.1
  · rw [s.i (b := a + 1) (by omega) (by omega), s.i (b := a + 2) (by omega) (by omega), s.i (b := a + 3) (by omega) (by omega), s.i (b := a + 4) (by omega) (by omega), s.i (b := a + 5) (by omega) (by omega), s.i (b := a + 6) (by omega) (by omega)]; exact h.2.2 k hk
theorem DVm.keep {σ σ2 : St} {o n : Nat} {kd te sg wh nu pa : Nat → Nat} (h : DVm σ o n kd te sg wh nu pa) (s : ∀ i, σ2.1 93 (o + i) = σ.1 93 (o + i)) : DVm σ2 o n kd te sg wh nu pa := by
  refine ⟨?_, fun k hk => ?_⟩
  · rw [s]; exact h.1
  · rw [s, s, s, s, s]; exact h.2 k hk
theorem RDy.keep {σ σ2 : St} {a o : Nat} (h : RDy σ a o) (s : Sm a (a + 6) σ σ2) (t : Sm 93 94 σ σ2) : RDy σ2 a o := by
  rcases h with h | ⟨n, kd, te, sg, wh, nu, pa, h1, h2, h3⟩
  · left
    rw [s.i (by omega) (by omega), t.i (by omega) (by omega)]
    exact h
  · exact Or.inr ⟨n, kd, te, sg, wh, nu, pa, h1.keep s, h2.keep (fun i => t.i (by omega) (by omega) _), h3⟩
/-- trays -/
def RTr (σ : St) : Prop := ∀ t, t < 4 → σ.1 (51 + 2 * t) 1 = σ.1 95 t ∧ σ.1 (51 + 2 * t) 2 = σ.1 96 t ∧ (σ.1 96 t = -1 ∨ ∃ n, n ≤ 60 ∧ σ.1 96 t = nI n ∧ ∀ k, k < n → σ.2 (52 + 2 * t) k = σ.2 97 (60 * t + k))
theorem RTr.keep {σ σ2 : St} (h : RTr σ) (s : Sm 51 58 σ σ2) (t : Sm 95 97 σ σ2) : RTr σ2 := by
  intro x hx
  obtain ⟨h1, h2, h3⟩ := h x hx
  rw [s.i (b := 51 + 2 * x) (by omega) (by omega) 1, s.i (b := 51 + 2 * x) (by omega) (by omega) 2, t.i (b := 95) (by omega) (by omega), t.i (b := 96) (by omega) (by omega)]
  refine ⟨h1, h2, ?_⟩
  rcases h3 with h3 | ⟨n, hn, h4, h5⟩
  · exact Or.inl h3
  · refine Or.inr ⟨n, hn, h4, fun k hk => ?_⟩
    rw [s.l (by omega) (by omega), t.l (by omega) (by omega)]
    exact h5 k hk
/-- the tape -/
def RTp (σ : St) : Prop := ∃ n, n ≤ 900 ∧ σ.1 2 1 = nI n ∧ σ.1 92 10 = nI n ∧ ∀ k, k < n → σ.1 3 k = σ.1 98 k
/-- the last life -/
def RLf (σ : St) : Prop := σ.1 47 1 = σ.1 92 37 ∧ (¬ σ.1 92 37 = 0 → σ.1 47 3 = σ.1 110 0 ∧ σ.1 47 4 = σ.1 110 1 ∧ σ.1 47 5 = σ.1 110 2 ∧ σ.1 47 6 = σ.1 110 3 ∧ (if σ.1 47 7 = 0 then (0 : Int32) else 1) = σ.1 110 4)
/-- marks -/
def RMk (σ : St) : Prop := ∃ m, m ≤ 3 ∧ σ.1 0 11 = nI m ∧ σ.1 92 38 = nI m ∧ ∀ i, i < m → RSy σ (59 + 11 * i) (404 * (i + 1)) (12 * (i + 1)) ∧ RDy σ (63 + 11 * i) (404 * (i + 1))
def Inv (σ : St) : Prop := (σ.1 0 0 = σ.1 92 2 ∧ σ.2 0 1 = σ.2 92 3 ∧ σ.2 0 2 = σ.2 92 4) ∧ (σ.1 2 9 = σ.1 92 16 ∧ σ.1 2 10 = σ.1 92 17) ∧ RTr σ ∧ RTp σ ∧ RSy σ 7 0 0 ∧ RDy σ 15 0 ∧ RLf σ ∧ RMk σ
/-- cells that a call may change that only answers -/
def Aq (a i : Nat) : Prop := (a = 0 ∧ i < 3) ∨ (11 ≤ a ∧ a ≤ 14) ∨ (22 ≤ a ∧ a ≤ 46) ∨ a = 49 ∨ a = 50 ∨ (a = 92 ∧ (i = 2 ∨ i = 3 ∨ i = 4 ∨ (20 ≤ i ∧ i ≤ 36))) ∨ (100 ≤ a ∧ a ≤ 109)
theorem inv_q {σ σ2 : St} (I : Inv σ) (F : Fp Aq σ σ2) (h1 : σ2.1 0 0 = σ2.1 92 2) (h2 : σ2.2 0 1 = σ2.2 92 3) (h3 : σ2.2 0 2 = σ2.2 92 4) : Inv σ2 := by
  obtain ⟨_, ⟨f1, f2⟩, tr, ⟨n, n1, n2, n3, n4⟩, sy, dy, ⟨l1, l2⟩, ⟨m, m1, m2, m3, m4⟩⟩ := I
  have t : Sm 93 99 σ σ2 := F.sm (fun b i q1 q2 q => by unfold Aq at q; omega)
  have t2 : Sm 93 94 σ σ2 := fun b i q1 q2 => t b i q1 (by omega)
  have e : ∀ {b i : Nat}, ¬ Aq b i → σ2.1 b i = σ.1 b i := fun q => F.i q
  refine ⟨⟨h1, h2, h3⟩, ⟨?_, ?_⟩, ?_, ⟨n, n1, ?_, ?_, ?_⟩, ?_, ?_, ⟨?_, ?_⟩, ⟨m, m1, ?_, ?_, ?_⟩⟩
  · rw [e (by unfold Aq; omega), e (by unfold Aq; omega)]; exact f1
  · rw [e (by unfold Aq; omega), e (by unfold Aq; omega)]; exact f2
  · exact tr.keep (F.sm (fun b i q1 q2 q => by unfold Aq at q; omega)) (fun b i q1 q2 => t b i (by omega) (by omega))
  · rw [e (by unfold Aq; omega)]; exact n2
  · rw [e (by unfold Aq; omega)]; exact n3
  · intro k hk
    rw [e (by unfold Aq; omega), e (by unfold Aq; omega)]; exact n4 k hk
  · exact sy.keep (F.sm (fun b i q1 q2 q => by unfold Aq at q; omega)) t2
  · exact dy.keep (F.sm (fun b i q1 q2 q => by unfold Aq at q; omega)) t2
  · rw [e (b := 47) (by unfold Aq; omega), e (b := 92) (by unfold Aq; omega)]; exact l1
  · rw [e (b := 92) (i := 37) (by unfold Aq; omega), e (b := 47) (i := 3) (by unfold Aq; omega), e (b := 47) (i := 4) (by unfold Aq; omega), e (b := 47) (i := 5) (by unfold Aq; omega), e (b := 47) (i := 6) (by unfold Aq; omega), e (b := 47) (i := 7) (by unfold Aq; omega), e (b := 110) (i := 0) (by unfold Aq; omega), e (b := 110) (i := 1) (by unfold Aq; omega), e (b := 110) (i := 2) (by unfold Aq; omega), e (b := 110) (i := 3) (by unfold Aq; omega), e (b := 110) (i := 4) (by unfold Aq; omega)]
    exact l2
  · rw [e (by unfold Aq; omega)]; exact m2
  · rw [e (by unfold Aq; omega)]; exact m3
  · intro i hi
    obtain ⟨q1, q2⟩ := m4 i hi
    exact ⟨q1.keep (F.sm (fun b i q1 q2 q => by unfold Aq at q; omega)) t2, q2.keep (F.sm (fun b i q1 q2 q => by unfold Aq at q; omega)) t2⟩
/-- what a call must give -/
def Call {α : Type} (f g : St → Option (α × St)) (σ : St) : Prop := ∃ r σ1 σ2, f σ = some (r, σ1) ∧ g σ1 = some (r, σ2) ∧ Inv σ2
