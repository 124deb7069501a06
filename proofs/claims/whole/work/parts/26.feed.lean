/-! feed -/
def shf (i : Nat) : Int32 := if i = 0 then 24 else if i = 1 then 16 else if i = 2 then 8 else if i = 3 then 0 else -8
def byt (p : Int32) (i : Nat) : Int32 := vp_nar .byte ((p >>> (shf i &&& 31)).toInt8.toInt32)
def Wf (a q r : Nat) (p : Int32) (n : Nat) (τ : St) : Nat → St := fun i => Nat.rec (motive := fun _ => St) τ (fun i s => wI (wI s r (n + i) (byt p i)) a q (nI (n + i + 1))) i
theorem Wf_s (a q r : Nat) (p : Int32) (n : Nat) (τ : St) (i : Nat) : Wf a q r p n τ (i + 1) = wI (wI (Wf a q r p n τ i) r (n + i) (byt p i)) a q (nI (n + i + 1)) := rfl
theorem Wf_c {a q r : Nat} {p : Int32} {n : Nat} {τ : St} (h : τ.1 a q = nI n) : ∀ i, (Wf a q r p n τ i).1 a q = nI (n + i)
  | 0 => h
  | i + 1 => by rw [Wf_s, wI_s, Nat.add_assoc]
theorem Wf_old {a q r : Nat} {p : Int32} {n : Nat} {τ : St} (har : ¬ a = r) : ∀ i {k : Nat}, k < n → (Wf a q r p n τ i).1 r k = τ.1 r k
  | 0, _, _ => rfl
  | i + 1, k, hk => by rw [Wf_s, wI_ne (by omega), wI_ne (by omega)]; exact Wf_old har i hk
theorem Wf_new {a q r : Nat} {p : Int32} {n : Nat} {τ : St} (har : ¬ a = r) : ∀ i {k : Nat}, k < i → (Wf a q r p n τ i).1 r (n + k) = byt p k
  | 0, _, h => by omega
  | i + 1, k, hk => by
    rw [Wf_s, wI_ne (by omega)]
    by_cases e : k = i
    · rw [e, wI_s]
    · rw [wI_ne (by omega)]; exact Wf_new har i (by omega)
theorem append_f {σ : St} {n : Nat} (h : σ.1 2 1 = nI n) (hn : n + 4 ≤ 900) (p : Int32) : Re_append σ p = some (Wf 2 1 3 p n σ 4) := by
  unfold Re_append
  have key := iter_for (body := fun s : (Int32 × St) => Re_append_L3 p s.2 s.1) (fun i => (shf i, Wf 2 1 3 p n σ i)) (lo := 0) (hi := 4) (n := FUEL) (e := Wf 2 1 3 p n σ 4) (Nat.zero_le _) (fuel (by omega)) ?_ ?_
  · exact congrArg (fun o => bd o (fun v => some v)) key
  · intro i _ hi
    show Re_append_L3 p (Wf 2 1 3 p n σ i) (shf i) = some (.inl (shf (i + 1), Wf 2 1 3 p n σ (i + 1)))
    have h1 : ¬ shf i < 0 := by rcases (show i = 0 ∨ i = 1 ∨ i = 2 ∨ i = 3 by omega) with rfl | rfl | rfl | rfl <;> decide
    have h2 : shf i + (-8) = shf (i + 1) := by rcases (show i = 0 ∨ i = 1 ∨ i = 2 ∨ i = 3 by omega) with rfl | rfl | rfl | rfl <;> decide
    unfold Re_append_L3
    rw [if_neg h1, Wf_c h, if_neg (by rw [show (900 : Int32) = nI 900 from rfl, le_nI (by omega) (by omega)]; omega), ix_nI (by omega) (by omega), chk_true, tn_nI (by omega), bnd_x, wI_ne (by omega), Wf_c h, nI_1, bnd_x, bnd_x, h2, Wf_s]
    rfl
  · show Re_append_L3 p (Wf 2 1 3 p n σ 4) (shf 4) = _
    unfold Re_append_L3
    rw [if_pos (by decide)]
theorem four_f {σ : St} {n : Nat} (h : σ.1 92 10 = nI n) (hn : n + 4 ≤ 900) (p : Int32) : Mo_four σ p = some (Wf 92 10 98 p n σ 4) := by
  unfold Mo_four
  have key := iter_for (body := fun s : (Int32 × St) => Mo_four_L3 p s.2 s.1) (fun i => (shf i, Wf 92 10 98 p n σ i)) (lo := 0) (hi := 4) (n := FUEL) (e := Wf 92 10 98 p n σ 4) (Nat.zero_le _) (fuel (by omega)) ?_ ?_
  · exact congrArg (fun o => bd o (fun v => some v)) key
  · intro i _ hi
    show Mo_four_L3 p (Wf 92 10 98 p n σ i) (shf i) = some (.inl (shf (i + 1), Wf 92 10 98 p n σ (i + 1)))
    have h1 : ¬ shf i < 0 := by rcases (show i = 0 ∨ i = 1 ∨ i = 2 ∨ i = 3 by omega) with rfl | rfl | rfl | rfl <;> decide
    have h2 : shf i + (-8) = shf (i + 1) := by rcases (show i = 0 ∨ i = 1 ∨ i = 2 ∨ i = 3 by omega) with rfl | rfl | rfl | rfl <;> decide
    unfold Mo_four_L3
    rw [if_neg h1, Wf_c h, ix_nI (by omega) (by omega), chk_true, tn_nI (by omega), bnd_x, wI_ne (by omega), Wf_c h, nI_1, bnd_x, bnd_x, h2, Wf_s]
    rfl
  · show Mo_four_L3 p (Wf 92 10 98 p n σ 4) (shf 4) = _
    unfold Mo_four_L3
    rw [if_pos (by decide)]
/-- what a tape holds -/
def Tp (σ : St) (a q r n : Nat) (f : Nat → Int32) : Prop := σ.1 a q = nI n ∧ ∀ k, k < n → σ.1 r k = f k
def tpf (f : Nat → Int32) (n : Nat) (p : Int32) : Nat → Int32 := fun k => if k < n then f k else byt p (k - n)
theorem Tp.app {σ : St} {a q r n : Nat} {f : Nat → Int32} (h : Tp σ a q r n f) (har : ¬ a = r) (p : Int32) : Tp (Wf a q r p n σ 4) a q r (n + 4) (tpf f n p) := by
  refine ⟨Wf_c h.1 4, fun k hk => ?_⟩
  unfold tpf
  by_cases e : k < n
  · rw [if_pos e, Wf_old har 4 e]; exact h.2 k e
  · rw [if_neg e]
    have := Wf_new (p := p) (n := n) (τ := σ) (q := q) har 4 (k := k - n) (by omega)
    rwa [show n + (k - n) = k by omega] at this
theorem app_t {σ : St} {n : Nat} {f : Nat → Int32} (h : Tp σ 2 1 3 n f) (hn : n + 4 ≤ 900) (p : Int32) : ∃ σ', Re_append σ p = some σ' ∧ Tp σ' 2 1 3 (n + 4) (tpf f n p) := ⟨_, append_f h.1 hn p, h.app (by omega) p⟩
theorem four_t {σ : St} {n : Nat} {f : Nat → Int32} (h : Tp σ 92 10 98 n f) (hn : n + 4 ≤ 900) (p : Int32) : ∃ σ', Mo_four σ p = some σ' ∧ Tp σ' 92 10 98 (n + 4) (tpf f n p) := ⟨_, four_f h.1 hn p, h.app (by omega) p⟩
theorem call_feed {σ : St} (I : Inv σ) (p1 p2 p3 p4 p5 : Int32) : Call (fun σ => RC_feed σ p1 p2 p3 p4 p5) (fun σ => Mo_feed σ p1 p2 p3 p4 p5) σ := by
  obtain ⟨n, n1, n2, n3, n4⟩ := I.2.2.2.1
  have e20 : ∀ m : Nat, nI m + 20 = nI (m + 20) := fun m => nI_add m 20
  by_cases hn : n + 20 ≤ 900
  · obtain ⟨τ1, a1, b1⟩ := app_t (σ := σ) (n := n) (f := σ.1 3) ⟨n2, fun _ _ => rfl⟩ (by omega) p1
    obtain ⟨τ2, a2, b2⟩ := app_t b1 (by omega) p2
    obtain ⟨τ3, a3, b3⟩ := app_t b2 (by omega) p3
    obtain ⟨τ4, a4, b4⟩ := app_t b3 (by omega) p4
    obtain ⟨τ5, a5, b5⟩ := app_t b4 (by omega) p5
    have e1 : RC_feed σ p1 p2 p3 p4 p5 = some (nI (n + 4 + 4 + 4 + 4 + 4), τ5) := by
      unfold RC_feed
      rw [n2, e20, if_pos (by rw [show (900 : Int32) = nI 900 from rfl, le_nI (by omega) (by omega)]; omega), a1, bd_s, a2, bd_s, a3, bd_s, a4, bd_s, a5, bd_s, b5.1]
    have F1 : Fp (fun a i => (a = 2 ∧ i = 1) ∨ a = 3) σ τ5 := (fp_RC_feed (Fp.rf (σ := σ)) (by omega) (by omega) _ e1).2
    have m0 : Tp τ5 92 10 98 n (σ.1 3) := ⟨(F1.i (by omega)).trans n3, fun k hk => (F1.i (by omega)).trans (n4 k hk).symm⟩
    obtain ⟨υ1, c1, d1⟩ := four_t m0 (by omega) p1
    obtain ⟨υ2, c2, d2⟩ := four_t d1 (by omega) p2
    obtain ⟨υ3, c3, d3⟩ := four_t d2 (by omega) p3
    obtain ⟨υ4, c4, d4⟩ := four_t d3 (by omega) p4
    obtain ⟨υ5, c5, d5⟩ := four_t d4 (by omega) p5
    have e2 : Mo_feed τ5 p1 p2 p3 p4 p5 = some (nI (n + 4 + 4 + 4 + 4 + 4), υ5) := by
      unfold Mo_feed
      rw [m0.1, e20, if_pos (by rw [show (900 : Int32) = nI 900 from rfl, le_nI (by omega) (by omega)]; omega), c1, bd_s, c2, bd_s, c3, bd_s, c4, bd_s, c5, bd_s, d5.1]
    have F2 : Fp (fun a i => (a = 92 ∧ i = 10) ∨ a = 98) τ5 υ5 := (fp_Mo_feed (Fp.rf (σ := τ5)) (by omega) (by omega) _ e2).2
    refine ⟨_, τ5, υ5, e1, e2, inv_tp I ((F1.mono (fun a i q => by unfold Atp; omega)).tr (F2.mono (fun a i q => by unfold Atp; omega))) ⟨n + 4 + 4 + 4 + 4 + 4, by omega, ?_, d5.1, fun k hk => ?_⟩⟩
    · exact (F2.i (by omega)).trans b5.1
    · exact ((F2.i (by omega)).trans (b5.2 k hk)).trans (d5.2 k hk).symm
  · refine ⟨-1, σ, σ, ?_, ?_, I⟩
    · show RC_feed _ _ _ _ _ _ = _
      unfold RC_feed
      rw [n2, e20, if_neg (by rw [show (900 : Int32) = nI 900 from rfl, le_nI (by omega) (by omega)]; omega)]
    · show Mo_feed _ _ _ _ _ _ = _
      unfold Mo_feed
      rw [n3, e20, if_neg (by rw [show (900 : Int32) = nI 900 from rfl, le_nI (by omega) (by omega)]; omega)]
