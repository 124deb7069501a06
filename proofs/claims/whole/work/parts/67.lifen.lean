section LIN
variable {σ : St} {od n : Nat} {kd te sg wh nu pa : Nat → Nat} {s : Nat × Nat × (Nat → Nat) × (Nat → Nat) × (Nat → Nat)} {q R : Nat → Nat}
theorem DVm.k (D : DVm σ 0 n kd te sg wh nu pa) {t : Nat} (ht : t < n) : σ.1 93 (40 + 6 * t) = nI (if kd t = 19 then 890 + te t else kd t - 10) := by have := (D.2 t ht).1; rwa [Nat.zero_add] at this
theorem DVm.g (D : DVm σ 0 n kd te sg wh nu pa) {t : Nat} (ht : t < n) (h1 : kd t = 19) (h2 : te t = 22) : σ.1 93 (45 + 6 * t) = nI (sgM (sg t)) := by have := (D.2 t ht).2.1 h1 h2; rwa [Nat.zero_add] at this
theorem DVm.w (D : DVm σ 0 n kd te sg wh nu pa) {t : Nat} (ht : t < n) (h : wantsW (kd t) (te t)) : σ.1 93 (41 + 6 * t) = nI (wh t) := by have := (D.2 t ht).2.2.1 h; rwa [Nat.zero_add] at this
theorem DVm.u (D : DVm σ 0 n kd te sg wh nu pa) {t : Nat} (ht : t < n) (h : wantsN (kd t) (te t)) : σ.1 93 (42 + 6 * t) = nI (nu t) := by have := (D.2 t ht).2.2.2.1 h; rwa [Nat.zero_add] at this
theorem DVm.p (D : DVm σ 0 n kd te sg wh nu pa) {t : Nat} (ht : t < n) (h : wantsP (kd t)) : σ.1 93 (44 + 6 * t) = nI (pa t) := by have := (D.2 t ht).2.2.2.2 h; rwa [Nat.zero_add] at this
theorem DVm.n0 (D : DVm σ 0 n kd te sg wh nu pa) : σ.1 93 2 = nI n := D.1
theorem at1 (t : Nat) : nI (40 + 6 * t) + 1 = nI (41 + 6 * t) := by rw [nI_1, show 40 + 6 * t + 1 = 41 + 6 * t by omega]
theorem at2 (t : Nat) : nI (40 + 6 * t) + 2 = nI (42 + 6 * t) := by rw [show (2 : Int32) = nI 2 from rfl, nI_add, show 40 + 6 * t + 2 = 42 + 6 * t by omega]
theorem at4 (t : Nat) : nI (40 + 6 * t) + 4 = nI (44 + 6 * t) := by rw [show (4 : Int32) = nI 4 from rfl, nI_add, show 40 + 6 * t + 4 = 44 + 6 * t by omega]
theorem at5 (t : Nat) : nI (40 + 6 * t) + 5 = nI (45 + 6 * t) := by rw [show (5 : Int32) = nI 5 from rfl, nI_add, show 40 + 6 * t + 5 = 45 + 6 * t by omega]
theorem at0 (t : Nat) : 40 + 6 * nI t = nI (40 + 6 * t) := by rw [show (6 : Int32) = nI 6 from rfl, pk_mul, show (40 : Int32) = nI 40 from rfl, nI_add]
noncomputable def MDB (σ : St) (t k : Nat) (v2 : Int32) : Option (Int32 × St) := if nI k = 4 then (bd2 (Mo_switches σ v2 0) (fun r5 σ6 => chk (ckz r5) (some (r5, σ6)))) else if nI k = 5 then (bd2 (Mo_switches σ v2 1) (fun r10 σ11 => chk (ckz r10) (some (r10, σ11)))) else if nI k = 6 then (bd2 (Mo_shiftsOn σ (σ.1 93 (42 + 6 * t))) (fun r16 σ17 => chk (ckz r16) (some (r16, σ17)))) else if nI k = 7 then (bd2 (Mo_splitsOn σ v2 (σ.1 93 (42 + 6 * t))) (fun r22 σ23 => chk (ckz r22) (some (r22, σ23)))) else if nI k = 8 then (bd2 (Mo_doesAny σ) (fun r27 σ28 => chk (ckz r27) (some (r27, σ28)))) else (some (1, σ))
theorem MDB_pre {t k : Nat} (ht : t < 60) (h : σ.1 93 (40 + 6 * t) = nI k) : Mo_does σ (nI (40 + 6 * t)) = MDB σ t k (σ.1 93 (41 + 6 * t)) := by
  unfold Mo_does MDB
  rw [at1, ix_nI (by omega) (by omega), chk_true, tn_nI (show 41 + 6 * t < 2147483648 by omega), bnd_x, ix_nI (by omega) (by omega), chk_true, tn_nI (show 40 + 6 * t < 2147483648 by omega), h, at2, ix_nI (by omega) (by omega), chk_true, tn_nI (show 42 + 6 * t < 2147483648 by omega), chk_true]
theorem MDB_4 {t : Nat} {v : Int32} : MDB σ t 4 v = bd2 (Mo_switches σ v (nI 0)) (fun r5 σ6 => chk (ckz r5) (some (r5, σ6))) := by
  unfold MDB
  rw [if_pos (by decide)]; rfl
theorem MDB_5 {t : Nat} {v : Int32} : MDB σ t 5 v = bd2 (Mo_switches σ v (nI 1)) (fun r5 σ6 => chk (ckz r5) (some (r5, σ6))) := by
  unfold MDB
  rw [if_neg (by decide), if_pos (by decide)]; rfl
theorem MDB_6 {t : Nat} {v : Int32} : MDB σ t 6 v = bd2 (Mo_shiftsOn σ (σ.1 93 (42 + 6 * t))) (fun r5 σ6 => chk (ckz r5) (some (r5, σ6))) := by
  unfold MDB
  rw [if_neg (by decide), if_neg (by decide), if_pos (by decide)]
theorem MDB_7 {t : Nat} {v : Int32} : MDB σ t 7 v = bd2 (Mo_splitsOn σ v (σ.1 93 (42 + 6 * t))) (fun r5 σ6 => chk (ckz r5) (some (r5, σ6))) := by
  unfold MDB
  rw [if_neg (by decide), if_neg (by decide), if_neg (by decide), if_pos (by decide)]
theorem MDB_8 {t : Nat} {v : Int32} : MDB σ t 8 v = bd2 (Mo_doesAny σ) (fun r5 σ6 => chk (ckz r5) (some (r5, σ6))) := by
  unfold MDB
  rw [if_neg (by decide), if_neg (by decide), if_neg (by decide), if_neg (by decide), if_pos (by decide)]
theorem MDB_o {t k : Nat} {v : Int32} (h9 : 8 < k) (hk : k < 2000) : MDB σ t k v = some (1, σ) := by
  have nk : ∀ x : Nat, x ≤ 8 → ¬ nI k = nI x := fun x y => by rw [eq_nI (by omega) (by omega)]; omega
  unfold MDB
  rw [if_neg (show ¬ nI k = 4 from nk 4 (by omega)), if_neg (show ¬ nI k = 5 from nk 5 (by omega)), if_neg (show ¬ nI k = 6 from nk 6 (by omega)), if_neg (show ¬ nI k = 7 from nk 7 (by omega)), if_neg (show ¬ nI k = 8 from nk 8 (by omega))]
theorem ckb (b : Bool) : ckz (if b = true then 1 else 0) = true := by cases b <;> decide
theorem doesM (h : MLq σ od s q) (w : WFt od s) (hq : q 6 < 65536) (D : DVm σ 0 n kd te sg wh nu pa) (wd : WD n kd te sg wh nu pa) {t : Nat} (ht : t < n) (k24 : ¬ kd t = 24) (k25 : ¬ kd t = 25) : ∃ σ', Mo_does σ (nI (40 + 6 * t)) = some ((if (pact od (kd t) (wh t) (nu t) s q).1 = true then 1 else 0), σ') ∧ MLq σ' od (pact od (kd t) (wh t) (nu t) s q).2.1 (pact od (kd t) (wh t) (nu t) s q).2.2 ∧ Fp Alf σ σ' := by
  have hn := wd.1
  have hk0 := (wd.2 t ht).1
  have hte := (wd.2 t ht).2.1
  have h12 := (wd.2 t ht).2.2.2.1
  have h16 := (wd.2 t ht).2.2.2.2.2.1
  have h17 := (wd.2 t ht).2.2.2.2.2.2.1
  have dk := D.k ht
  have dw : wantsW (kd t) (te t) → σ.1 93 (41 + 6 * t) = nI (wh t) := D.w ht
  have du : wantsN (kd t) (te t) → σ.1 93 (42 + 6 * t) = nI (nu t) := D.u ht
  have pre : ∀ {m : Nat}, (if kd t = 19 then 890 + te t else kd t - 10) = m → Mo_does σ (nI (40 + 6 * t)) = MDB σ t m (σ.1 93 (41 + 6 * t)) := fun e => MDB_pre (by omega) (dk.trans (congrArg nI e))
  by_cases k14 : kd t = 14
  · have ep : pact od (kd t) (wh t) (nu t) s q = if s.2.1.testBit (wh t) = true then (true, pflip s (wh t), fcnt s (wh t) q) else (false, s, q) := by unfold pact; rw [if_pos k14]
    rw [ep, pre (m := 4) (by rw [if_neg (by omega), k14]), MDB_4, dw (by unfold wantsW; omega)]
    by_cases z : s.2.1.testBit (wh t) = true
    · obtain ⟨τ, t1, t2, t3⟩ := switch1 h w (w.lt z) (v := 0) (by rw [if_pos z])
      rw [t1, bd2_s, ckl1, chk_true, if_pos z]
      exact ⟨τ, rfl, t2, t3⟩
    · rw [switch0 h w h12 (v := 0) (fun _ => by rw [if_neg z]), bd2_s, ckl0, chk_true, if_neg z]
      exact ⟨σ, rfl, h, Fp.rf⟩
  by_cases k15 : kd t = 15
  · have ep : pact od (kd t) (wh t) (nu t) s q = if wh t < s.1 ∧ ¬ s.2.1.testBit (wh t) = true then (true, pflip s (wh t), fcnt s (wh t) q) else (false, s, q) := by unfold pact; rw [if_neg k14, if_pos k15]
    rw [ep, pre (m := 5) (by rw [if_neg (by omega), k15]), MDB_5, dw (by unfold wantsW; omega)]
    by_cases z : wh t < s.1 ∧ ¬ s.2.1.testBit (wh t) = true
    · obtain ⟨τ, t1, t2, t3⟩ := switch1 h w z.1 (v := 1) (by rw [if_neg z.2])
      rw [t1, bd2_s, ckl1, chk_true, if_pos z]
      exact ⟨τ, rfl, t2, t3⟩
    · rw [switch0 h w h12 (v := 1) (fun y => by rw [if_pos (Classical.byContradiction (fun x => z ⟨y, x⟩))]), bd2_s, ckl0, chk_true, if_neg z]
      exact ⟨σ, rfl, h, Fp.rf⟩
  by_cases k16 : kd t = 16
  · have ep : pact od (kd t) (wh t) (nu t) s q = if nu t = 0 then (false, s, q) else (true, pslide s (nu t), inc q 3) := by unfold pact; rw [if_neg k14, if_neg k15, if_pos k16]
    rw [ep, pre (m := 6) (by rw [if_neg (by omega), k16]), MDB_6, du (by unfold wantsN; omega)]
    by_cases z : nu t = 0
    · have e : Mo_shiftsOn σ (nI (nu t)) = some (0, σ) := by unfold Mo_shiftsOn; rw [if_pos (by rw [z]; rfl)]
      rw [e, bd2_s, ckl0, chk_true, if_pos z]
      exact ⟨σ, rfl, h, Fp.rf⟩
    · obtain ⟨τ, t1, t2, t3⟩ := shiftM h w (h16 k16) z
      rw [t1, bd2_s, ckl1, chk_true, if_neg z]
      exact ⟨τ, rfl, t2, t3⟩
  by_cases k17 : kd t = 17
  · obtain ⟨u1, u2⟩ := h17 k17
    obtain ⟨τ, t1, t2, t3⟩ := splitM h w h12 u1 u2
    rw [← k17] at t1 t2
    rw [pre (m := 7) (by rw [if_neg (by omega), k17]), MDB_7, dw (by unfold wantsW; omega), du (by unfold wantsN; omega), t1, bd2_s, ckb, chk_true]
    exact ⟨τ, rfl, t2, t3⟩
  by_cases k18 : kd t = 18
  · obtain ⟨τ, t1, t2, t3⟩ := anyM h w hq
    have ep : pact od (kd t) (wh t) (nu t) s q = pany od s q := by unfold pact; rw [if_neg k14, if_neg k15, if_neg k16, if_neg k17, if_pos k18]
    rw [ep, pre (m := 8) (by rw [if_neg (by omega), k18]), MDB_8, t1, bd2_s, ckb, chk_true]
    exact ⟨τ, rfl, t2, t3⟩
  · have ep : pact od (kd t) (wh t) (nu t) s q = (true, s, q) := by unfold pact; rw [if_neg k14, if_neg k15, if_neg k16, if_neg k17, if_neg k18]
    have hb : 8 < (if kd t = 19 then 890 + te t else kd t - 10) ∧ (if kd t = 19 then 890 + te t else kd t - 10) < 2000 := by
      by_cases y : kd t = 19
      · rw [if_pos y]; have := hte y; omega
      · rw [if_neg y]; omega
    rw [ep, pre rfl, MDB_o hb.1 hb.2]
    exact ⟨σ, rfl, h, Fp.rf⟩
end LIN
