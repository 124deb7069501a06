section SYE
variable {n : Nat} {bt : Nat → Nat} {c od on : Nat} {rs md nm : Nat → Nat}
def A93 (a j : Nat) : Prop := a = 93 ∧ j < 404
def A94 (a j : Nat) : Prop := a = 94 ∧ j < 12
theorem copy93 {τ : St} : ∃ τ', iter (fun s : (Int32 × St) => Mo_system_L59 s.2 s.1) FUEL (0, τ) = some τ' ∧ (∀ j, j < 404 → τ'.1 93 j = τ.1 93 (1616 + j)) ∧ Fp A93 τ τ' := by
  have key := iter_cnt (body := fun s : (Int32 × St) => Mo_system_L59 s.2 s.1) (fun k s => s.1 = nI k ∧ (∀ j, j < k → s.2.1 93 j = τ.1 93 (1616 + j)) ∧ Fp A93 τ s.2) (fun e => (∀ j, j < 404 → e.1 93 j = τ.1 93 (1616 + j)) ∧ Fp A93 τ e) (lo := 0) (hi := 404) (n := FUEL) (Nat.zero_le _) (fuel (by omega)) ?_ ?_ (s := (0, τ)) ⟨rfl, fun j hj => absurd hj (Nat.not_lt_zero _), Fp.rf (A := A93)⟩
  · exact key
  · rintro k ⟨_, u⟩ h1 h2 ⟨rfl, hq, F⟩
    have hq : ∀ j, j < k → u.1 93 j = τ.1 93 (1616 + j) := hq
    have F : Fp A93 τ u := F
    refine ⟨(nI (k + 1), wI u 93 k (u.1 93 (1616 + k))), ?_, rfl, fun j hj => ?_, Fp.wI (A := A93) F (by unfold A93; omega)⟩
    · show Mo_system_L59 u (nI k) = _
      unfold Mo_system_L59
      rw [show (404 : Int32) = nI 404 from rfl, if_neg (by rw [le_nI (by omega) (by omega)]; omega), show (1616 : Int32) = nI 1616 from rfl, nI_add, ix_nI (by omega) (by omega), chk_true, ix_nI (by omega) (by omega), chk_true, tn_nI (a := k) (by omega), tn_nI (by omega), bnd_x, nI_1, bnd_x]
    · show (wI u 93 k (u.1 93 (1616 + k))).1 93 j = _
      by_cases e : j = k
      · rw [e, wI_s, F.i (by unfold A93; omega)]
      · rw [wI_ne (by omega)]; exact hq j (by omega)
  · rintro ⟨_, u⟩ ⟨rfl, hq, F⟩
    refine ⟨u, ?_, hq, F⟩
    show Mo_system_L59 u (nI 404) = _
    unfold Mo_system_L59
    rw [show (404 : Int32) = nI 404 from rfl, if_pos (by rw [le_nI (by omega) (by omega)]; omega)]
theorem copy94 {τ : St} (hc : c ≤ 12) (h0 : τ.1 93 0 = nI c) : ∃ τ', iter (fun s : (Int32 × St) => Mo_system_L90 s.2 s.1) FUEL (0, τ) = some τ' ∧ (∀ j, j < c → τ'.2 94 j = τ.2 94 (48 + j)) ∧ Fp A94 τ τ' := by
  have key := iter_cnt (body := fun s : (Int32 × St) => Mo_system_L90 s.2 s.1) (fun k s => s.1 = nI k ∧ (∀ j, j < k → j < c → s.2.2 94 j = τ.2 94 (48 + j)) ∧ Fp A94 τ s.2) (fun e => (∀ j, j < c → e.2 94 j = τ.2 94 (48 + j)) ∧ Fp A94 τ e) (lo := 0) (hi := 12) (n := FUEL) (Nat.zero_le _) (fuel (by omega)) ?_ ?_ (s := (0, τ)) ⟨rfl, fun j hj => absurd hj (Nat.not_lt_zero _), Fp.rf (A := A94)⟩
  · exact key
  · rintro k ⟨_, u⟩ h1 h2 ⟨rfl, hq, F⟩
    have hq : ∀ j, j < k → j < c → u.2 94 j = τ.2 94 (48 + j) := hq
    have F : Fp A94 τ u := F
    have u0 : u.1 93 0 = nI c := (F.i (by unfold A94; omega)).trans h0
    by_cases z : c ≤ k
    · refine ⟨(nI (k + 1), wL u 94 k 0), ?_, rfl, fun j hj hj2 => ?_, Fp.wL (A := A94) F (by unfold A94; omega)⟩
      · show Mo_system_L90 u (nI k) = _
        unfold Mo_system_L90
        rw [show (12 : Int32) = nI 12 from rfl, if_neg (by rw [le_nI (by omega) (by omega)]; omega), ix00, chk_true, tn00, u0, if_pos (by rw [le_nI (by omega) (by omega)]; omega), ix_nI (by omega) (by omega), chk_true, tn_nI (by omega), bnd_x, nI_1, bnd_x]
      · show (wL u 94 k 0).2 94 j = _
        rw [wL_ne (by omega)]; exact hq j (by omega) hj2
    · refine ⟨(nI (k + 1), wL u 94 k (u.2 94 (48 + k))), ?_, rfl, fun j hj hj2 => ?_, Fp.wL (A := A94) F (by unfold A94; omega)⟩
      · show Mo_system_L90 u (nI k) = _
        unfold Mo_system_L90
        rw [show (12 : Int32) = nI 12 from rfl, if_neg (by rw [le_nI (by omega) (by omega)]; omega), ix00, chk_true, tn00, u0, if_neg (by rw [le_nI (by omega) (by omega)]; omega), show (48 : Int32) = nI 48 from rfl, nI_add, ix_nI (by omega) (by omega), chk_true, ix_nI (by omega) (by omega), chk_true, tn_nI (a := k) (by omega), tn_nI (by omega), bnd_x, nI_1, bnd_x]
      · show (wL u 94 k (u.2 94 (48 + k))).2 94 j = _
        by_cases e : j = k
        · rw [e, wL_s, F.l (by unfold A94; omega)]
        · rw [wL_ne (by omega)]; exact hq j (by omega) hj2
  · rintro ⟨_, u⟩ ⟨rfl, hq, F⟩
    refine ⟨u, ?_, fun j hj => hq j (by omega) hj, F⟩
    show Mo_system_L90 u (nI 12) = _
    unfold Mo_system_L90
    rw [show (12 : Int32) = nI 12 from rfl, if_pos (by rw [le_nI (by omega) (by omega)]; omega)]
theorem taken_ok {τ : St} (h18 : τ.1 92 18 = 0) (v : Int32) : Mo_taken τ v = some (v, wI (wI τ 92 16 0) 92 2 0) := by
  unfold Mo_taken
  rw [h18, bnd_x, show (wI τ 92 16 0).1 92 18 = 0 from (wI_ne (by omega)).trans h18, if_pos (by decide), Mo_gives_n, bd2_s]
theorem taken_no {τ : St} {e : Nat} (h1 : 1 ≤ e) (h7 : e ≤ 7) (h18 : τ.1 92 18 = nI e) (v : Int32) : Mo_taken τ v = some (-1, wI (wI τ 92 16 (nI e)) 92 2 9) := by
  unfold Mo_taken
  rw [h18, bnd_x, show (wI τ 92 16 (nI e)).1 92 18 = nI e from (wI_ne (by omega)).trans h18, if_neg (show ¬ nI e ≤ 0 by rw [show (0 : Int32) = nI 0 from rfl, le_nI (by omega) (by omega)]; omega), Mo_refuse_n, bd2_s]
theorem sysJ {τ : St} (h : MV τ 1616 48 c od on rs md nm) (hc : c ≤ 12) (h18 : τ.1 92 18 = 0) (hd : τ.1 93 1618 = -1) : ∃ τ', Mo_system_J50 τ = some (nI c, τ') ∧ MV τ' 0 0 c od on rs md nm ∧ τ'.1 93 2 = -1 ∧ τ'.1 92 16 = 0 ∧ τ'.1 92 2 = 0 ∧ Fp (fun a j => A93 a j ∨ A94 a j ∨ (a = 92 ∧ (j = 2 ∨ j = 16))) τ τ' := by
  obtain ⟨h1, h2, h3, h4, h5, h6⟩ := h
  obtain ⟨ρ, r1, r2, r3⟩ := copy93 (τ := τ)
  have e0 : ρ.1 93 0 = nI c := (r2 0 (by omega)).trans h1
  obtain ⟨υ, u1, u2, u3⟩ := copy94 hc e0
  have g : ∀ j, j < 404 → υ.1 93 j = τ.1 93 (1616 + j) := fun j hj => (u3.i (by unfold A94; omega)).trans (r2 j hj)
  have g18 : υ.1 92 18 = 0 := (u3.i (by unfold A94; omega)).trans ((r3.i (by unfold A93; omega)).trans h18)
  have gl : ∀ j, j < c → υ.2 94 j = τ.2 94 (48 + j) := fun j hj => (u2 j hj).trans (r3.l (by unfold A93; omega))
  have e1 : υ.1 93 0 = nI c := (g 0 (by omega)).trans h1
  refine ⟨wI (wI υ 92 16 0) 92 2 0, ?_, ⟨?_, ?_, fun j hj => ?_, fun j hj => ?_, fun j hj => ?_, fun j hj => ?_⟩, ?_, ?_, wI_s, ?_⟩
  · unfold Mo_system_J50
    rw [if_pos h18, r1, bd_s, u1, bd_s, ix00, chk_true, tn00, e1, taken_ok g18, bd2_s]
  · rw [wI_ne (by omega), wI_ne (by omega)]; exact e1
  · rw [wI_ne (by omega), wI_ne (by omega)]; exact (g 1 (by omega)).trans h2
  · rw [wI_ne (by omega), wI_ne (by omega), g _ (by omega), Nat.zero_add]; exact h3 j hj
  · rw [wI_ne (by omega), wI_ne (by omega), g _ (by omega), Nat.zero_add]; exact h4 j hj
  · rw [wI_ne (by omega), wI_ne (by omega), g _ (by omega), Nat.zero_add]; exact h5 j hj
  · rw [wI_2, wI_2, Nat.zero_add, gl j hj]; exact h6 j hj
  · rw [wI_ne (by omega), wI_ne (by omega)]; exact (g 2 (by omega)).trans hd
  · rw [wI_ne (by omega), wI_s]
  · exact Fp.wI (A := fun a j => A93 a j ∨ A94 a j ∨ (a = 92 ∧ (j = 2 ∨ j = 16))) (Fp.wI (A := fun a j => A93 a j ∨ A94 a j ∨ (a = 92 ∧ (j = 2 ∨ j = 16))) ((r3.mono (fun a j q => Or.inl q)).tr (u3.mono (fun a j q => Or.inr (Or.inl q)))) (by omega)) (by omega)
theorem sysF {τ : St} {e : Nat} (h1 : 1 ≤ e) (h7 : e ≤ 7) (h18 : τ.1 92 18 = nI e) : Mo_system_J50 τ = some (-1, wI (wI τ 92 16 (nI e)) 92 2 9) := by
  unfold Mo_system_J50
  rw [if_neg (show ¬ τ.1 92 18 = 0 by rw [h18, show (0 : Int32) = nI 0 from rfl, eq_nI (by omega) (by omega)]; omega), ix00, chk_true, taken_no h1 h7 h18, bd2_s]
/-- class's and reference's system read side by side -/
def Acf (a i : Nat) : Prop := (a = 0 ∧ i = 0) ∨ (2 ≤ a ∧ a ≤ 6 ∧ ¬ a = 3) ∨ (11 ≤ a ∧ a ≤ 14)
def SysOk (σ σ1 τ0 τ1 : St) (r : Int32) : Prop := ∃ (c od on : Nat) (rs md nm : Nat → Nat), r = nI c ∧ CV σ1 7 c od on rs md nm ∧ MV τ1 0 0 c od on rs md nm ∧ WF c od on rs md nm ∧ σ1.1 15 8 = 0 ∧ τ1.1 93 2 = -1
def SysAll (σ σ1 τ0 τ1 : St) : Prop := σ1.1 0 0 = τ1.1 92 2 ∧ σ1.1 2 9 = τ1.1 92 16 ∧ σ1.1 2 10 = τ1.1 92 17 ∧ σ1.1 2 1 = 0 ∧ τ1.1 92 10 = 0 ∧ Fp (fun a j => AM a j ∨ A93 a j ∨ A94 a j) τ0 τ1
theorem sys_run {σ τ0 : St} {N : Nat} (hN : σ.1 2 1 = nI N) (hM : τ0.1 92 10 = nI N) (hN9 : N ≤ 900) (hn : n ≤ N) (hc : ∀ k, k < n → vp_nar .byte (σ.1 3 k) = σ.1 3 k ∧ ub (σ.1 3 k) = bt k) (hm : ∀ k, k < n → vp_nar .byte (τ0.1 98 k) = τ0.1 98 k ∧ ub (τ0.1 98 k) = bt k) : ∃ r σ1 τ1, RC_system σ (nI n) = some (r, σ1) ∧ Mo_system τ0 (nI n) = some (r, τ1) ∧ SysAll σ σ1 τ0 τ1 ∧ (SysOk σ σ1 τ0 τ1 r ∨ (Fp Acf σ σ1 ∧ Fp AM τ0 τ1)) := by
  obtain ⟨α, a1, a2, a3, a4, a5, a6, a7⟩ := begin_n (σ := σ) (bt := bt) (n := n) (by omega) hc
  have Fα := fp_Re_begin (A := Acf) (Fp.rf (σ := σ)) (by unfold Acf; omega) (by unfold Acf; omega) (by unfold Acf; omega) (by unfold Acf; omega) (by unfold Acf; omega) (by unfold Acf; omega) (fun i => by unfold Acf; omega) (fun i => by unfold Acf; omega) (fun i => by unfold Acf; omega) _ a1
  obtain ⟨β, b1, b2⟩ := begins_n (lim := 900) hM hN9 hn (by omega) (by omega) hm
  obtain ⟨γ, g1, g2, g3, g4, g5⟩ := plain_n (τ := β) (o := 1616) (by omega)
  have F5 : Fp (Apl 1616) β γ := g5
  have pm : PM τ0 (wI γ 92 19 0) bt n 0 := (b2.kp F5 (fun i => by unfold Apl; omega) (fun i _ _ => by unfold Apl; omega) (fun a j q => by unfold Apl at q; unfold AM; omega)).kp (A := fun a j => a = 92 ∧ j = 19) (Fp.wI (A := fun a j => a = 92 ∧ j = 19) (Fp.rf (A := fun a j => a = 92 ∧ j = 19)) ⟨rfl, rfl⟩) (fun i => by omega) (fun i _ _ => by omega) (fun a j q => by unfold AM; omega)
  obtain ⟨α2, hα2⟩ : ∃ α2, α2 = wI (wI (wI α 11 3 0) 11 4 0) 11 5 4 := ⟨_, rfl⟩
  have Fα2 : Fp (fun a j => a = 11) α α2 := by
    rw [hα2]
    exact Fp.wI (A := fun a j => a = 11) (Fp.wI (A := fun a j => a = 11) (Fp.wI (A := fun a j => a = 11) (Fp.rf (A := fun a j => a = 11)) rfl) rfl) rfl
  have pc : PC α2 bt n 0 := PC.kp (k := 0) ⟨by omega, a2, a3, Nat.zero_le _, a4, a5, a6⟩ Fα2 (fun i => by omega) (by omega)
  have hS : SY α2 (wI γ 92 19 0) 0 4 0 (fun _ => 0) (fun _ => 0) (fun _ => 0) := by
    refine ⟨⟨?_, ?_, ?_, fun k hk => absurd hk (Nat.not_lt_zero _), fun k hk => absurd hk (Nat.not_lt_zero _), fun k hk => absurd hk (Nat.not_lt_zero _)⟩, ⟨?_, ?_, fun k hk => absurd hk (Nat.not_lt_zero _), fun k hk => absurd hk (Nat.not_lt_zero _), fun k hk => absurd hk (Nat.not_lt_zero _), fun k hk => absurd hk (Nat.not_lt_zero _)⟩, ⟨by omega, by omega, by decide, fun k hk => absurd hk (Nat.not_lt_zero _), fun k hk => absurd hk (Nat.not_lt_zero _)⟩, ?_⟩
    · rw [hα2, wI_ne (by omega), wI_ne (by omega), wI_s]; rfl
    · rw [hα2, wI_ne (by omega), wI_s]; rfl
    · rw [hα2, wI_s]; rfl
    · rw [wI_ne (by omega)]; exact g2 0 (by omega) (by omega) (by omega)
    · rw [wI_ne (by omega)]; exact g3
    · rw [wI_ne (by omega)]; exact g4
  have cpre : ∀ {x : Option (Int32 × St)}, iter (fun s : (Int32 × Int32 × St) => ST_take_L8 11 s.2.2 s.1 s.2.1) FUEL (nI 0, nI 0, α2) = x → ST_take α 11 = x := fun {x} q => by
    unfold ST_take Cl_clear
    rw [bnd_x, bnd_x, bnd_x, ← hα2, bd_s]; exact q
  have hwin : RC_within (nI n).toInt64 0 ((σ.1 2 1).toInt64) = some 1 := by rw [hN]; exact within_y (by omega) hn
  have mpre : ∀ {y : St}, iter (fun s : (Int32 × St) => Mo_system_L31 s.2 s.1) FUEL (1, wI γ 92 19 0) = some y → Mo_system τ0 (nI n) = Mo_system_J50 y := fun {y} q => by
    unfold Mo_system
    rw [show (900 : Int32) = nI 900 from rfl, b1, bd2_s, if_neg (by decide), show (1616 : Int32) = nI 1616 from rfl, g1, bd_s, bnd_x, q, bd_s]
  have hf := FUEL_ge
  have hnT := (nT_p (n := n) (bt := bt)).1
  rcases sysLoop (τ0 := τ0) (bt := bt) (n := n) n 0 α2 (wI γ 92 19 0) 0 0 FUEL FUEL (by omega) ⟨pc, pm⟩ ⟨_, _, _, _, _, _, hS⟩ (by omega) wI_s (by omega) (by omega) (by omega) with ⟨σ', τ', e1, e2, ⟨k', hk⟩, c, od, on, rs, md, nm, hY⟩ | ⟨σ', τ', e1, e2, e, q1, q7, q3, q4, q5, q6, q8⟩
  · have Ft := (fp_ST_take (A := Acf) (Fp.rf (σ := α)) (by unfold Acf; omega) (by unfold Acf; omega) (by unfold Acf; omega) (by unfold Acf; omega) (by unfold Acf; omega) (by unfold Acf; omega) (by unfold Acf; omega) (fun i => by unfold Acf; omega) (fun i => by unfold Acf; omega) (fun i => by unfold Acf; omega) _ (cpre e1)).2
    have Ft2 := (fp_ST_take (A := fun a j => ¬ (a = 2 ∧ j = 1)) (Fp.rf (σ := α)) (by omega) (by omega) (by omega) (by omega) (by omega) (by omega) (by omega) (fun i => by omega) (fun i => by omega) (fun i => by omega) _ (cpre e1)).2
    obtain ⟨hC, hMv, w, d8⟩ := hY
    obtain ⟨δ, d1, d2, d3, d4, d5, d6, d7⟩ := copyC_n (σ := σ') (a := 7) (b := 11) (by omega)
    have Fδ : Fp (fun a i => 7 ≤ a ∧ a ≤ 10) σ' δ := fp_Cl_copyFrom Fp.rf (by intros; omega) (by intros; omega) (by intros; omega) (by intros; omega) (by intros; omega) (by intros; omega) _ d1
    obtain ⟨μ, m1, m2, m3, m4, m5, m6⟩ := sysJ hMv w.1 hk.2.2.1 d8
    obtain ⟨ε, hε⟩ : ∃ ε, ε = wI (wI (wI (wI δ 15 6 0) 15 7 0) 15 8 0) 0 0 0 := ⟨_, rfl⟩
    have Fε : Fp (fun a i => a = 15 ∨ (a = 0 ∧ i = 0)) δ ε := by
      rw [hε]
      exact Fp.wI (A := fun a i => a = 15 ∨ (a = 0 ∧ i = 0)) (Fp.wI (A := fun a i => a = 15 ∨ (a = 0 ∧ i = 0)) (Fp.wI (A := fun a i => a = 15 ∨ (a = 0 ∧ i = 0)) (Fp.wI (A := fun a i => a = 15 ∨ (a = 0 ∧ i = 0)) (Fp.rf (A := fun a i => a = 15 ∨ (a = 0 ∧ i = 0))) (Or.inl rfl)) (Or.inl rfl)) (Or.inl rfl)) (Or.inr ⟨rfl, rfl⟩)
    have x2 : ∀ j, ε.1 2 j = σ'.1 2 j := fun j => (Fε.i (by omega)).trans (Fδ.i (by omega))
    have y2 : ∀ j, ¬ (j = 2 ∨ j = 16) → μ.1 92 j = τ'.1 92 j := fun j hj => m6.i (by unfold A93 A94; omega)
    have hC2 : CV ε 7 c od on rs md nm := by
      obtain ⟨c1, c2, c3, c4, c5, c6⟩ := hC
      have hc12 := w.1
      refine CV.keep ⟨d2.trans c1, d3.trans c2, d4.trans c3, fun k hk => (d5 k (by omega)).trans (c4 k hk), fun k hk => (d6 k (by omega)).trans (c5 k hk), fun k hk => (d7 k (by omega)).trans (c6 k hk)⟩ (Fε.sm (fun b i _ _ q => by omega))
    refine ⟨nI c, ε, μ, ?_, (mpre e2).trans m1, ⟨?_, ?_, ?_, ?_, ?_, ?_⟩, Or.inl ⟨c, od, on, rs, md, nm, rfl, hC2, m2, w, ?_, m3⟩⟩
    · have e7 : (wI (wI (wI δ 15 6 0) 15 7 0) 15 8 0).1 7 3 = nI c := by
        rw [wI_ne (by omega), wI_ne (by omega), wI_ne (by omega), d2]; exact hC.1
      unfold RC_system
      rw [hwin, bd_s, if_neg (by decide), a1, bd_s, cpre e1, bd2_s, if_neg (by decide), d1, bd_s]
      unfold Da_clear
      rw [bnd_x, bnd_x, bnd_x, bd_s, e7, RC_answer_n, bd2_s, hε]
    · rw [m5, hε, wI_s]
    · rw [x2, m4]; exact hk.1.2.2.2.2.2.1
    · rw [x2, y2 17 (by omega), hk.1.2.2.2.2.2.2]; exact hk.2.2.2.1.symm
    · rw [x2, Ft2.i (by omega)]; exact a7
    · rw [y2 10 (by omega)]; exact hk.2.2.2.2.2
    · exact (hk.2.2.2.2.1.mono (fun a j q => Or.inl q)).tr (m6.mono (fun a j q => by
        rcases q with q | q | q
        · exact Or.inr (Or.inl q)
        · exact Or.inr (Or.inr q)
        · exact Or.inl (by unfold AM; omega)))
    · rw [hε, wI_ne (by omega), wI_s]
  · have Ft := (fp_ST_take (A := Acf) (Fp.rf (σ := α)) (by unfold Acf; omega) (by unfold Acf; omega) (by unfold Acf; omega) (by unfold Acf; omega) (by unfold Acf; omega) (by unfold Acf; omega) (by unfold Acf; omega) (fun i => by unfold Acf; omega) (fun i => by unfold Acf; omega) (fun i => by unfold Acf; omega) _ (cpre e1)).2
    have Ft2 := (fp_ST_take (A := fun a j => ¬ (a = 2 ∧ j = 1)) (Fp.rf (σ := α)) (by omega) (by omega) (by omega) (by omega) (by omega) (by omega) (by omega) (fun i => by omega) (fun i => by omega) (fun i => by omega) _ (cpre e1)).2
    have F9 : Fp AM τ0 (wI (wI τ' 92 16 (nI e)) 92 2 9) := Fp.wI (A := AM) (Fp.wI (A := AM) q6 (by unfold AM; omega)) (by unfold AM; omega)
    refine ⟨-1, wI σ' 0 0 9, wI (wI τ' 92 16 (nI e)) 92 2 9, ?_, (mpre e2).trans (sysF q1 q7 q4), ⟨?_, ?_, ?_, ?_, ?_, ?_⟩, Or.inr ⟨?_, F9⟩⟩
    · unfold RC_system
      rw [hwin, bd_s, if_neg (by decide), a1, bd_s, cpre e1, bd2_s, if_pos rfl, RC_refuse_n, bd2_s]
    · rw [wI_s, wI_s]
    · rw [wI_ne (by omega), wI_ne (by omega), wI_s]; exact q3
    · rw [wI_ne (by omega), wI_ne (by omega), wI_ne (by omega)]; exact q5
    · rw [wI_ne (by omega), Ft2.i (by omega)]; exact a7
    · rw [wI_ne (by omega), wI_ne (by omega)]; exact q8
    · exact F9.mono (fun a j q => Or.inl q)
    · exact Fp.wI (A := Acf) (Fα.tr Ft) (by unfold Acf; omega)
end SYE
