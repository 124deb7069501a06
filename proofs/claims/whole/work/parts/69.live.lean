section LIV
variable {od n : Nat} {kd te sg wh nu pa : Nat → Nat} {s : Nat × Nat × (Nat → Nat) × (Nat → Nat) × (Nat → Nat)} {q R : Nat → Nat}
theorem sN_k {c : Nat} {nm : Nat → Nat} : ∀ (m : Nat) {k : Nat}, k < c → sN c nm m k = nm k
  | 0, _, _ => rfl
  | m + 1, k, h => by
    show fset (sN c nm m) (c + m) 0 k = nm k
    rw [fset_2 _ _ (by omega)]
    exact sN_k m h
theorem pact_k {od kd wh nu : Nat} : s.1 ≤ (pact od kd wh nu s q).2.1.1 ∧ ∀ k, k < s.1 → (pact od kd wh nu s q).2.1.2.2.2.2 k = s.2.2.2.2 k := by
  have e0 : s.1 ≤ s.1 ∧ ∀ k, k < s.1 → s.2.2.2.2 k = s.2.2.2.2 k := ⟨Nat.le_refl _, fun _ _ => rfl⟩
  unfold pact pany
  by_cases k14 : kd = 14
  · rw [if_pos k14]; split <;> exact e0
  by_cases k15 : kd = 15
  · rw [if_neg k14, if_pos k15]; split <;> exact e0
  by_cases k16 : kd = 16
  · rw [if_neg k14, if_neg k15, if_pos k16]; split <;> exact e0
  by_cases k17 : kd = 17
  · rw [if_neg k14, if_neg k15, if_neg k16, if_pos k17]
    split
    · exact ⟨Nat.le_add_right _ _, fun k hk => sN_k _ hk⟩
    · exact e0
  by_cases k18 : kd = 18
  · rw [if_neg k14, if_neg k15, if_neg k16, if_neg k17, if_pos k18]
    split
    · exact e0
    · split <;> exact e0
  · rw [if_neg k14, if_neg k15, if_neg k16, if_neg k17, if_neg k18]; exact e0
theorem stp_k (wd : WD n kd te sg wh nu pa) {L : Nat × (Nat × Nat × (Nat → Nat) × (Nat → Nat) × (Nat → Nat)) × (Nat → Nat) × (Nat → Nat)} (hI : PI od n kd pa L) (hl : L.1 < n) : L.2.1.1 ≤ (stp od n kd te sg wh nu pa L).2.1.1 ∧ (∀ k, k < L.2.1.1 → (stp od n kd te sg wh nu pa L).2.1.2.2.2.2 k = L.2.1.2.2.2.2 k) ∧ (L.2.2.1 4 ≤ 1 → (stp od n kd te sg wh nu pa L).2.2.1 4 ≤ 1) := by
  obtain ⟨t, s, q, R⟩ := L
  have i1 : WFt od s := hI.1
  have i2 : q 6 < 65536 := hI.2.1
  obtain ⟨c5, c6, c4, c0⟩ := inc5 q
  have ht : t < n := hl
  unfold stp
  show s.1 ≤ _ ∧ (∀ k, k < s.1 → _ = s.2.2.2.2 k) ∧ (q 4 ≤ 1 → _)
  by_cases k24 : kd t = 24
  · rw [if_pos k24]
    by_cases k23 : kd (pa t) = 23
    · rw [if_pos k23]; exact ⟨Nat.le_refl _, fun _ _ => rfl, fun h => h⟩
    · rw [if_neg k23]; exact ⟨Nat.le_refl _, fun _ _ => rfl, fun h => h⟩
  rw [if_neg k24]
  by_cases k300 : 300 ≤ q 5
  · rw [if_pos k300]
    refine ⟨Nat.le_refl _, fun _ _ => rfl, fun h => ?_⟩
    show fset q 4 1 4 ≤ 1
    rw [fset_1]; omega
  rw [if_neg k300]
  by_cases k25 : kd t = 25
  · rw [if_pos k25]
    refine ⟨Nat.le_refl _, fun _ _ => rfl, fun h => ?_⟩
    show inc q 5 4 ≤ 1
    rw [c4]; exact h
  rw [if_neg k25]
  by_cases k19 : kd t = 19
  · rw [if_pos k19]
    refine ⟨Nat.le_refl _, fun _ _ => rfl, fun h => ?_⟩
    show inc q 5 4 ≤ 1
    rw [c4]; exact h
  rw [if_neg k19]
  by_cases k23 : kd t = 23
  · rw [if_pos k23]
    refine ⟨Nat.le_refl _, fun _ _ => rfl, fun h => ?_⟩
    show inc q 5 4 ≤ 1
    rw [c4]; exact h
  rw [if_neg k23]
  obtain ⟨w1, w2, w3, w4, w5⟩ := pact_w (od := od) (kd := kd t) (wh := wh t) (nu := nu t) (s := s) (q := inc q 5) i1 (by rw [c6]; exact i2) (fun e => ((wd.2 t ht).2.2.2.2.2.2.1 e).1)
  obtain ⟨p1, p2⟩ := pact_k (od := od) (kd := kd t) (wh := wh t) (nu := nu t) (s := s) (q := inc q 5)
  refine ⟨p1, p2, fun h => ?_⟩
  show (if (pact od (kd t) (wh t) (nu t) s (inc q 5)).1 = true then (pact od (kd t) (wh t) (nu t) s (inc q 5)).2.2 else inc (pact od (kd t) (wh t) (nu t) s (inc q 5)).2.2 0) 4 ≤ 1
  by_cases b : (pact od (kd t) (wh t) (nu t) s (inc q 5)).1 = true
  · rw [if_pos b, w4, c4]; exact h
  · rw [if_neg b]; unfold inc; rw [fset_2 _ _ (by omega)]; have := w4; rw [c4] at this; unfold inc at this; omega
theorem runL_k (wd : WD n kd te sg wh nu pa) : ∀ (f : Nat) {L : Nat × (Nat × Nat × (Nat → Nat) × (Nat → Nat) × (Nat → Nat)) × (Nat → Nat) × (Nat → Nat)}, PI od n kd pa L → PI od n kd pa (runL od n kd te sg wh nu pa f L) ∧ L.2.1.1 ≤ (runL od n kd te sg wh nu pa f L).2.1.1 ∧ (∀ k, k < L.2.1.1 → (runL od n kd te sg wh nu pa f L).2.1.2.2.2.2 k = L.2.1.2.2.2.2 k) ∧ (L.2.2.1 4 ≤ 1 → (runL od n kd te sg wh nu pa f L).2.2.1 4 ≤ 1)
  | 0, _, hI => ⟨hI, Nat.le_refl _, fun _ _ => rfl, fun h => h⟩
  | f + 1, L, hI => by
    by_cases z : L.1 < n
    · have e : runL od n kd te sg wh nu pa (f + 1) L = runL od n kd te sg wh nu pa f (stp od n kd te sg wh nu pa L) := by
        show (if L.1 < n then _ else L) = _
        rw [if_pos z]
      rw [e]
      obtain ⟨s1, s2⟩ := stp_n (te := te) (sg := sg) (wh := wh) (nu := nu) wd hI z
      obtain ⟨k1, k2, k3⟩ := stp_k (te := te) (sg := sg) (wh := wh) (nu := nu) wd hI z
      obtain ⟨r0, r1, r2, r3⟩ := runL_k wd f s1
      exact ⟨r0, Nat.le_trans k1 r1, fun k hk => (r2 k (Nat.lt_of_lt_of_le hk k1)).trans (k2 k hk), fun h => r3 (k3 h)⟩
    · rw [runL_end z]
      exact ⟨hI, Nat.le_refl _, fun _ _ => rfl, fun h => h⟩
def Alc (a i : Nat) : Prop := (a = 0 ∧ i = 0) ∨ (7 ≤ a ∧ a ≤ 10) ∨ (31 ≤ a ∧ a ≤ 33) ∨ (47 ≤ a ∧ a ≤ 48)
theorem call_live {σ : St} (I : Inv σ) (p : Int32) : Call (fun σ => RC_live σ p) (fun σ => Mo_live σ p) σ := by
  rcases within_ex p (lo := 0) (hi := 9999) 0 9999 rfl rfl (by omega) with h | ⟨e, _, he, rfl, h⟩
  · refine call_s (r := -1) (v := 1) I ?_ (fun σ1 F => ?_)
    · show RC_live σ p = _
      unfold RC_live
      rw [h, bd_s, if_pos rfl, RC_refuse_n, bd2_s]
    · show Mo_live σ1 p = _
      unfold Mo_live
      rw [isFrom_w, h, bd_s, if_pos rfl, Mo_refuse_n, bd2_s]
  rcases I.2.2.2.2.2.1 with ⟨y1, y2⟩ | ⟨n, kd, te, sg, wh, nu, pa, Dc, Dm, wd⟩
  · have y2' : σ.1 93 2 = -1 := y2
    refine call_s (r := -1) (v := 6) I ?_ (fun σ1 F => ?_)
    · show RC_live σ (nI e) = _
      unfold RC_live
      rw [h, bd_s, if_neg (by decide), y1, if_pos rfl, RC_refuse_n, bd2_s]
    · show Mo_live σ1 (nI e) = _
      unfold Mo_live
      rw [isFrom_w, h, bd_s, if_neg (by decide), show ix 2 2060 = true from by decide, chk_true, show tn 2 = 2 from rfl, show σ1.1 93 2 = -1 from (F.i (by unfold Ac0; omega)).trans y2', if_pos rfl, Mo_refuse_n, bd2_s]
  have hn := wd.1
  obtain ⟨c, od, on, rs, md, nm, hc, hm, w⟩ := I.2.2.2.2.1
  obtain ⟨s, hs⟩ : ∃ s : Nat × Nat × (Nat → Nat) × (Nat → Nat) × (Nat → Nat), s = (c, on, rs, md, nm) := ⟨_, rfl⟩
  have hc' : CV σ 7 s.1 od s.2.1 s.2.2.1 s.2.2.2.1 s.2.2.2.2 := by rw [hs]; exact hc
  have hm' : MVt σ od s := by rw [hs]; exact hm
  have w' : WFt od s := by rw [hs]; exact w
  obtain ⟨σ1, a1, a2, a3⟩ := runC (a0 := 47) hc' (by unfold LA; omega) w' (show e < 65536 by omega) Dc wd
  obtain ⟨r0, r1, r2, r3⟩ := runL_k (te := te) (sg := sg) (wh := wh) (nu := nu) wd RF (L0_I (n := n) (kd := kd) (pa := pa) w' (show e < 65536 by omega))
  obtain ⟨FIN, hFIN⟩ : ∃ FIN, FIN = runL od n kd te sg wh nu pa RF (L0 s e) := ⟨_, rfl⟩
  rw [← hFIN] at a2 r0 r3
  have q4 : FIN.2.2.1 4 ≤ 1 := r3 (by show fset (fun _ => 0) 6 e 4 ≤ 1; rw [fset_2 _ _ (by omega)]; omega)
  have eC : RC_live σ (nI e) = some (nI (FIN.2.2.1 5), wI σ1 0 0 0) := by
    unfold RC_live
    rw [h, bd_s, if_neg (by decide), Dc.1, if_neg (by decide), a1, bd_s, a2.2.1, RC_answer_n, bd2_s]
  have FC : Fp Alc σ (wI σ1 0 0 0) := (fp_RC_live (A := Alc) (Fp.rf (σ := σ)) (by unfold Alc; omega) (by intros; unfold Alc; omega) (by unfold Alc; omega) (by unfold Alc; omega) (by intros; unfold Alc; omega) (by intros; unfold Alc; omega) (by unfold Alc; omega) (by unfold Alc; omega) (by unfold Alc; omega) (by unfold Alc; omega) (by unfold Alc; omega) (by unfold Alc; omega) (by unfold Alc; omega) (by unfold Alc; omega) (by intros; unfold Alc; omega) (by unfold Alc; omega) (by unfold Alc; omega) (by intros; unfold Alc; omega) (by intros; unfold Alc; omega) _ eC).2
  have Q0 : CQ (wI σ1 0 0 0) 47 7 od FIN.2.1 FIN.2.2.1 := a2.keep (a2.1.keep ((Fp.wI (A := fun a i => a = 0) (Fp.rf (A := fun a i => a = 0)) (show (0 : Nat) = 0 from rfl)).sm (fun b i z1 z2 z => by omega))) (fun i => wI_ne (by omega))
  have Q1 : (wI σ1 0 0 0).1 47 1 = 1 := (wI_ne (by omega)).trans a3
  have z00 : (wI σ1 0 0 0).1 0 0 = 0 := wI_s
  obtain ⟨σc, hσc⟩ : ∃ σc, σc = wI σ1 0 0 0 := ⟨_, rfl⟩
  rw [← hσc] at eC FC Q0 Q1 z00
  have hmc : MVt σc od s := MV.keep hm' (FC.sm (fun b i z1 z2 z => by unfold Alc at z; omega))
  have Dmc : DVm σc 0 n kd te sg wh nu pa := Dm.keepF FC (fun i z => by unfold Alc at z; omega)
  obtain ⟨ω, b1, b2, b3⟩ := livesM hmc w' (show e < 65536 by omega) Dmc wd
  rw [← hFIN] at b2
  have key := iter_cnt (body := fun u : (Int32 × St) => Mo_live_L42 u.2 u.1) (fun k u => u.1 = nI k ∧ Fp (fun a i => a = 110) ω u.2 ∧ ∀ j, j < k → u.2.1 110 j = nI (FIN.2.2.1 j)) (fun x => Fp (fun a i => a = 110) ω x ∧ ∀ j, j < 5 → x.1 110 j = nI (FIN.2.2.1 j)) (lo := 0) (hi := 5) (n := FUEL) (by omega) (fuel (by omega)) (by
    rintro k ⟨x, u⟩ _ hk ⟨rfl, h2, h3⟩
    have h2' : Fp (fun a i => a = 110) ω u := h2
    have h3' : ∀ j, j < k → u.1 110 j = nI (FIN.2.2.1 j) := h3
    have e9 : u.1 109 k = nI (FIN.2.2.1 k) := (h2'.i (by omega)).trans (b2.2.2.1 k hk)
    refine ⟨(nI (k + 1), wI u 110 k (nI (FIN.2.2.1 k))), ?_, rfl, Fp.wI (A := fun a i => a = 110) h2' (show (110 : Nat) = 110 from rfl), fun j hj => ?_⟩
    · show Mo_live_L42 u (nI k) = _
      unfold Mo_live_L42
      rw [show (5 : Int32) = nI 5 from rfl, if_neg (by rw [le_nI (by omega) (by omega)]; omega), ix_nI (by omega) (by omega), chk_true, chk_true, tn_nI (by omega), e9, bnd_x, nI_1, bnd_x]
    · show (wI u 110 k (nI (FIN.2.2.1 k))).1 110 j = _
      by_cases y : j = k
      · rw [y, wI_s]
      · rw [wI_ne (by omega)]; exact h3' j (by omega)) (by
    rintro ⟨x, u⟩ ⟨rfl, h2, h3⟩
    refine ⟨u, ?_, h2, h3⟩
    show Mo_live_L42 u (nI 5) = _
    unfold Mo_live_L42
    rw [if_pos (by decide)]) (s := (0, ω)) ⟨rfl, Fp.rf, fun j hj => by omega⟩
  obtain ⟨τ, c1, c2, c3⟩ := key
  have c33 : (wI τ 92 37 1).1 92 33 = nI (FIN.2.2.1 5) := (wI_ne (by omega)).trans ((c2.i (by omega)).trans b2.2.1)
  have eM : Mo_live σc (nI e) = some (nI (FIN.2.2.1 5), wI (wI τ 92 37 1) 92 2 0) := by
    unfold Mo_live
    rw [isFrom_w, h, bd_s, if_neg (by decide), show ix 2 2060 = true from by decide, chk_true, show tn 2 = 2 from rfl, Dmc.n0, if_neg (nI_m1 (by omega)), b1, bd_s, c1, bd_s, bnd_x, c33, Mo_gives_n, bd2_s]
  have FM : Fp Alv σc (wI (wI τ 92 37 1) 92 2 0) := Fp.wI (A := Alv) (Fp.wI (A := Alv) ((b3.mono (fun a i z => by unfold Alw Alf at z; unfold Alv; omega)).tr (c2.mono (fun a i z => by unfold Alv; omega))) (by unfold Alv; omega)) (by unfold Alv; omega)
  have F29 : Fp (fun a i => (a = 92 ∧ (i = 37 ∨ i = 2)) ∨ a = 110) ω (wI (wI τ 92 37 1) 92 2 0) := Fp.wI (A := fun a i => (a = 92 ∧ (i = 37 ∨ i = 2)) ∨ a = 110) (Fp.wI (A := fun a i => (a = 92 ∧ (i = 37 ∨ i = 2)) ∨ a = 110) (c2.mono (fun a i z => Or.inr z)) (by omega)) (by omega)
  have g37 : (wI (wI τ 92 37 1) 92 2 0).1 92 37 = 1 := (wI_ne (by omega)).trans wI_s
  have g2 : (wI (wI τ 92 37 1) 92 2 0).1 92 2 = 0 := wI_s
  have g110 : ∀ j, j < 5 → (wI (wI τ 92 37 1) 92 2 0).1 110 j = nI (FIN.2.2.1 j) := fun j hj => (wI_ne (by omega)).trans ((wI_ne (by omega)).trans (c3 j hj))
  obtain ⟨σm, hσm⟩ : ∃ σm, σm = wI (wI τ 92 37 1) 92 2 0 := ⟨_, rfl⟩
  rw [← hσm] at eM FM F29 g37 g2 g110
  have e0 : ∀ {b i : Nat}, b < 92 → σm.1 b i = σc.1 b i := fun hb => (F29.i (by omega)).trans (b3.i (by unfold Alw Alf; omega))
  refine ⟨nI (FIN.2.2.1 5), σc, σm, eC, eM, inv_lv I ((FC.mono (fun a i z => by unfold Alc at z; unfold Alv; omega)).tr FM) ?_ ?_ ?_⟩
  · rw [e0 (by omega), z00, g2]
  · refine ⟨FIN.2.1.1, od, FIN.2.1.2.1, FIN.2.1.2.2.1, FIN.2.1.2.2.2.1, FIN.2.1.2.2.2.2, ?_, MV.keep b2.1 (F29.sm (fun b i z1 z2 z => by omega)), r0.1⟩
    have FB : Fp (fun a i => 92 ≤ a) σc σm := (b3.mono (fun a i z => by unfold Alw Alf at z; omega)).tr (F29.mono (fun a i z => by omega))
    exact Q0.1.keep (FB.sm (fun b i z1 z2 z => by omega))
  · refine ⟨?_, fun _ => ⟨?_, ?_, ?_, ?_, ?_⟩⟩
    · rw [e0 (by omega), Q1, g37]
    · rw [e0 (by omega), Q0.2.2.1, g110 0 (by omega)]
    · rw [e0 (by omega), Q0.2.2.2.1, g110 1 (by omega)]
    · rw [e0 (by omega), Q0.2.2.2.2.1, g110 2 (by omega)]
    · rw [e0 (by omega), Q0.2.2.2.2.2.1, g110 3 (by omega)]
    · rw [e0 (by omega), Q0.2.2.2.2.2.2.1, g110 4 (by omega)]
      have : FIN.2.2.1 4 = 0 ∨ FIN.2.2.1 4 = 1 := by omega
      rcases this with z | z
      · rw [z]; rfl
      · rw [z]; rfl
end LIV
