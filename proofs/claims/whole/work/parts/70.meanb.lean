theorem call_mean {σ : St} (I : Inv σ) (p p2 : Int32) : Call (fun σ => RC_mean σ p p2) (fun σ => Mo_mean σ p p2) σ := by
  rcases within_ex p (lo := 0) (hi := 9999) 0 9999 rfl rfl (by omega) with h | ⟨e, _, he, rfl, h⟩
  · refine call_s (r := 0) (v := 1) I ?_ (fun σ1 F => ?_)
    · show RC_mean σ p p2 = _
      unfold RC_mean
      rw [h, bd_s, if_pos rfl, RC_deny_n, bd2_s, ckl0, chk_true]
    · show Mo_mean σ1 p p2 = _
      unfold Mo_mean
      rw [isFrom_w, h, bd_s, if_pos rfl, Mo_is_n _ (by decide), bd2_s, ckl0, chk_true]
  rcases within_ex p2 (lo := 1) (hi := 20) 1 20 rfl rfl (by omega) with h' | ⟨m, hm1, hm, rfl, h'⟩
  · refine call_s (r := 0) (v := 1) I ?_ (fun σ1 F => ?_)
    · show RC_mean σ (nI e) p2 = _
      unfold RC_mean
      rw [h, bd_s, if_neg (by decide), h', bd_s, if_pos rfl, RC_deny_n, bd2_s, ckl0, chk_true]
    · show Mo_mean σ1 (nI e) p2 = _
      unfold Mo_mean
      rw [isFrom_w, h, bd_s, if_neg (by decide), isFrom_w, h', bd_s, if_pos rfl, Mo_is_n _ (by decide), bd2_s, ckl0, chk_true]
  have hsum : nI e + nI m - 1 = nI (e + m - 1) := by rw [nI_add]; exact sub_nI (a := e + m) (b := 1) (by omega)
  by_cases hr : e + m - 1 ≤ 9999
  · have hle : nI e + nI m - 1 ≤ 9999 := by rw [hsum, show (9999 : Int32) = nI 9999 from rfl, le_nI (by omega) (by omega)]; exact hr
    rcases I.2.2.2.2.2.1 with ⟨y1, y2⟩ | ⟨n, kd, te, sg, wh, nu, pa, Dc, Dm, wd⟩
    · have y2' : σ.1 93 2 = -1 := y2
      refine call_s (r := 0) (v := 6) I ?_ (fun σ1 F => ?_)
      · show RC_mean σ (nI e) (nI m) = _
        unfold RC_mean
        rw [h, bd_s, if_neg (by decide), h', bd_s, if_neg (by decide), if_pos hle, y1, if_pos rfl, RC_deny_n, bd2_s, ckl0, chk_true]
      · show Mo_mean σ1 (nI e) (nI m) = _
        unfold Mo_mean
        rw [isFrom_w, h, bd_s, if_neg (by decide), isFrom_w, h', bd_s, if_neg (by decide), if_pos hle, show ix 2 2060 = true from by decide, chk_true, show tn 2 = 2 from rfl, show σ1.1 93 2 = -1 from (F.i (by unfold Ac0; omega)).trans y2', if_pos rfl, Mo_is_n _ (by decide), bd2_s, ckl0, chk_true]
    have hn := wd.1
    obtain ⟨c, od, on, rs, md, nm, hc, hmv, w⟩ := I.2.2.2.2.1
    obtain ⟨s, hs⟩ : ∃ s : Nat × Nat × (Nat → Nat) × (Nat → Nat) × (Nat → Nat), s = (c, on, rs, md, nm) := ⟨_, rfl⟩
    have hc' : CV σ 7 s.1 od s.2.1 s.2.2.1 s.2.2.2.1 s.2.2.2.2 := by rw [hs]; exact hc
    have hm' : MVt σ od s := by rw [hs]; exact hmv
    have w' : WFt od s := by rw [hs]; exact w
    obtain ⟨τ, a1, a2⟩ := meanC (e := e) (m := m) hc' w' Dc wd (by omega) hm
    obtain ⟨S, hS⟩ : ∃ S, S = fb_sm (mnC od n kd te sg wh nu pa s e) m := ⟨_, rfl⟩
    have hSb : S ≤ 12 * m := by rw [hS]; exact sm_bd (fun i => ct12_le _) m
    rw [← hS] at a1
    obtain ⟨x, hx⟩ : ∃ x, x = lN (S / Nat.gcd S m) := ⟨_, rfl⟩
    obtain ⟨y, hy⟩ : ∃ y, y = lN (m / Nat.gcd S m) := ⟨_, rfl⟩
    have eC : RC_mean σ (nI e) (nI m) = some (1, wI (wL (wL τ 0 1 x) 0 2 y) 0 0 0) := by
      unfold RC_mean
      rw [h, bd_s, if_neg (by decide), h', bd_s, if_neg (by decide), if_pos hle, Dc.1, if_neg (by decide), a1, bd2_s, nI_l (by omega), nI_l (by omega), tell_c _ (by omega) (by omega) (by omega), bd2_s, ckl1, chk_true, hx, hy]
    have FC : Fp (fun a i => Acm a i ∨ (a = 0 ∧ i < 3)) σ (wI (wL (wL τ 0 1 x) 0 2 y) 0 0 0) := Fp.wI (A := fun a i => Acm a i ∨ (a = 0 ∧ i < 3)) (Fp.wL (A := fun a i => Acm a i ∨ (a = 0 ∧ i < 3)) (Fp.wL (A := fun a i => Acm a i ∨ (a = 0 ∧ i < 3)) (a2.mono (fun a i z => Or.inl z)) (by omega)) (by omega)) (by omega)
    have z0 : (wI (wL (wL τ 0 1 x) 0 2 y) 0 0 0).1 0 0 = 0 := wI_s
    have z1 : (wI (wL (wL τ 0 1 x) 0 2 y) 0 0 0).2 0 1 = x := by show (wL (wL τ 0 1 x) 0 2 y).2 0 1 = x; rw [wL_ne (by omega), wL_s]
    have z2 : (wI (wL (wL τ 0 1 x) 0 2 y) 0 0 0).2 0 2 = y := by show (wL (wL τ 0 1 x) 0 2 y).2 0 2 = y; rw [wL_s]
    obtain ⟨σc, hσc⟩ : ∃ σc, σc = wI (wL (wL τ 0 1 x) 0 2 y) 0 0 0 := ⟨_, rfl⟩
    rw [← hσc] at eC FC z0 z1 z2
    have hmc : MVt σc od s := MV.keep hm' (FC.sm (fun b i z1 z2 z => by unfold Acm at z; omega))
    obtain ⟨σk, k1, k2, k3⟩ := keepsM (σ := σc)
    have hmk : MVt σk od s := MV.keep2 hmc w'.1 (fun i hi => k2.i (by omega)) (fun i hi => k2.l (by omega))
    have hn93 : ∀ i, i < 2020 → σk.1 93 i = σ.1 93 i := fun i hi => (k2.i (by omega)).trans (FC.i (by unfold Acm; omega))
    have Dk : DVm σk 0 n kd te sg wh nu pa := by
      have e9 : ∀ i, i < 2020 → σk.1 93 (0 + i) = σ.1 93 (0 + i) := fun i hi => hn93 _ (by omega)
      refine ⟨(e9 2 (by omega)).trans Dm.1, fun k hk => ?_⟩
      obtain ⟨d1, d2, d3, d4, d5⟩ := Dm.2 k hk
      exact ⟨(e9 _ (by omega)).trans d1, fun h1 h2 => (e9 _ (by omega)).trans (d2 h1 h2), fun h => (e9 _ (by omega)).trans (d3 h), fun h => (e9 _ (by omega)).trans (d4 h), fun h => (e9 _ (by omega)).trans (d5 h)⟩
    obtain ⟨υ, b1, b2, b3⟩ := meanM (e := e) (m := m) hmk w' Dk wd (fun j hj => (k3 j hj).trans (k2.i (by omega)).symm) (by omega) hm
    rw [← hS] at b1
    have eM : Mo_mean σc (nI e) (nI m) = some (1, wI (wL (wL υ 92 3 x) 92 4 y) 92 2 0) := by
      unfold Mo_mean
      rw [isFrom_w, h, bd_s, if_neg (by decide), isFrom_w, h', bd_s, if_neg (by decide), if_pos hle, show ix 2 2060 = true from by decide, chk_true, show tn 2 = 2 from rfl, show σc.1 93 2 = nI n from (FC.i (by unfold Acm; omega)).trans Dm.n0, if_neg (nI_m1 (by omega)), k1, bd_s, b1, bd2_s, nI_l (by omega), tell_m _ (by omega) (by omega) (by omega), bd2_s, ckl1, chk_true, hx, hy]
    have FM : Fp (fun a i => Amn a i ∨ (a = 92 ∧ (i = 2 ∨ i = 3 ∨ i = 4))) σk (wI (wL (wL υ 92 3 x) 92 4 y) 92 2 0) := Fp.wI (A := fun a i => Amn a i ∨ (a = 92 ∧ (i = 2 ∨ i = 3 ∨ i = 4))) (Fp.wL (A := fun a i => Amn a i ∨ (a = 92 ∧ (i = 2 ∨ i = 3 ∨ i = 4))) (Fp.wL (A := fun a i => Amn a i ∨ (a = 92 ∧ (i = 2 ∨ i = 3 ∨ i = 4))) (b2.mono (fun a i z => Or.inl z)) (by omega)) (by omega)) (by omega)
    have F92 : Fp (fun a i => a = 92) υ (wI (wL (wL υ 92 3 x) 92 4 y) 92 2 0) := Fp.wI (A := fun a i => a = 92) (Fp.wL (A := fun a i => a = 92) (Fp.wL (A := fun a i => a = 92) (Fp.rf (A := fun a i => a = 92)) (show (92 : Nat) = 92 from rfl)) (show (92 : Nat) = 92 from rfl)) (show (92 : Nat) = 92 from rfl)
    have m0 : (wI (wL (wL υ 92 3 x) 92 4 y) 92 2 0).1 92 2 = 0 := wI_s
    have m1 : (wI (wL (wL υ 92 3 x) 92 4 y) 92 2 0).2 92 3 = x := by show (wL (wL υ 92 3 x) 92 4 y).2 92 3 = x; rw [wL_ne (by omega), wL_s]
    have m2 : (wI (wL (wL υ 92 3 x) 92 4 y) 92 2 0).2 92 4 = y := by show (wL (wL υ 92 3 x) 92 4 y).2 92 4 = y; rw [wL_s]
    obtain ⟨σm, hσm⟩ : ∃ σm, σm = wI (wL (wL υ 92 3 x) 92 4 y) 92 2 0 := ⟨_, rfl⟩
    rw [← hσm] at eM FM F92 m0 m1 m2
    have FF : Fp As σ σm := ((FC.mono (fun a i z => by unfold Acm at z; unfold As; omega)).tr (k2.mono (fun a i z => by unfold As; omega))).tr (FM.mono (fun a i z => by unfold Amn Alw Alf at z; unfold As; omega))
    have Fb : Fp (fun a i => 92 ≤ a) σc σm := (k2.mono (fun a i z => by omega)).tr (FM.mono (fun a i z => by unfold Amn Alw Alf at z; omega))
    refine ⟨1, σc, σm, eC, eM, inv_sys I FF ?_ ?_ ?_ ⟨s.1, od, s.2.1, s.2.2.1, s.2.2.2.1, s.2.2.2.2, ?_, MV.keep b3 (F92.sm (fun b i z1 z2 z => by omega)), w'⟩⟩
    · rw [Fb.i (by omega), z0, m0]
    · rw [Fb.l (by omega), z1, m1]
    · rw [Fb.l (by omega), z2, m2]
    · exact (hc'.keep (FC.sm (fun b i z1 z2 z => by unfold Acm at z; omega))).keep (Fb.sm (fun b i z1 z2 z => by omega))
  · have hle : ¬ nI e + nI m - 1 ≤ 9999 := by rw [hsum, show (9999 : Int32) = nI 9999 from rfl, le_nI (by omega) (by omega)]; exact hr
    refine call_s (r := 0) (v := 1) I ?_ (fun σ1 F => ?_)
    · show RC_mean σ (nI e) (nI m) = _
      unfold RC_mean
      rw [h, bd_s, if_neg (by decide), h', bd_s, if_neg (by decide), if_neg hle, RC_deny_n, bd2_s, ckl0, chk_true]
    · show Mo_mean σ1 (nI e) (nI m) = _
      unfold Mo_mean
      rw [isFrom_w, h, bd_s, if_neg (by decide), isFrom_w, h', bd_s, if_neg (by decide), if_neg hle, Mo_is_n _ (by decide), bd2_s, ckl0, chk_true]
