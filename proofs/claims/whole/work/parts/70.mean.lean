section MEA
variable {od n : Nat} {kd te sg wh nu pa : Nat → Nat} {s : Nat × Nat × (Nat → Nat) × (Nat → Nat) × (Nat → Nat)}
def Amn (a i : Nat) : Prop := Alw a i ∨ (a = 93 ∧ 2020 ≤ i)
theorem keepsM {σ : St} : ∃ σ', Mo_keeps σ 2020 = some σ' ∧ Fp (fun a i => a = 93 ∧ 2020 ≤ i) σ σ' ∧ ∀ j, j < 40 → σ'.1 93 (2020 + j) = σ.1 93 j := by
  have key := iter_cnt (body := fun u : (Int32 × St) => Mo_keeps_L2 2020 u.2 u.1) (fun k u => u.1 = nI k ∧ Fp (fun a i => a = 93 ∧ 2020 ≤ i) σ u.2 ∧ ∀ j, j < k → u.2.1 93 (2020 + j) = σ.1 93 j) (fun x => Fp (fun a i => a = 93 ∧ 2020 ≤ i) σ x ∧ ∀ j, j < 40 → x.1 93 (2020 + j) = σ.1 93 j) (lo := 0) (hi := 40) (n := FUEL) (by omega) (fuel (by omega)) (by
    rintro k ⟨x, u⟩ _ hk ⟨rfl, h2, h3⟩
    have h2' : Fp (fun a i => a = 93 ∧ 2020 ≤ i) σ u := h2
    have h3' : ∀ j, j < k → u.1 93 (2020 + j) = σ.1 93 j := h3
    have e9 : u.1 93 k = σ.1 93 k := h2'.i (by omega)
    refine ⟨(nI (k + 1), wI u 93 (2020 + k) (σ.1 93 k)), ?_, rfl, Fp.wI (A := fun a i => a = 93 ∧ 2020 ≤ i) h2' (by omega), fun j hj => ?_⟩
    · show Mo_keeps_L2 2020 u (nI k) = _
      unfold Mo_keeps_L2
      rw [show (40 : Int32) = nI 40 from rfl, if_neg (by rw [le_nI (by omega) (by omega)]; omega), ix_nI (show k < 2060 by omega) (by omega), chk_true, show (2020 : Int32) = nI 2020 from rfl, nI_add, ix_nI (by omega) (by omega), chk_true, tn_nI (show 2020 + k < 2147483648 by omega), tn_nI (show k < 2147483648 by omega), e9, bnd_x, nI_1, bnd_x]
    · show (wI u 93 (2020 + k) (σ.1 93 k)).1 93 (2020 + j) = _
      by_cases y : j = k
      · rw [y, wI_s]
      · rw [wI_ne (by omega)]; exact h3' j (by omega)) (by
    rintro ⟨x, u⟩ ⟨rfl, h2, h3⟩
    refine ⟨u, ?_, h2, h3⟩
    show Mo_keeps_L2 2020 u (nI 40) = _
    unfold Mo_keeps_L2
    rw [if_pos (by decide)]) (s := (0, σ)) ⟨rfl, Fp.rf, fun j hj => by omega⟩
  obtain ⟨τ, c1, c2, c3⟩ := key
  refine ⟨τ, ?_, c2, c3⟩
  unfold Mo_keeps
  rw [c1, bd_s]
theorem bringsM {σ : St} : ∃ σ', Mo_brings σ 2020 = some σ' ∧ σ'.2 = σ.2 ∧ (∀ b i, ¬ (b = 93 ∧ i < 40) → σ'.1 b i = σ.1 b i) ∧ ∀ j, j < 40 → σ'.1 93 j = σ.1 93 (2020 + j) := by
  have key := iter_cnt (body := fun u : (Int32 × St) => Mo_brings_L2 2020 u.2 u.1) (fun k u => u.1 = nI k ∧ (u.2.2 = σ.2 ∧ ∀ b i, ¬ (b = 93 ∧ i < 40) → u.2.1 b i = σ.1 b i) ∧ ∀ j, j < k → u.2.1 93 j = σ.1 93 (2020 + j)) (fun x => (x.2 = σ.2 ∧ ∀ b i, ¬ (b = 93 ∧ i < 40) → x.1 b i = σ.1 b i) ∧ ∀ j, j < 40 → x.1 93 j = σ.1 93 (2020 + j)) (lo := 0) (hi := 40) (n := FUEL) (by omega) (fuel (by omega)) (by
    rintro k ⟨x, u⟩ _ hk ⟨rfl, ⟨h1, h2⟩, h3⟩
    have h1' : u.2 = σ.2 := h1
    have h2' : ∀ b i, ¬ (b = 93 ∧ i < 40) → u.1 b i = σ.1 b i := h2
    have h3' : ∀ j, j < k → u.1 93 j = σ.1 93 (2020 + j) := h3
    have e9 : u.1 93 (2020 + k) = σ.1 93 (2020 + k) := h2' _ _ (by omega)
    refine ⟨(nI (k + 1), wI u 93 k (σ.1 93 (2020 + k))), ?_, rfl, ⟨h1', fun b i hb => ?_⟩, fun j hj => ?_⟩
    · show Mo_brings_L2 2020 u (nI k) = _
      unfold Mo_brings_L2
      rw [show (40 : Int32) = nI 40 from rfl, if_neg (by rw [le_nI (by omega) (by omega)]; omega), show (2020 : Int32) = nI 2020 from rfl, nI_add, ix_nI (by omega) (by omega), chk_true, tn_nI (show 2020 + k < 2147483648 by omega), ix_nI (show k < 2060 by omega) (by omega), chk_true, tn_nI (show k < 2147483648 by omega), e9, bnd_x, nI_1, bnd_x]
    · exact (wI_ne (by omega)).trans (h2' b i hb)
    · show (wI u 93 k (σ.1 93 (2020 + k))).1 93 j = _
      by_cases y : j = k
      · rw [y, wI_s]
      · rw [wI_ne (by omega)]; exact h3' j (by omega)) (by
    rintro ⟨x, u⟩ ⟨rfl, h2, h3⟩
    refine ⟨u, ?_, h2, h3⟩
    show Mo_brings_L2 2020 u (nI 40) = _
    unfold Mo_brings_L2
    rw [if_pos (by decide)]) (s := (0, σ)) ⟨rfl, ⟨rfl, fun _ _ _ => rfl⟩, fun j hj => by omega⟩
  obtain ⟨τ, c1, ⟨c2, c3⟩, c4⟩ := key
  refine ⟨τ, ?_, c2, c3, c4⟩
  unfold Mo_brings
  rw [c1, bd_s]
/-- how many classes are on after the day, each start in its turn -/
def mnC (od n : Nat) (kd te sg wh nu pa : Nat → Nat) (s : Nat × Nat × (Nat → Nat) × (Nat → Nat) × (Nat → Nat)) (e i : Nat) : Nat := ct12 (runL od n kd te sg wh nu pa RF (L0 s (e + i))).2.1.2.1
theorem sm_bd {f : Nat → Nat} {b : Nat} (h : ∀ i, f i ≤ b) : ∀ k, fb_sm f k ≤ b * k
  | 0 => Nat.zero_le _
  | k + 1 => by
    rw [fb_sm_succ, Nat.mul_succ]
    exact Nat.add_le_add (sm_bd h k) (h k)
def Acm (a i : Nat) : Prop := (11 ≤ a ∧ a ≤ 14) ∨ (31 ≤ a ∧ a ≤ 33) ∨ a = 49 ∨ a = 50
theorem meanC {σ : St} {e m : Nat} (hc : CV σ 7 s.1 od s.2.1 s.2.2.1 s.2.2.2.1 s.2.2.2.2) (w : WFt od s) (D : DVc σ 15 n kd te sg wh nu pa) (wd : WD n kd te sg wh nu pa) (he : e + m ≤ 10000) (hm : m ≤ 20) : ∃ σ', iter (fun u : (Int32 × Int32 × St) => RC_mean_L63 (nI e) (nI m) u.2.2 u.1 u.2.1) FUEL (0, 0, σ) = some (nI (fb_sm (mnC od n kd te sg wh nu pa s e) m), σ') ∧ Fp Acm σ σ' := by
  have hc12 : s.1 ≤ 12 := w.1
  have key := iter_cnt (body := fun u : (Int32 × Int32 × St) => RC_mean_L63 (nI e) (nI m) u.2.2 u.1 u.2.1) (fun k u => u.1 = nI (fb_sm (mnC od n kd te sg wh nu pa s e) k) ∧ u.2.1 = nI k ∧ Fp Acm σ u.2.2) (fun x => x.1 = nI (fb_sm (mnC od n kd te sg wh nu pa s e) m) ∧ Fp Acm σ x.2) (lo := 0) (hi := m) (n := FUEL) (by omega) (fuel (by omega)) (by
    rintro k ⟨x, y, u⟩ _ hk ⟨rfl, rfl, hF⟩
    have hF' : Fp Acm σ u := hF
    obtain ⟨v, b1, b2, b3, b4, b5, b6, b7⟩ := copyC_n (σ := u) (a := 11) (b := 7) (by omega)
    have Fv : Fp Acm σ v := fp_Cl_copyFrom (A := Acm) hF' (by unfold Acm; omega) (by unfold Acm; omega) (by unfold Acm; omega) (by intros; unfold Acm; omega) (by intros; unfold Acm; omega) (by intros; unfold Acm; omega) _ b1
    have hcu : CV u 7 s.1 od s.2.1 s.2.2.1 s.2.2.2.1 s.2.2.2.2 := hc.keep (hF'.sm (fun b i z1 z2 z => by unfold Acm at z; omega))
    have hcv : CV v 11 s.1 od s.2.1 s.2.2.1 s.2.2.2.1 s.2.2.2.2 := ⟨b2.trans hcu.1, b3.trans hcu.2.1, b4.trans hcu.2.2.1, fun k hk => (b5 k (by omega)).trans (hcu.2.2.2.1 k hk), fun k hk => (b6 k (by omega)).trans (hcu.2.2.2.2.1 k hk), fun k hk => (b7 k (by omega)).trans (hcu.2.2.2.2.2 k hk)⟩
    have Dv : DVc v 15 n kd te sg wh nu pa := D.keepF Fv (fun a i z => by unfold Acm at z; omega)
    obtain ⟨τ, t1, t2, t3⟩ := runC (a0 := 49) (e := e + k) hcv (by unfold LA; omega) w (by omega) Dv wd
    obtain ⟨r0, r1, r2, r3⟩ := runL_k (te := te) (sg := sg) (wh := wh) (nu := nu) wd RF (L0_I (n := n) (kd := kd) (pa := pa) w (show e + k < 65536 by omega))
    have Fτ : Fp Acm σ τ := fp_Li_run (A := Acm) Fv (by unfold Acm; omega) (by unfold Acm; omega) (by intros; unfold Acm; omega) (by intros; unfold Acm; omega) (by unfold Acm; omega) (by unfold Acm; omega) (by unfold Acm; omega) (by unfold Acm; omega) (by unfold Acm; omega) (by unfold Acm; omega) (by unfold Acm; omega) (by unfold Acm; omega) (by intros; unfold Acm; omega) (by unfold Acm; omega) (by unfold Acm; omega) (by intros; unfold Acm; omega) (by intros; unfold Acm; omega) (by intros; unfold Acm; omega) _ t1
    have t4 : τ.1 11 4 = nI (runL od n kd te sg wh nu pa RF (L0 s (e + k))).2.1.2.1 := t2.1.2.1
    refine ⟨(nI (fb_sm (mnC od n kd te sg wh nu pa s e) (k + 1)), nI (k + 1), τ), ?_, rfl, rfl, Fτ⟩
    show RC_mean_L63 (nI e) (nI m) u (nI (fb_sm (mnC od n kd te sg wh nu pa s e) k)) (nI k) = _
    unfold RC_mean_L63
    rw [if_neg (by rw [le_nI (by omega) (by omega)]; omega), b1, bd_s, nI_add, t1, bd_s, t4, bcI_n _ (WF.on4 r0.1), bd_s, nI_add, bnd_x, nI_1, bnd_x, fb_sm_succ]
    rfl) (by
    rintro ⟨x, y, u⟩ ⟨rfl, rfl, hF⟩
    refine ⟨(nI (fb_sm (mnC od n kd te sg wh nu pa s e) m), u), ?_, rfl, hF⟩
    show RC_mean_L63 (nI e) (nI m) u (nI (fb_sm (mnC od n kd te sg wh nu pa s e) m)) (nI m) = _
    unfold RC_mean_L63
    rw [if_pos (by rw [le_nI (by omega) (by omega)]; omega)]) (s := (0, 0, σ)) ⟨rfl, rfl, Fp.rf⟩
  obtain ⟨⟨v, τ⟩, c1, c2, c3⟩ := key
  have c2' : v = nI (fb_sm (mnC od n kd te sg wh nu pa s e) m) := c2
  rw [c2'] at c1
  exact ⟨τ, c1, c3⟩
theorem meanM {σ : St} {e m : Nat} (h : MVt σ od s) (w : WFt od s) (D : DVm σ 0 n kd te sg wh nu pa) (wd : WD n kd te sg wh nu pa) (hK : ∀ j, j < 40 → σ.1 93 (2020 + j) = σ.1 93 j) (he : e + m ≤ 10000) (hm : m ≤ 20) : ∃ σ', iter (fun u : (Int64 × Int32 × St) => Mo_mean_L70 (nI e) (nI m) u.2.2 u.1 u.2.1) FUEL (0, 0, σ) = some (lN (fb_sm (mnC od n kd te sg wh nu pa s e) m), σ') ∧ Fp Amn σ σ' ∧ MVt σ' od s := by
  have hc12 : s.1 ≤ 12 := w.1
  have key := iter_cnt (body := fun u : (Int64 × Int32 × St) => Mo_mean_L70 (nI e) (nI m) u.2.2 u.1 u.2.1) (fun k u => u.1 = lN (fb_sm (mnC od n kd te sg wh nu pa s e) k) ∧ u.2.1 = nI k ∧ Fp Amn σ u.2.2 ∧ MVt u.2.2 od s ∧ ∀ j, j < 40 → u.2.2.1 93 (2020 + j) = σ.1 93 j) (fun x => x.1 = lN (fb_sm (mnC od n kd te sg wh nu pa s e) m) ∧ Fp Amn σ x.2 ∧ MVt x.2 od s) (lo := 0) (hi := m) (n := FUEL) (by omega) (fuel (by omega)) (by
    rintro k ⟨x, y, u⟩ _ hk ⟨rfl, rfl, hF, hV, hR⟩
    have hF' : Fp Amn σ u := hF
    have hV' : MVt u od s := hV
    have hR' : ∀ j, j < 40 → u.1 93 (2020 + j) = σ.1 93 j := hR
    have Du : DVm u 0 n kd te sg wh nu pa := by
      have e9 : ∀ i, i = 2 ∨ (40 ≤ i ∧ i < 2020) → u.1 93 (0 + i) = σ.1 93 (0 + i) := fun i hi => hF'.i (by unfold Amn Alw Alf; omega)
      have hn := wd.1
      refine ⟨(e9 2 (by omega)).trans D.1, fun k hk => ?_⟩
      obtain ⟨d1, d2, d3, d4, d5⟩ := D.2 k hk
      exact ⟨(e9 _ (by omega)).trans d1, fun h1 h2 => (e9 _ (by omega)).trans (d2 h1 h2), fun h => (e9 _ (by omega)).trans (d3 h), fun h => (e9 _ (by omega)).trans (d4 h), fun h => (e9 _ (by omega)).trans (d5 h)⟩
    obtain ⟨τ, t1, t2, t3⟩ := livesM (e := e + k) hV' w (by omega) Du wd
    obtain ⟨r0, r1, r2, r3⟩ := runL_k (te := te) (sg := sg) (wh := wh) (nu := nu) wd RF (L0_I (n := n) (kd := kd) (pa := pa) w (show e + k < 65536 by omega))
    have r1' : s.1 ≤ (runL od n kd te sg wh nu pa RF (L0 s (e + k))).2.1.1 := r1
    have r2' : ∀ j, j < s.1 → (runL od n kd te sg wh nu pa RF (L0 s (e + k))).2.1.2.2.2.2 j = s.2.2.2.2 j := r2
    obtain ⟨ω, b1, b2, b3, b4⟩ := bringsM (σ := τ)
    have g : ∀ j, j < 40 → ω.1 93 j = σ.1 93 j := fun j hj => (b4 j hj).trans ((t3.i (by unfold Alw Alf; omega)).trans (hR' j hj))
    have Fω : Fp Amn σ ω := fun b i hb => by
      have hb2 : ¬ Alw b i := fun z => hb (Or.inl z)
      refine ⟨?_, ?_⟩
      · by_cases z : b = 93 ∧ i < 40
        · rw [z.1]; exact g i z.2
        · exact (b3 b i z).trans ((t3.i hb2).trans (hF'.i hb))
      · rw [b2]; exact (t3.l hb2).trans (hF'.l hb)
    have Vω : MVt ω od s := by
      obtain ⟨v1, v2, v3, v4, v5, v6⟩ := h
      refine ⟨(g 0 (by omega)).trans v1, (g (0 + 1) (by omega)).trans v2, fun k hk => (g _ (by omega)).trans (v3 k hk), fun k hk => (g _ (by omega)).trans (v4 k hk), fun k hk => (g _ (by omega)).trans (v5 k hk), fun j hj => ?_⟩
      rw [b2]
      have := t2.1.2.2.2.2.2 j (Nat.lt_of_lt_of_le hj r1')
      rwa [r2' j hj] at this
    refine ⟨(lN (fb_sm (mnC od n kd te sg wh nu pa s e) (k + 1)), nI (k + 1), ω), ?_, rfl, rfl, Fω, Vω, fun j hj => (b3 _ _ (by omega)).trans ((t3.i (by unfold Alw Alf; omega)).trans (hR' j hj))⟩
    show Mo_mean_L70 (nI e) (nI m) u (lN (fb_sm (mnC od n kd te sg wh nu pa s e) k)) (nI k) = _
    unfold Mo_mean_L70
    rw [if_neg (by rw [le_nI (by omega) (by omega)]; omega), nI_add, t1, bd_s, onSet_n t2.1 r0.1, bd_s, bitsM_n (WF.on4 r0.1), bd_s, nI_l (by have := ct12_le (runL od n kd te sg wh nu pa RF (L0 s (e + k))).2.1.2.1; omega), lN_add, bnd_x, b1, bd_s, nI_1, bnd_x, fb_sm_succ]
    rfl) (by
    rintro ⟨x, y, u⟩ ⟨rfl, rfl, hF, hV, _⟩
    refine ⟨(lN (fb_sm (mnC od n kd te sg wh nu pa s e) m), u), ?_, rfl, hF, hV⟩
    show Mo_mean_L70 (nI e) (nI m) u (lN (fb_sm (mnC od n kd te sg wh nu pa s e) m)) (nI m) = _
    unfold Mo_mean_L70
    rw [if_pos (by rw [le_nI (by omega) (by omega)]; omega)]) (s := (0, 0, σ)) ⟨rfl, rfl, Fp.rf, h, hK⟩
  obtain ⟨⟨v, τ⟩, c1, c2, c3, c4⟩ := key
  have c2' : v = lN (fb_sm (mnC od n kd te sg wh nu pa s e) m) := c2
  rw [c2'] at c1
  exact ⟨τ, c1, c3, c4⟩
end MEA
