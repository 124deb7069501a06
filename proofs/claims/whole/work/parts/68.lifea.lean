theorem iter_ix {S E : Type} {body : S → Option (S ⊕ E)} (I : Nat → S → Prop) (P : E → Prop) (hs : ∀ m s, I m s → (∃ s' m', body s = some (.inl s') ∧ I m' s' ∧ m' < m) ∨ ∃ e, body s = some (.inr e) ∧ P e) : ∀ (n m : Nat) (s : S), I m s → m < n → ∃ e, iter body n s = some e ∧ P e
  | 0, _, _, _, h => absurd h (Nat.not_lt_zero _)
  | n + 1, m, s, hi, h => by
    rcases hs m s hi with ⟨s', m', h1, h2, h3⟩ | ⟨e, h1, h2⟩
    · rw [iter_step h1]
      exact iter_ix I P hs n m' s' h2 (by omega)
    · exact ⟨e, iter_exit h1, h2⟩
section LIP
variable {od n : Nat} {kd te sg wh nu pa : Nat → Nat} {s : Nat × Nat × (Nat → Nat) × (Nat → Nat) × (Nat → Nat)} {q R : Nat → Nat}
def Alw (a i : Nat) : Prop := Alf a i ∨ (a = 92 ∧ i = 33) ∨ a = 108
def MLl (σ : St) (od n : Nat) (kd pa : Nat → Nat) (L : Nat × (Nat × Nat × (Nat → Nat) × (Nat → Nat) × (Nat → Nat)) × (Nat → Nat) × (Nat → Nat)) : Prop := MLq σ od L.2.1 L.2.2.1 ∧ ∀ j, j < n → opn kd pa L.1 j → kd j = 23 → σ.1 108 j = nI (L.2.2.2 j - 1)
def LSt (σ : St) (od n : Nat) (kd te sg wh nu pa : Nat → Nat) (FIN L : Nat × (Nat × Nat × (Nat → Nat) × (Nat → Nat) × (Nat → Nat)) × (Nat → Nat) × (Nat → Nat)) : Prop := PI od n kd pa L ∧ MLl σ od n kd pa L ∧ DVm σ 0 n kd te sg wh nu pa ∧ (L.1 < n → Mp n kd pa L ≤ 30000) ∧ runL od n kd te sg wh nu pa RF L = FIN
theorem DVm.keepF {σ σ2 : St} (D : DVm σ 0 n kd te sg wh nu pa) {A : Nat → Nat → Prop} (F : Fp A σ σ2) (hA : ∀ i, A 93 i → i < 2 ∨ (4 ≤ i ∧ i < 40)) : DVm σ2 0 n kd te sg wh nu pa := by
  have e : ∀ i, i = 2 ∨ 40 ≤ i → σ2.1 93 (0 + i) = σ.1 93 (0 + i) := fun i hi => F.i (fun z => by have := hA _ z; omega)
  refine ⟨(e 2 (by omega)).trans D.1, fun k hk => ?_⟩
  obtain ⟨d1, d2, d3, d4, d5⟩ := D.2 k hk
  exact ⟨(e _ (by omega)).trans d1, fun h1 h2 => (e _ (by omega)).trans (d2 h1 h2), fun h => (e _ (by omega)).trans (d3 h), fun h => (e _ (by omega)).trans (d4 h), fun h => (e _ (by omega)).trans (d5 h)⟩
theorem LSt.go {σ σ2 : St} {FIN L : Nat × (Nat × Nat × (Nat → Nat) × (Nat → Nat) × (Nat → Nat)) × (Nat → Nat) × (Nat → Nat)} (h : LSt σ od n kd te sg wh nu pa FIN L) (wd : WD n kd te sg wh nu pa) (hl : L.1 < n) (hm : MLl σ2 od n kd pa (stp od n kd te sg wh nu pa L)) (F : Fp Alw σ σ2) : LSt σ2 od n kd te sg wh nu pa FIN (stp od n kd te sg wh nu pa L) := by
  obtain ⟨h1, h2, h3, h4, h5⟩ := h
  obtain ⟨s1, s2⟩ := stp_n (te := te) (sg := sg) (wh := wh) (nu := nu) wd h1 hl
  have hM := h4 hl
  exact ⟨s1, hm, h3.keepF F (fun i z => by unfold Alw Alf at z; omega), fun y => by have := s2 y; omega, (runL_go wd h1 hl (Nat.lt_of_le_of_lt (show Mp n kd pa L ≤ 30002 by omega) RF_ge)).trans h5⟩
theorem F108 {σ : St} (k : Nat) (v : Int32) : Fp (fun a i => a = 108) σ (wI σ 108 k v) := Fp.wI (A := fun a i => a = 108) (Fp.rf (A := fun a i => a = 108)) (show (108 : Nat) = 108 from rfl)
theorem MLq.r {σ : St} (h : MLq σ od s q) (k : Nat) (v : Int32) : MLq (wI σ 108 k v) od s q := h.keep (s2 := s) (MV.keep h.1 ((F108 k v).sm (fun b i q1 q2 q => by omega))) (F108 k v) (fun i => by omega)
theorem endM {σ : St} {FIN L : Nat × (Nat × Nat × (Nat → Nat) × (Nat → Nat) × (Nat → Nat)) × (Nat → Nat) × (Nat → Nat)} (h : LSt σ od n kd te sg wh nu pa FIN L) (wd : WD n kd te sg wh nu pa) (hl : L.1 < n) (k24 : kd L.1 = 24) : ∃ σ', Mo_behindEnds_L2 σ (nI L.1) = some (.inl (nI (stp od n kd te sg wh nu pa L).1, σ')) ∧ LSt σ' od n kd te sg wh nu pa FIN (stp od n kd te sg wh nu pa L) ∧ (stp od n kd te sg wh nu pa L).2.2.1 = L.2.2.1 ∧ Fp (fun a i => a = 108) σ σ' := by
  obtain ⟨t, s, q, R⟩ := L
  have hi5 : ∀ j, j < n → opn kd pa t j → kd j = 23 → 1 ≤ R j ∧ R j ≤ 99 := h.1.2.2.2.2
  have hr : ∀ j, j < n → opn kd pa t j → kd j = 23 → σ.1 108 j = nI (R j - 1) := h.2.1.2
  have hq : MLq σ od s q := h.2.1.1
  have D := h.2.2.1
  have hl' : t < n := hl
  have k24' : kd t = 24 := k24
  have hn := wd.1
  obtain ⟨e1, e2, e3, e4⟩ := (wd.2 t hl').2.2.2.2.2.2.2.2.2 k24'
  have hpn : pa t < n := by omega
  have hop : opn kd pa t (pa t) := (o_end wd hl' k24' hpn).2.2 rfl
  have dk : σ.1 93 (40 + 6 * t) = nI 14 := by rw [D.k hl', if_neg (by omega), k24']
  have dp : σ.1 93 (44 + 6 * t) = nI (pa t) := D.p hl' (by unfold wantsP; omega)
  have dkp := D.k hpn
  have hpre : Mo_behindEnds_L2 σ (nI t) = (if (nI (if kd (pa t) = 19 then 890 + te (pa t) else kd (pa t) - 10)) = 13 then (if (σ.1 108 (pa t)) ≤ 0 then (Mo_behindEnds_J75_2 σ (nI t) (nI (pa t)) 0) else (Mo_behindEnds_J75_2 σ (nI t) (nI (pa t)) 1)) else (Mo_behindEnds_J75_2 σ (nI t) (nI (pa t)) 0)) := by
    unfold Mo_behindEnds_L2
    rw [show ix 2 2060 = true from by decide, chk_true, show tn 2 = 2 from rfl, D.n0, if_neg (by rw [le_nI (by omega) (by omega)]; omega), at0, ix_nI (by omega) (by omega), chk_true, tn_nI (show 40 + 6 * t < 2147483648 by omega), dk, if_pos (show nI 14 = 14 from rfl), at4, ix_nI (by omega) (by omega), chk_true, tn_nI (show 44 + 6 * t < 2147483648 by omega), dp, bnd_x, at0, ix_nI (by omega) (by omega), chk_true, tn_nI (show 40 + 6 * pa t < 2147483648 by omega), dkp, ix_nI (by omega) (by omega), chk_true, tn_nI (show pa t < 2147483648 by omega)]
  have j0 : Mo_behindEnds_J75_2 σ (nI t) (nI (pa t)) 0 = some (.inl (nI (t + 1), wI σ 108 (pa t) (σ.1 108 (pa t)))) := by
    unfold Mo_behindEnds_J75_2 Mo_behindEnds_J94_2
    rw [ix_nI (show pa t < 60 by omega) (by omega), chk_true, if_pos rfl, chk_true, tn_nI (show pa t < 2147483648 by omega), Int32.sub_zero, bnd_x, if_pos rfl, nI_1, bnd_x]
  have st : stp od n kd te sg wh nu pa (t, s, q, R) = if kd (pa t) = 23 then ((if 1 < R (pa t) then pa t + 1 else t + 1), s, q, fset R (pa t) (R (pa t) - 1)) else (t + 1, s, q, R) := by unfold stp; rw [if_pos k24']
  have go := fun σ2 hm F => h.go (σ2 := σ2) wd hl hm F
  have FA : ∀ v, Fp Alw σ (wI σ 108 (pa t) v) := fun v => (F108 (pa t) v).mono (fun a i z => by unfold Alw; omega)
  by_cases k23 : kd (pa t) = 23
  · obtain ⟨r1, r2⟩ := hi5 (pa t) hpn hop k23
    have hR := hr (pa t) hpn hop k23
    rw [if_pos k23] at st
    rw [st] at go ⊢
    rw [if_neg (show ¬ kd (pa t) = 19 by omega), k23, if_pos (show nI (23 - 10) = 13 from rfl), hR] at hpre
    by_cases z : 1 < R (pa t)
    · have j1 : Mo_behindEnds_J75_2 σ (nI t) (nI (pa t)) 1 = some (.inl (nI (pa t + 1), wI σ 108 (pa t) (nI (R (pa t) - 1 - 1)))) := by
        unfold Mo_behindEnds_J75_2 Mo_behindEnds_J94_2
        rw [ix_nI (show pa t < 60 by omega) (by omega), chk_true, if_neg (by decide), chk_true, tn_nI (show pa t < 2147483648 by omega), hR, show nI (R (pa t) - 1) - 1 = nI (R (pa t) - 1 - 1) from sub_nI (a := R (pa t) - 1) (b := 1) (by omega), bnd_x, if_neg (by decide), nI_1, bnd_x]
      rw [if_pos z] at go ⊢
      refine ⟨wI σ 108 (pa t) (nI (R (pa t) - 1 - 1)), ?_, go _ ⟨hq.r _ _, fun j hj ho hk => ?_⟩ (FA _), rfl, F108 _ _⟩
      · rw [hpre, show (0 : Int32) = nI 0 from rfl, if_neg (by rw [le_nI (by omega) (by omega)]; omega)]
        exact j1
      · show (wI σ 108 (pa t) (nI (R (pa t) - 1 - 1))).1 108 j = nI (fset R (pa t) (R (pa t) - 1) j - 1)
        by_cases e : j = pa t
        · rw [e, wI_s, fset_1]
        · rw [wI_ne (by omega), fset_2 _ _ e]
          exact hr j hj ((o_end wd hl' k24' hj).2.1.mp ho) hk
    · rw [if_neg z] at go ⊢
      refine ⟨wI σ 108 (pa t) (σ.1 108 (pa t)), ?_, go _ ⟨hq.r _ _, fun j hj ho hk => ?_⟩ (FA _), rfl, F108 _ _⟩
      · rw [hpre, show (0 : Int32) = nI 0 from rfl, if_pos (by rw [le_nI (by omega) (by omega)]; omega)]
        exact j0
      · have ho' := (o_end wd hl' k24' hj).1.mp ho
        show (wI σ 108 (pa t) (σ.1 108 (pa t))).1 108 j = nI (fset R (pa t) (R (pa t) - 1) j - 1)
        rw [wI_ne (by omega), fset_2 _ _ ho'.2]
        exact hr j hj ho'.1 hk
  · rw [if_neg k23] at st
    rw [st] at go ⊢
    have k19 : kd (pa t) = 19 := by omega
    have hte := (wd.2 (pa t) hpn).2.1 k19
    refine ⟨wI σ 108 (pa t) (σ.1 108 (pa t)), ?_, go _ ⟨hq.r _ _, fun j hj ho hk => ?_⟩ (FA _), rfl, F108 _ _⟩
    · rw [hpre, if_pos k19, show (13 : Int32) = nI 13 from rfl, if_neg (by rw [eq_nI (by omega) (by omega)]; omega)]
      exact j0
    · have ho' := (o_end wd hl' k24' hj).1.mp ho
      show (wI σ 108 (pa t) (σ.1 108 (pa t))).1 108 j = nI (R j - 1)
      rw [wI_ne (by omega)]
      exact hr j hj ho'.1 hk
theorem behindM {σ : St} {FIN L : Nat × (Nat × Nat × (Nat → Nat) × (Nat → Nat) × (Nat → Nat)) × (Nat → Nat) × (Nat → Nat)} (h : LSt σ od n kd te sg wh nu pa FIN L) (wd : WD n kd te sg wh nu pa) : ∃ L' σ', Mo_behindEnds σ (nI L.1) = some (nI L'.1, σ') ∧ LSt σ' od n kd te sg wh nu pa FIN L' ∧ (L'.1 < n → ¬ kd L'.1 = 24) ∧ L'.2.2.1 = L.2.2.1 ∧ Fp (fun a i => a = 108) σ σ' := by
  have hn := wd.1
  have hfu : (if L.1 < n then Mp n kd pa L + 1 else 0) < FUEL := by
    by_cases z : L.1 < n
    · rw [if_pos z]; have := h.2.2.2.1 z; exact fuel (by omega)
    · rw [if_neg z]; exact fuel (by omega)
  have key := iter_ix (body := fun u : (Int32 × St) => Mo_behindEnds_L2 u.2 u.1) (fun m u => ∃ X, u.1 = nI X.1 ∧ LSt u.2 od n kd te sg wh nu pa FIN X ∧ X.2.2.1 = L.2.2.1 ∧ Fp (fun a i => a = 108) σ u.2 ∧ m = (if X.1 < n then Mp n kd pa X + 1 else 0)) (fun e => ∃ X, e.1 = nI X.1 ∧ LSt e.2 od n kd te sg wh nu pa FIN X ∧ X.2.2.1 = L.2.2.1 ∧ Fp (fun a i => a = 108) σ e.2 ∧ (X.1 < n → ¬ kd X.1 = 24)) ?_ FUEL (if L.1 < n then Mp n kd pa L + 1 else 0) (nI L.1, σ) ⟨L, rfl, h, rfl, Fp.rf, rfl⟩ hfu
  · obtain ⟨⟨v, τ⟩, b1, X, b2, b3, b4, b5, b6⟩ := key
    have b2' : v = nI X.1 := b2
    refine ⟨X, τ, ?_, b3, b6, b4, b5⟩
    unfold Mo_behindEnds
    rw [b1, bd2_s, b2']
  · rintro m ⟨x, u⟩ ⟨X, rfl, hS, hq, hF, hm⟩
    have hS' : LSt u od n kd te sg wh nu pa FIN X := hS
    have hF' : Fp (fun a i => a = 108) σ u := hF
    have hx := hS'.1.2.2.2.1
    by_cases z : X.1 < n
    · rw [if_pos z] at hm
      by_cases k24 : kd X.1 = 24
      · left
        obtain ⟨τ, t1, t2, t3, t4⟩ := endM hS' wd z k24
        obtain ⟨s1, s2⟩ := stp_n (te := te) (sg := sg) (wh := wh) (nu := nu) wd hS'.1 z
        refine ⟨(nI (stp od n kd te sg wh nu pa X).1, τ), _, t1, ⟨stp od n kd te sg wh nu pa X, rfl, t2, t3.trans hq, hF'.tr t4, rfl⟩, ?_⟩
        by_cases y : (stp od n kd te sg wh nu pa X).1 < n
        · rw [if_pos y]; have := s2 y; omega
        · rw [if_neg y]; omega
      · right
        refine ⟨(nI X.1, u), ?_, X, rfl, hS', hq, hF', fun _ => k24⟩
        have hb := (wd.2 X.1 z).1
        have hte := (wd.2 X.1 z).2.1
        have dk := hS'.2.2.1.k z
        show Mo_behindEnds_L2 u (nI X.1) = _
        unfold Mo_behindEnds_L2
        rw [show ix 2 2060 = true from by decide, chk_true, show tn 2 = 2 from rfl, hS'.2.2.1.n0, if_neg (by rw [le_nI (by omega) (by omega)]; omega), at0, ix_nI (by omega) (by omega), chk_true, tn_nI (show 40 + 6 * X.1 < 2147483648 by omega), dk, show (14 : Int32) = nI 14 from rfl, if_neg (by
          by_cases y : kd X.1 = 19
          · rw [if_pos y, eq_nI (by have := hte y; omega) (by omega)]; omega
          · rw [if_neg y, eq_nI (by omega) (by omega)]; omega)]
    · right
      refine ⟨(nI X.1, u), ?_, X, rfl, hS', hq, hF', fun y => absurd y z⟩
      show Mo_behindEnds_L2 u (nI X.1) = _
      unfold Mo_behindEnds_L2
      rw [show ix 2 2060 = true from by decide, chk_true, show tn 2 = 2 from rfl, hS'.2.2.1.n0, if_pos (by rw [le_nI (by omega) (by omega)]; omega)]
end LIP
