section FOLc
variable {od n : Nat} {kd te sg wh nu pa : Nat → Nat} {a0 a1 : Nat} {s : Nat × Nat × (Nat → Nat) × (Nat → Nat) × (Nat → Nat)} {q R : Nat → Nat}
def CL (σ : St) (a0 a1 od n : Nat) (kd pa : Nat → Nat) (L : Nat × (Nat × Nat × (Nat → Nat) × (Nat → Nat) × (Nat → Nat)) × (Nat → Nat) × (Nat → Nat)) : Prop := CQ σ a0 a1 od L.2.1 L.2.2.1 ∧ ∀ j, j < n → opn kd pa L.1 j → kd j = 23 → σ.1 (a0 + 1) j = nI (L.2.2.2 j)
theorem DVc.keepF {σ σ2 : St} (D : DVc σ 15 n kd te sg wh nu pa) {A : Nat → Nat → Prop} (F : Fp A σ σ2) (hA : ∀ a i, A a i → a < 15 ∨ 21 < a) : DVc σ2 15 n kd te sg wh nu pa := D.keep (F.sm (fun b i z1 z2 z => by have := hA b i z; omega))
theorem followC {σ : St} {L : Nat × (Nat × Nat × (Nat → Nat) × (Nat → Nat) × (Nat → Nat)) × (Nat → Nat) × (Nat → Nat)} (h : CL σ a0 a1 od n kd pa L) (hA : LA a0 a1) (hI : PI od n kd pa L) (D : DVc σ 15 n kd te sg wh nu pa) (wd : WD n kd te sg wh nu pa) (ht : L.1 < n) : ∃ σ', Li_follow σ a0 a1 15 (nI L.1) = some (nI (stp od n kd te sg wh nu pa L).1, σ') ∧ CL σ' a0 a1 od n kd pa (stp od n kd te sg wh nu pa L) := by
  obtain ⟨t, s, q, R⟩ := L
  obtain ⟨i1, i2, i3, i4, i5⟩ := hI
  obtain ⟨hq, hr⟩ := h
  have hq' : CQ σ a0 a1 od s q := hq
  have i2' : q 6 < 65536 := i2
  have i3' : q 5 ≤ 300 := i3
  have ht' : t < n := ht
  have hr' : ∀ j, j < n → opn kd pa t j → kd j = 23 → σ.1 (a0 + 1) j = nI (R j) := hr
  have i5' : ∀ j, j < n → opn kd pa t j → kd j = 23 → 1 ≤ R j ∧ R j ≤ 99 := i5
  have hn := wd.1
  obtain ⟨d1, d2, d3, d4, d5, d6⟩ := D.2.2 t ht'
  have d1' : σ.1 (15 + 1) t = nI (kd t) := d1
  have hw := wd.2 t ht'
  have hpre : Li_follow σ a0 a1 15 (nI t) = Li_follow σ a0 a1 15 (nI t) := rfl
  unfold stp
  show ∃ σ', Li_follow σ a0 a1 15 (nI t) = _ ∧ _
  by_cases k24 : kd t = 24
  · rw [if_pos k24]
    obtain ⟨e1, e2, e3, e4⟩ := hw.2.2.2.2.2.2.2.2.2 k24
    have hpn : pa t < n := by omega
    have hop : opn kd pa t (pa t) := (o_end wd ht' k24 hpn).2.2 rfl
    have ep : σ.1 (15 + 6) t = nI (pa t) := d6 (by unfold wantsP; omega)
    have ek : σ.1 (15 + 1) (pa t) = nI (kd (pa t)) := (D.2.2 (pa t) hpn).1
    have hf : Li_follow σ a0 a1 15 (nI t) = bd2 (Li_behindEnd σ a0 15 (nI t)) (fun r68 σ69 => some (r68, σ69)) := by
      unfold Li_follow
      rw [ix_nI (by omega) (by omega), chk_true, tn_nI (by omega), d1', bnd_x, k24, if_pos (show nI 24 = 24 from rfl)]
    by_cases k23 : kd (pa t) = 23
    · obtain ⟨r1, r2⟩ := i5' (pa t) hpn hop k23
      have hR := hr' (pa t) hpn hop k23
      rw [if_pos k23]
      have hb : Li_behindEnd σ a0 15 (nI t) = some (nI (if 1 < R (pa t) then pa t + 1 else t + 1), wI σ (a0 + 1) (pa t) (nI (R (pa t) - 1))) := by
        unfold Li_behindEnd
        rw [ix_nI (by omega) (by omega), chk_true, tn_nI (by omega), ep, bnd_x, if_neg (nI_pos (by omega)), ix_nI (by omega) (by omega), chk_true, tn_nI (by omega), ek, k23, if_pos (show nI 23 = 23 from rfl), chk_true, chk_true, hR, show nI (R (pa t)) - 1 = nI (R (pa t) - 1) from sub_nI (a := R (pa t)) (b := 1) r1, bnd_x, chk_true, wI_s, nI_1, nI_1]
        by_cases z : 1 < R (pa t)
        · rw [show (0 : Int32) = nI 0 from rfl, if_neg (by rw [le_nI (by omega) (by omega)]; omega), if_pos z]
        · rw [show (0 : Int32) = nI 0 from rfl, if_pos (by rw [le_nI (by omega) (by omega)]; omega), if_neg z]
      refine ⟨wI σ (a0 + 1) (pa t) (nI (R (pa t) - 1)), by rw [hf, hb, bd2_s], ?_, fun j hj ho hk => ?_⟩
      · exact hq'.keep (hq'.1.keep ((Fp.wI (A := fun a i => a = a0 + 1) Fp.rf rfl).sm (fun b i z1 z2 z => by unfold LA at hA; omega))) (fun i => wI_ne (by omega))
      · show (wI σ (a0 + 1) (pa t) (nI (R (pa t) - 1))).1 (a0 + 1) j = nI (fset R (pa t) (R (pa t) - 1) j)
        by_cases e : j = pa t
        · rw [e, wI_s, fset_1]
        · rw [wI_ne (by omega), fset_2 _ _ e]
          refine hr' j hj ?_ hk
          have ho' : opn kd pa (if 1 < R (pa t) then pa t + 1 else t + 1) j := ho
          by_cases z : 1 < R (pa t)
          · rw [if_pos z] at ho'; exact (o_end wd ht' k24 hj).2.1.mp ho'
          · rw [if_neg z] at ho'; exact ((o_end wd ht' k24 hj).1.mp ho').1
    · rw [if_neg k23]
      have hl : kd (pa t) < 100 := by omega
      have hb : Li_behindEnd σ a0 15 (nI t) = some (nI (t + 1), σ) := by
        unfold Li_behindEnd
        rw [ix_nI (by omega) (by omega), chk_true, tn_nI (by omega), ep, bnd_x, if_neg (nI_pos (by omega)), ix_nI (by omega) (by omega), chk_true, tn_nI (by omega), ek, show (23 : Int32) = nI 23 from rfl, if_neg (by rw [eq_nI (by omega) (by omega)]; exact k23), nI_1]
      refine ⟨σ, by rw [hf, hb, bd2_s], hq', fun j hj ho hk => ?_⟩
      exact hr' j hj ((o_end wd ht' k24 hj).1.mp ho).1 hk
  · rw [if_neg k24]
    have hkl : kd t < 100 := by omega
    have n24 : ¬ nI (kd t) = 24 := by rw [show (24 : Int32) = nI 24 from rfl, eq_nI (by omega) (by omega)]; exact k24
    by_cases k300 : 300 ≤ q 5
    · rw [if_pos k300]
      have h7 := hq'.c7 hA 1
      refine ⟨wI σ a0 7 (nI 1), ?_, h7, fun j hj ho hk => ?_⟩
      · unfold Li_follow
        rw [ix_nI (by omega) (by omega), chk_true, tn_nI (by omega), d1', bnd_x, if_neg n24, hq'.2.1, show (300 : Int32) = nI 300 from rfl, if_neg (by rw [lt_nI (by omega) (by omega)]; omega), bnd_x, show (wI σ a0 7 1).1 15 6 = nI n from (wI_ne (by unfold LA at hA; omega)).trans D.2.1]
        rfl
      · have ho' : opn kd pa n j := ho
        obtain ⟨p1, p2, p3, p4⟩ := (wd.2 j hj).2.2.2.2.2.2.2.2.1 ho'.2.2
        unfold opn at ho'; omega
    · rw [if_neg k300]
      have h2 := hq'.c2 hA (q 5 + 1)
      have h2' : CQ (wI σ a0 2 (nI (q 5 + 1))) a0 a1 od s (inc q 5) := h2
      have D2 : DVc (wI σ a0 2 (nI (q 5 + 1))) 15 n kd te sg wh nu pa := D.keepF (Fp.wI (A := fun a i => a = a0) Fp.rf rfl) (fun a i z => by unfold LA at hA; omega)
      have hr2 : ∀ j, (wI σ a0 2 (nI (q 5 + 1))).1 (a0 + 1) j = σ.1 (a0 + 1) j := fun j => wI_ne (by omega)
      have hpre : Li_follow σ a0 a1 15 (nI t) = (fun σ3 : St => if nI (kd t) = 17 then (chk true (chk true (bd2 (Li_partIfItCan σ3 a1 (σ3.1 (15 + 4) t) (σ3.1 (15 + 5) t)) (fun r7 σ8 => if r7 = 0 then (bnd (wI σ8 a0 3 ((σ3.1 a0 3) + 1)) (fun σ9 => some ((nI t + 1), σ9))) else (bnd (wI σ8 a0 3 ((σ3.1 a0 3) + 0)) (fun σ10 => some ((nI t + 1), σ10))))))) else if nI (kd t) = 18 then (bd2 (Li_chance σ3 a0 a1) (fun r14 σ15 => if r14 = 0 then (bnd (wI σ15 a0 3 ((σ3.1 a0 3) + 1)) (fun σ16 => some ((nI t + 1), σ16))) else (bnd (wI σ15 a0 3 ((σ3.1 a0 3) + 0)) (fun σ17 => some ((nI t + 1), σ17))))) else if nI (kd t) = 19 then (bd2 (Li_isSo σ3 a1 15 (nI t)) (fun r21 σ22 => if r21 = 0 then (chk true (some (((jmax (nI t) (σ22.1 (15 + 6) t)) + 1), σ22))) else (some ((nI t + 1), σ22)))) else if nI (kd t) = 20 then (bd2 (Li_act σ3 a0 a1 15 (nI t)) (fun r27 σ28 => if r27 = 0 then (bnd (wI σ28 a0 3 ((σ3.1 a0 3) + 1)) (fun σ29 => some ((nI t + 1), σ29))) else (bnd (wI σ28 a0 3 ((σ3.1 a0 3) + 0)) (fun σ30 => some ((nI t + 1), σ30))))) else if nI (kd t) = 21 then (bd2 (Li_act σ3 a0 a1 15 (nI t)) (fun r34 σ35 => if r34 = 0 then (bnd (wI σ35 a0 3 ((σ3.1 a0 3) + 1)) (fun σ36 => some ((nI t + 1), σ36))) else (bnd (wI σ35 a0 3 ((σ3.1 a0 3) + 0)) (fun σ37 => some ((nI t + 1), σ37))))) else if nI (kd t) = 22 then (bd2 (Li_act σ3 a0 a1 15 (nI t)) (fun r41 σ42 => if r41 = 0 then (bnd (wI σ42 a0 3 ((σ3.1 a0 3) + 1)) (fun σ43 => some ((nI t + 1), σ43))) else (bnd (wI σ42 a0 3 ((σ3.1 a0 3) + 0)) (fun σ44 => some ((nI t + 1), σ44))))) else if nI (kd t) = 23 then (chk true (chk true (bnd (wI σ3 (a0 + 1) t (σ3.1 (15 + 5) t)) (fun σ49 => some ((nI t + 1), σ49))))) else if nI (kd t) = 24 then (bd2 (Li_act σ3 a0 a1 15 (nI t)) (fun r52 σ53 => if r52 = 0 then (bnd (wI σ53 a0 3 ((σ3.1 a0 3) + 1)) (fun σ54 => some ((nI t + 1), σ54))) else (bnd (wI σ53 a0 3 ((σ3.1 a0 3) + 0)) (fun σ55 => some ((nI t + 1), σ55))))) else if nI (kd t) = 25 then (some ((σ3.1 15 6), σ3)) else (bd2 (Li_act σ3 a0 a1 15 (nI t)) (fun r60 σ61 => if r60 = 0 then (bnd (wI σ61 a0 3 ((σ3.1 a0 3) + 1)) (fun σ62 => some ((nI t + 1), σ62))) else (bnd (wI σ61 a0 3 ((σ3.1 a0 3) + 0)) (fun σ63 => some ((nI t + 1), σ63)))))) (wI σ a0 2 (nI (q 5 + 1))) := by
        unfold Li_follow
        rw [ix_nI (by omega) (by omega), chk_true, tn_nI (by omega), d1', bnd_x, if_neg n24, hq'.2.1, show (300 : Int32) = nI 300 from rfl, if_pos (by rw [lt_nI (by omega) (by omega)]; omega), nI_1, bnd_x]
      obtain ⟨σ3, hσ3⟩ : ∃ σ3, σ3 = wI σ a0 2 (nI (q 5 + 1)) := ⟨_, rfl⟩
      rw [← hσ3] at hpre h2' D2 hr2
      obtain ⟨f1, f2, f3, f4, f5, f6⟩ := D2.2.2 t ht'
      have f4' : wantsW (kd t) (te t) → σ3.1 (15 + 4) t = nI (wh t) := f4
      have f5' : wantsN (kd t) (te t) → σ3.1 (15 + 5) t = nI (nu t) := f5
      have f6' : wantsP (kd t) → σ3.1 (15 + 6) t = nI (pa t) := f6
      obtain ⟨c5, c6, c4, c0⟩ := inc5 q
      have m0 : σ3.1 a0 3 = nI (q 0) := by rw [h2'.2.2.1, c0]
      have hA0 : ¬ a0 + 1 = a1 ∧ ¬ a0 + 1 = a1 + 1 ∧ ¬ a0 + 1 = a1 + 2 ∧ ¬ a0 + 1 = a1 + 3 := by unfold LA at hA; omega
      -- a step that acts
      have fin : ∀ {b : Bool} {τ : St} {s' : Nat × Nat × (Nat → Nat) × (Nat → Nat) × (Nat → Nat)} {q' : Nat → Nat}, CQ τ a0 a1 od s' q' → q' 0 = q 0 → (∀ j, τ.1 (a0 + 1) j = σ3.1 (a0 + 1) j) → ¬ kd t = 19 → ¬ kd t = 23 → ∃ σ', (if (if b = true then (1 : Int32) else 0) = 0 then (bnd (wI τ a0 3 (nI (q 0) + 1)) (fun σ9 => some ((nI t + 1), σ9))) else (bnd (wI τ a0 3 (nI (q 0) + 0)) (fun σ10 => some ((nI t + 1), σ10)))) = some (nI (t + 1), σ') ∧ CL σ' a0 a1 od n kd pa (t + 1, s', (if b = true then q' else inc q' 0), R) := fun {b τ s' q'} hc h0 hf n19 n23 => by
        have rr : ∀ (v : Int32), ∀ j, j < n → opn kd pa (t + 1) j → kd j = 23 → (wI τ a0 3 v).1 (a0 + 1) j = nI (R j) := fun v j hj ho hk => by
          rw [wI_ne (by omega), hf, hr2]
          exact hr' j hj ((o_plain wd ht' n19 n23 k24 hj).mp ho) hk
        cases b
        · refine ⟨wI τ a0 3 (nI (q 0 + 1)), ?_, ?_, rr _⟩
          · rw [if_pos (by decide), nI_1, bnd_x, nI_1]
          · show CQ (wI τ a0 3 (nI (q 0 + 1))) a0 a1 od s' (inc q' 0)
            have := hc.c3 hA (q' 0 + 1)
            rw [h0] at this
            unfold inc
            rw [h0]
            exact this
        · refine ⟨wI τ a0 3 (nI (q 0)), ?_, ?_, rr _⟩
          · rw [if_neg (by decide), add0, bnd_x, nI_1]
          · show CQ (wI τ a0 3 (nI (q 0))) a0 a1 od s' q'
            have := hc.c3 hA (q' 0)
            rw [h0] at this
            have e : fset q' 0 (q 0) = q' := by
              funext j
              unfold fset
              by_cases y : j = 0
              · rw [if_pos y, y, h0]
              · rw [if_neg y]
            rwa [e] at this
      by_cases k25 : kd t = 25
      · rw [if_pos k25]
        refine ⟨σ3, ?_, h2', fun j hj ho hk => ?_⟩
        · rw [hpre, k25]
          show (if nI 25 = 17 then _ else _) = _
          rw [if_neg (by decide), if_neg (by decide), if_neg (by decide), if_neg (by decide), if_neg (by decide), if_neg (by decide), if_neg (by decide), if_neg (by decide), if_pos (by decide), D2.2.1]
        · have ho' : opn kd pa n j := ho
          obtain ⟨p1, p2, p3, p4⟩ := (wd.2 j hj).2.2.2.2.2.2.2.2.1 ho'.2.2
          unfold opn at ho'; omega
      · rw [if_neg k25]
        by_cases k19 : kd t = 19
        · rw [if_pos k19]
          obtain ⟨p1, p2, p3, p4⟩ := hw.2.2.2.2.2.2.2.2.1 (Or.inl k19)
          obtain ⟨τ, t1, t2⟩ := isSoC h2'.1 hA i1 D2 wd ht' k19
          have hq3 : CQ τ a0 a1 od s (inc q 5) := h2'.keep (h2'.1.keep (t2.sm (fun b i z1 z2 z => by unfold Asv at z; unfold LA at hA; omega))) (fun i => t2.i (by unfold Asv; unfold LA at hA; omega))
          have hr3 : ∀ j, τ.1 (a0 + 1) j = σ3.1 (a0 + 1) j := fun j => t2.i (by unfold Asv; unfold LA at hA; omega)
          have e6 : τ.1 (15 + 6) t = nI (pa t) := (t2.i (by unfold Asv; omega)).trans (f6' (by unfold wantsP; omega))
          have hpre2 : Li_follow σ a0 a1 15 (nI t) = (if (if ptst (te t) (sg t) (wh t) (nu t) s = true then (1 : Int32) else 0) = 0 then (chk true (some (((jmax (nI t) (nI (pa t))) + 1), τ))) else (some ((nI t + 1), τ))) := by
            rw [hpre, k19]
            show (if nI 19 = 17 then _ else _) = _
            rw [if_neg (by decide), if_neg (by decide), if_pos (by decide), t1, bd2_s, e6]
          by_cases z : ptst (te t) (sg t) (wh t) (nu t) s = true
          · refine ⟨τ, ?_, hq3, fun j hj ho hk => ?_⟩
            · rw [hpre2, if_pos z, if_neg (by decide), nI_1]
              show _ = some (nI (if ptst (te t) (sg t) (wh t) (nu t) s = true then t + 1 else pa t + 1), τ)
              rw [if_pos z]
            · have ho' : opn kd pa (if ptst (te t) (sg t) (wh t) (nu t) s = true then t + 1 else pa t + 1) j := ho
              rw [if_pos z] at ho'
              rcases (o_open wd ht' (Or.inl k19) hj).mp ho' with y | y
              · exact (hr3 j).trans ((hr2 j).trans (hr' j hj y hk))
              · rw [y] at hk; omega
          · refine ⟨τ, ?_, hq3, fun j hj ho hk => ?_⟩
            · rw [hpre2, if_neg z, if_pos rfl, chk_true, jmax_nI (by omega) (by omega), Nat.max_eq_right (by omega), nI_1]
              show _ = some (nI (if ptst (te t) (sg t) (wh t) (nu t) s = true then t + 1 else pa t + 1), τ)
              rw [if_neg z]
            · have ho' : opn kd pa (if ptst (te t) (sg t) (wh t) (nu t) s = true then t + 1 else pa t + 1) j := ho
              rw [if_neg z] at ho'
              exact (hr3 j).trans ((hr2 j).trans (hr' j hj ((o_skip wd ht' (Or.inl k19) hj).mp ho') hk))
        · rw [if_neg k19]
          by_cases k23 : kd t = 23
          · rw [if_pos k23]
            have e5 := f5' (by unfold wantsN; omega)
            refine ⟨wI σ3 (a0 + 1) t (nI (nu t)), ?_, ?_, fun j hj ho hk => ?_⟩
            · rw [hpre, k23]
              show (if nI 23 = 17 then _ else _) = _
              rw [if_neg (by decide), if_neg (by decide), if_neg (by decide), if_neg (by decide), if_neg (by decide), if_neg (by decide), if_pos (by decide), chk_true, chk_true, e5, bnd_x, nI_1]
            · exact h2'.keep (h2'.1.keep ((Fp.wI (A := fun a i => a = a0 + 1) Fp.rf rfl).sm (fun b i z1 z2 z => by unfold LA at hA; omega))) (fun i => wI_ne (by omega))
            · show (wI σ3 (a0 + 1) t (nI (nu t))).1 (a0 + 1) j = nI (fset R t (nu t) j)
              by_cases e : j = t
              · rw [e, wI_s, fset_1]
              · rw [wI_ne (by omega), fset_2 _ _ e, hr2]
                exact hr' j hj (((o_open wd ht' (Or.inr k23) hj).mp ho).resolve_right e) hk
          · rw [if_neg k23]
            obtain ⟨w1, w2, w3, w4, w5⟩ := pact_w (od := od) (kd := kd t) (wh := wh t) (nu := nu t) (s := s) (q := inc q 5) i1 (by omega) (fun e => (hw.2.2.2.2.2.2.1 e).1)
            rw [c0] at w5
            by_cases k17 : kd t = 17
            · obtain ⟨u1, u2⟩ := hw.2.2.2.2.2.2.1 k17
              obtain ⟨τ, t1, t2⟩ := partC h2' hA i1 (k := wh t) (m := nu t) hw.2.2.2.1 u1 u2
              have F : Fp (fun a i => ¬ a = a0 + 1) σ3 τ := (fp_Li_partIfItCan (A := fun a i => ¬ a = a0 + 1) Fp.rf (by omega) (by omega) (fun i => by omega) (fun i => by omega) (fun i => by omega) _ t1).2
              rw [← k17] at t1 t2
              obtain ⟨σ', g1, g2⟩ := fin t2 w5 (fun j => F.i (by omega)) k19 k23
              refine ⟨σ', ?_, g2⟩
              rw [hpre]
              show (if nI (kd t) = 17 then _ else _) = _
              rw [if_pos (by rw [k17]; decide), chk_true, chk_true, f4' (by unfold wantsW; omega), f5' (by unfold wantsN; omega), t1, bd2_s, m0, g1]
            · by_cases k18 : kd t = 18
              · obtain ⟨τ, t1, t2⟩ := chanceC h2' hA i1 (by omega)
                have F : Fp (fun a i => ¬ a = a0 + 1) σ3 τ := (fp_Li_chance (A := fun a i => ¬ a = a0 + 1) Fp.rf (by omega) (by omega) (by omega) (by omega) (by omega) (fun i => by omega) _ t1).2
                have ep : pact od (kd t) (wh t) (nu t) s (inc q 5) = pany od s (inc q 5) := by unfold pact; rw [if_neg (by omega), if_neg (by omega), if_neg (by omega), if_neg (by omega), if_pos k18]
                rw [← ep] at t1 t2
                obtain ⟨σ', g1, g2⟩ := fin t2 w5 (fun j => F.i (by omega)) k19 k23
                refine ⟨σ', ?_, g2⟩
                rw [hpre]
                show (if nI (kd t) = 17 then _ else _) = _
                rw [if_neg (by rw [k18]; decide), if_pos (by rw [k18]; decide), t1, bd2_s, m0, g1]
              · have hk3 : kd t = 14 ∨ kd t = 15 ∨ kd t = 16 := by have := hw.1; omega
                obtain ⟨τ, t1, t2⟩ := actC h2' hA i1 D2 wd ht' hk3
                have F : Fp (fun a i => ¬ a = a0 + 1) σ3 τ := (fp_Li_act (A := fun a i => ¬ a = a0 + 1) Fp.rf (by omega) (by omega) (by omega) (by omega) (fun i => by omega) _ t1).2
                obtain ⟨σ', g1, g2⟩ := fin t2 w5 (fun j => F.i (by omega)) k19 k23
                refine ⟨σ', ?_, g2⟩
                rw [hpre]
                show (if nI (kd t) = 17 then _ else _) = _
                have nk : ∀ x : Nat, 17 ≤ x → x < 100 → ¬ nI (kd t) = nI x := fun x y1 y2 => by rw [eq_nI (by omega) (by omega)]; omega
                rw [if_neg (nk 17 (by omega) (by omega)), if_neg (nk 18 (by omega) (by omega)), if_neg (nk 19 (by omega) (by omega)), if_neg (nk 20 (by omega) (by omega)), if_neg (nk 21 (by omega) (by omega)), if_neg (nk 22 (by omega) (by omega)), if_neg (nk 23 (by omega) (by omega)), if_neg (nk 24 (by omega) (by omega)), if_neg (nk 25 (by omega) (by omega)), t1, bd2_s, m0, g1]
end FOLc
