section JN2
variable {σ : St} {a c od on : Nat} {rs md nm : Nat → Nat}
/-- a system without those of a set, from behind -/
def jnT (o c : Nat) (s : Nat × Nat × (Nat → Nat) × (Nat → Nat) × (Nat → Nat)) : Nat → Nat × Nat × (Nat → Nat) × (Nat → Nat) × (Nat → Nat)
  | 0 => s
  | j + 1 => if o.testBit (c - 1 - j) = true then ((jnT o c s j).1 - 1, dropS (jnT o c s j).2.1 (c - 1 - j), without (jnT o c s j).2.2.1 (c - 1 - j), without (jnT o c s j).2.2.2.1 (c - 1 - j), without (jnT o c s j).2.2.2.2 (c - 1 - j)) else jnT o c s j
theorem jnT_s (o c : Nat) (s : Nat × Nat × (Nat → Nat) × (Nat → Nat) × (Nat → Nat)) (j : Nat) : jnT o c s (j + 1) = if o.testBit (c - 1 - j) = true then ((jnT o c s j).1 - 1, dropS (jnT o c s j).2.1 (c - 1 - j), without (jnT o c s j).2.2.1 (c - 1 - j), without (jnT o c s j).2.2.2.1 (c - 1 - j), without (jnT o c s j).2.2.2.2 (c - 1 - j)) else jnT o c s j := rfl
def CVt (σ : St) (od : Nat) (s : Nat × Nat × (Nat → Nat) × (Nat → Nat) × (Nat → Nat)) : Prop := CV σ 7 s.1 od s.2.1 s.2.2.1 s.2.2.2.1 s.2.2.2.2
def MVt (σ : St) (od : Nat) (s : Nat × Nat × (Nat → Nat) × (Nat → Nat) × (Nat → Nat)) : Prop := MV σ 0 0 s.1 od s.2.1 s.2.2.1 s.2.2.2.1 s.2.2.2.2
def WFt (od : Nat) (s : Nat × Nat × (Nat → Nat) × (Nat → Nat) × (Nat → Nat)) : Prop := WF s.1 od s.2.1 s.2.2.1 s.2.2.2.1 s.2.2.2.2
theorem jnT_w {o : Nat} {s : Nat × Nat × (Nat → Nat) × (Nat → Nat) × (Nat → Nat)} (hs : s.1 = c) (w : WFt od s) : ∀ j, j ≤ c → WFt od (jnT o c s j) ∧ c ≤ (jnT o c s j).1 + j
  | 0, _ => ⟨w, by show c ≤ s.1 + 0; omega⟩
  | j + 1, hj => by
    obtain ⟨i1, i2⟩ := jnT_w hs w j (by omega)
    rw [jnT_s]
    by_cases q : o.testBit (c - 1 - j) = true
    · rw [if_pos q]
      refine ⟨WF.drop i1 (by omega), ?_⟩
      show c ≤ (jnT o c s j).1 - 1 + (j + 1)
      omega
    · rw [if_neg q]
      exact ⟨i1, by omega⟩
def dnI (c j : Nat) : Int32 := if j < c then nI (c - 1 - j) else -1
theorem dnI_s {c j : Nat} (h : j < c) : dnI c j + (-1) = dnI c (j + 1) := by
  unfold dnI
  rw [if_pos h]
  by_cases z : j + 1 < c
  · rw [if_pos z]
    have := pk_m1 (c - 1 - (j + 1))
    rwa [show c - 1 - (j + 1) + 1 = c - 1 - j by omega] at this
  · rw [if_neg z, show c - 1 - j = 0 by omega]; rfl
theorem mergeC_n {o k : Nat} {s : Nat × Nat × (Nat → Nat) × (Nat → Nat) × (Nat → Nat)} (hs : s.1 = c) (hv : CVt σ od s) (w : WFt od s) (hk : k < c) (ho : o < 2 ^ c) (hok : o.testBit k = false) : ∃ σ', iter (fun u : (Int32 × St) => Cl_merge_L45 7 (nI k) (nI (o ||| 2 ^ k)) u.2 u.1) FUEL (dnI c 0, σ) = some σ' ∧ CVt σ' od (jnT o c s c) := by
  have hc : c ≤ 12 := by rw [← hs]; exact w.1
  have hp := p2_12 hc
  have hor : o ||| 2 ^ k < 4096 := Nat.lt_of_lt_of_le (Nat.or_lt_two_pow ho (Nat.pow_lt_pow_right (by decide) hk)) hp
  refine iter_cnt (body := fun u : (Int32 × St) => Cl_merge_L45 7 (nI k) (nI (o ||| 2 ^ k)) u.2 u.1) (fun j u => u.1 = dnI c j ∧ CVt u.2 od (jnT o c s j)) (fun e => CVt e od (jnT o c s c)) (lo := 0) (hi := c) (n := FUEL) (Nat.zero_le _) (fuel (by omega)) ?_ ?_ (s := (dnI c 0, σ)) ⟨rfl, hv⟩
  · rintro j ⟨x, u⟩ _ hj ⟨rfl, hu⟩
    have hu' : CVt u od (jnT o c s j) := hu
    obtain ⟨i1, i2⟩ := jnT_w (o := o) hs w j (by omega)
    have st := dnI_s hj
    have e0 : dnI c j = nI (c - 1 - j) := if_pos hj
    have hb : (o ||| 2 ^ k).testBit (c - 1 - j) = (o.testBit (c - 1 - j) || decide (k = c - 1 - j)) := or_bit
    by_cases q : o.testBit (c - 1 - j) = true
    · have hne : ¬ c - 1 - j = k := fun e => by rw [e, hok] at q; exact absurd q (by decide)
      obtain ⟨τ, t1, t2⟩ := remove_n hu' i1 (k := c - 1 - j) (by omega)
      refine ⟨(dnI c (j + 1), τ), ?_, rfl, ?_⟩
      · show Cl_merge_L45 7 (nI k) (nI (o ||| 2 ^ k)) u (dnI c j) = _
        unfold Cl_merge_L45
        rw [st, e0, if_neg (nI_pos (by omega)), if_neg (by rw [eq_nI (by omega) (by omega)]; omega), isIn_b (by omega) (by omega), hb, q, Bool.true_or, if_pos rfl, bd_s, if_neg (by decide), t1, bd_s, bnd_x]
      · show CVt τ od (jnT o c s (j + 1))
        rw [jnT_s, if_pos q]
        exact t2
    · have q' : o.testBit (c - 1 - j) = false := by simpa using q
      refine ⟨(dnI c (j + 1), u), ?_, rfl, ?_⟩
      · show Cl_merge_L45 7 (nI k) (nI (o ||| 2 ^ k)) u (dnI c j) = _
        unfold Cl_merge_L45
        rw [st, e0, if_neg (nI_pos (by omega)), bnd_x]
        by_cases e : c - 1 - j = k
        · rw [if_pos (by rw [e])]
        · rw [if_neg (by rw [eq_nI (by omega) (by omega)]; omega), isIn_b (by omega) (by omega), hb, q', decide_eq_false (fun z => e z.symm), Bool.or_false, if_neg (by decide), bd_s, if_pos rfl]
      · show CVt u od (jnT o c s (j + 1))
        rw [jnT_s, if_neg q]
        exact hu'
  · rintro ⟨x, u⟩ ⟨rfl, hu⟩
    refine ⟨u, ?_, hu⟩
    show Cl_merge_L45 7 (nI k) (nI (o ||| 2 ^ k)) u (dnI c c) = _
    unfold Cl_merge_L45
    rw [if_pos (by rw [show dnI c c = -1 from if_neg (by omega)]; decide)]
theorem mergeM_n {o : Nat} {s : Nat × Nat × (Nat → Nat) × (Nat → Nat) × (Nat → Nat)} (hs : s.1 = c) (hv : MVt σ od s) (w : WFt od s) (ho : o < 2 ^ c) : ∃ σ', iter (fun u : (Int32 × St) => Mo_join_L170 (nI o) u.2 u.1) FUEL (11, σ) = some σ' ∧ MVt σ' od (jnT o c s c) ∧ Fp Ms σ σ' := by
  have hc : c ≤ 12 := by rw [← hs]; exact w.1
  have hp := p2_12 hc
  refine iter_cnt (body := fun u : (Int32 × St) => Mo_join_L170 (nI o) u.2 u.1) (fun i u => u.1 = dnI 12 i ∧ MVt u.2 od (jnT o c s (i - (12 - c))) ∧ Fp Ms σ u.2) (fun e => MVt e od (jnT o c s c) ∧ Fp Ms σ e) (lo := 0) (hi := 12) (n := FUEL) (Nat.zero_le _) (fuel (by omega)) ?_ ?_ (s := (11, σ)) ⟨rfl, by rw [show 0 - (12 - c) = 0 by omega]; exact hv, Fp.rf⟩
  · rintro i ⟨x, u⟩ _ hi ⟨rfl, hu, F⟩
    have F' : Fp Ms σ u := F
    have st := dnI_s hi
    have e0 : dnI 12 i = nI (12 - 1 - i) := if_pos hi
    by_cases hlow : i < 12 - c
    · have q : o.testBit (12 - 1 - i) = false := Nat.testBit_lt_two_pow (Nat.lt_of_lt_of_le ho (Nat.pow_le_pow_right (by decide) (by omega)))
      refine ⟨(dnI 12 (i + 1), u), ?_, rfl, ?_, F⟩
      · show Mo_join_L170 (nI o) u (dnI 12 i) = _
        unfold Mo_join_L170
        rw [st, e0, if_neg (nI_pos (by omega)), isInM_b (by omega) (by omega), q, if_neg (by decide), bd_s, if_pos rfl, bnd_x]
      · show MVt u od (jnT o c s (i + 1 - (12 - c)))
        have hu' : MVt u od (jnT o c s (i - (12 - c))) := hu
        rw [show i - (12 - c) = 0 by omega] at hu'
        rw [show i + 1 - (12 - c) = 0 by omega]
        exact hu'
    · obtain ⟨j, hj⟩ : ∃ j, j = i - (12 - c) := ⟨_, rfl⟩
      have hu' : MVt u od (jnT o c s j) := by rw [hj]; exact hu
      have ei : 12 - 1 - i = c - 1 - j := by omega
      obtain ⟨i1, i2⟩ := jnT_w (o := o) hs w j (by omega)
      by_cases q : o.testBit (c - 1 - j) = true
      · obtain ⟨τ, t1, t2, t3⟩ := takesAway_n hu' i1.1 i1.on4 (k := c - 1 - j) (by omega)
        refine ⟨(dnI 12 (i + 1), τ), ?_, rfl, ?_, F'.tr t3⟩
        · show Mo_join_L170 (nI o) u (dnI 12 i) = _
          unfold Mo_join_L170
          rw [st, e0, ei, if_neg (nI_pos (by omega)), isInM_b (by omega) (by omega), q, if_pos rfl, bd_s, if_neg (by decide), t1, bd_s, bnd_x]
        · show MVt τ od (jnT o c s (i + 1 - (12 - c)))
          rw [show i + 1 - (12 - c) = j + 1 by omega, jnT_s, if_pos q]
          exact t2
      · refine ⟨(dnI 12 (i + 1), u), ?_, rfl, ?_, F⟩
        · show Mo_join_L170 (nI o) u (dnI 12 i) = _
          unfold Mo_join_L170
          rw [st, e0, ei, if_neg (nI_pos (by omega)), isInM_b (by omega) (by omega), if_neg q, bd_s, if_pos rfl, bnd_x]
        · show MVt u od (jnT o c s (i + 1 - (12 - c)))
          rw [show i + 1 - (12 - c) = j + 1 by omega, jnT_s, if_neg q]
          exact hu'
  · rintro ⟨x, u⟩ ⟨rfl, hu, F⟩
    refine ⟨u, ?_, ?_, F⟩
    · show Mo_join_L170 (nI o) u (dnI 12 12) = _
      unfold Mo_join_L170
      rw [if_pos (by decide)]
    · have hu' : MVt u od (jnT o c s (12 - (12 - c))) := hu
      rwa [show 12 - (12 - c) = c by omega] at hu'
end JN2
theorem call_join {σ : St} (I : Inv σ) (p p2 : Int32) : Call (fun σ => RC_join σ p p2) (fun σ => Mo_join σ p p2) σ := by
  obtain ⟨c, od, on, rs, md, nm, hc, hm, w⟩ := I.2.2.2.2.1
  have hc12 := w.1
  by_cases hx : ix p c = true
  · obtain ⟨k, hk, rfl, hk2⟩ := ix_ex hx
    obtain ⟨m1, m2, m3⟩ := w.2.2.2.1 k hk
    have h1 := isThere_g hc.1 (by omega) (nI k)
    rw [if_pos hx] at h1
    have h2 : ∀ {σ1}, MV σ1 0 0 c od on rs md nm → Mo_isClass σ1 (nI k) = some 1 := fun F => by rw [isClass_g F (by omega), if_pos hx]
    rcases within_ex p2 (lo := 2) (hi := 7) 2 7 rfl rfl (by omega) with h | ⟨n, hn2, hn, rfl, h⟩
    · refine call_s (r := -1) (v := 1) I ?_ (fun σ1 F => ?_)
      · show RC_join σ (nI k) p2 = _
        unfold RC_join
        rw [h1, bd_s, if_neg (by decide), h, bd_s, if_pos rfl, RC_refuse_n, bd2_s]
      · show Mo_join σ1 (nI k) p2 = _
        unfold Mo_join
        rw [h2 (hm.w F), bd_s, if_neg (by decide), isFrom_w, h, bd_s, if_pos rfl, Mo_refuse_n, bd2_s]
    have hml : md k % n < n := Nat.mod_lt _ (by omega)
    by_cases hd : md k % n = 0
    · obtain ⟨_, s1, s2⟩ := ptw_lt w hk hn2 (show 0 < n by omega) hd
      have preC : ∀ z, Cl_partsWith σ 7 (nI k) (nI n) = some z → RC_join σ (nI k) (nI n) = if z = 0 then some (-1, wI σ 0 0 6) else bd (Cl_merge σ 7 (nI k) (nI n) z) (fun σ14 => bd2 (RC_answer σ14 (σ14.1 7 3)) (fun r16 σ17 => some (r16, σ17))) := fun z hz => by
        unfold RC_join
        rw [h1, bd_s, if_neg (by decide), h, bd_s, if_neg (by decide), ix_nI (by omega) (by omega), chk_true, tn_nI (by omega), hc.2.2.2.2.1 k hk, leftBy_n (by omega) (by omega) (by omega), bd_s, hd, if_pos (show nI 0 = 0 from rfl), hz, bd_s, RC_refuse_n, bd2_s]
      have preM : ∀ {σ1 : St}, MV σ1 0 0 c od on rs md nm → ∀ y, iter (fun u : (Int32 × Int32) => Mo_join_L68 (nI k) (nI n) (nI (md k / n)) (nI (rs k % (md k / n))) σ1 u.1 u.2) FUEL (0, 0) = some y → Mo_join σ1 (nI k) (nI n) = bs1 (some y) (fun v36 => bd (iter (fun s : (Int32 × St) => Mo_join_L170 v36 s.2 s.1) FUEL (11, wI (wI σ1 93 (4 + 3 * k) (nI (rs k % (md k / n)))) 93 (5 + 3 * k) (nI (md k / n)))) (fun σ58 => chk (ix 0 2060) (bd2 (Mo_gives σ58 (σ58.1 93 (tn 0))) (fun r62 σ63 => some (r62, σ63))))) := fun {σ1} hm1 y hy => by
        unfold Mo_join
        rw [h2 hm1, bd_s, if_neg (by decide), isFrom_w, h, bd_s, if_neg (by decide), modulusOf_n hm1 w hk, bd_s, nz_nI (by omega) (by omega), chk_true, rem_nI (by omega) (by omega) (by omega), hd, if_pos (show nI 0 = 0 from rfl), bd_s, chk_true, div_nI (by omega) (by omega) (by omega), bnd_x, restOf_n hm1 w hk, bd_s, nz_nI (by omega) (by omega), chk_true, rem_nI (by omega) (by omega) (by omega), bnd_x, hy, rowOf_n]
        congr 1
        funext v36
        rw [bd_s, ix_nI (by omega) (by omega), chk_true, tn_nI (by omega), bnd_x, bd_s, nI_1, ix_nI (by omega) (by omega), chk_true, tn_nI (by omega), bnd_x, show 4 + 3 * k + 1 = 5 + 3 * k by omega]
      have hpc := parts_c hc w hk hn2 hn hd
      by_cases q : fa_first (lck c on rs md k (md k / n)) n < n
      · rw [if_pos q] at hpc
        refine call_s (r := -1) (v := 6) I ?_ (fun σ1 F => ?_)
        · show RC_join σ (nI k) (nI n) = _
          rw [preC _ hpc, if_pos rfl]
        · show Mo_join σ1 (nI k) (nI n) = _
          have hpm := parts_m (hm.w F) w hk hn2 hn hd
          rw [if_pos q] at hpm
          rw [preM (hm.w F) _ hpm]
          rfl
      · rw [if_neg q] at hpc
        have hnl : ∀ i, i < n → lck c on rs md k (md k / n) i = false := fun i hi => fa_first_no _ n i (by omega)
        obtain ⟨o1, o2⟩ := oth_b n hnl
        have hp := p2_12 hc12
        obtain ⟨O, hO⟩ : ∃ O, O = oth c on rs md k (md k / n) n := ⟨_, rfl⟩
        rw [← hO] at o1 o2 hpc
        have hor : O ||| 2 ^ k < 4096 := Nat.lt_of_lt_of_le (Nat.or_lt_two_pow o1 (Nat.pow_lt_pow_right (by decide) hk)) hp
        have hne : ¬ O ||| 2 ^ k = 0 := fun e => by
          have := or_bit (on := O) (k := k) (j := k)
          rw [e, Nat.zero_testBit, decide_eq_true rfl, Bool.or_true] at this
          exact absurd this (by decide)
        have hrl : rs k % (md k / n) < md k / n := Nat.mod_lt _ (by omega)
        have w1 : WFt od (c, on, fset rs k (rs k % (md k / n)), fset md k (md k / n), nm) := by
          refine ⟨w.1, w.2.1, w.2.2.1, fun i hi => ?_, w.2.2.2.2⟩
          obtain ⟨b1, b2, b3⟩ := w.2.2.2.1 i hi
          show 1 ≤ fset md k (md k / n) i ∧ fset md k (md k / n) i ≤ 60 ∧ fset rs k (rs k % (md k / n)) i < fset md k (md k / n) i
          by_cases e : i = k
          · subst e; rw [fset_1, fset_1]; omega
          · rw [fset_2 _ _ e, fset_2 _ _ e]; omega
        have v1 : CVt (wI (wI σ (7 + 2) k (nI (md k / n))) (7 + 1) k (nI (rs k % (md k / n)))) od (c, on, fset rs k (rs k % (md k / n)), fset md k (md k / n), nm) := (hc.mod (k := k) (v := md k / n)).rest
        obtain ⟨τ, t1, t2⟩ := mergeC_n (o := O) rfl v1 w1 hk o1 o2
        have t1' : iter (fun u : (Int32 × St) => Cl_merge_L45 7 (nI k) (nI (O ||| 2 ^ k)) u.2 u.1) FUEL (nI c - 1, wI (wI σ (7 + 2) k (nI (md k / n))) (7 + 1) k (nI (rs k % (md k / n)))) = some τ := by
          rw [show nI c - 1 = dnI c 0 from by
            unfold dnI
            rw [if_pos (by omega)]
            exact sub_nI (a := c) (b := 1) (by omega)]
          exact t1
        have em : Cl_merge σ 7 (nI k) (nI n) (nI (O ||| 2 ^ k)) = some τ := by
          unfold Cl_merge
          rw [ix_nI (by omega) (by omega), chk_true, tn_nI (by omega), hc.2.2.2.2.1 k hk, partBy_n (by omega) (by omega) (by omega), bd_s, chk_true, bnd_x, chk_true, chk_true, wI_ne (by omega), hc.2.2.2.1 k hk, wI_s, leftBy_n (by omega) (by omega) (by omega), bd_s, chk_true, bnd_x, wI_ne (by omega), wI_ne (by omega), hc.1, bnd_x, t1', bd_s]
        obtain ⟨wj, _⟩ := jnT_w (o := O) (c := c) rfl w1 c (Nat.le_refl _)
        have e1 : RC_join σ (nI k) (nI n) = some (nI (jnT O c (c, on, fset rs k (rs k % (md k / n)), fset md k (md k / n), nm) c).1, wI τ 0 0 0) := by
          rw [preC _ hpc, if_neg (by rw [show (0 : Int32) = nI 0 from rfl, eq_nI (by omega) (by omega)]; exact hne), em, bd_s, t2.1, RC_answer_n, bd2_s]
        have F1 := (fp_RC_join (A := Acs) (Fp.rf (σ := σ)) (by intros; unfold Acs; omega) (by intros; unfold Acs; omega) (by intros; unfold Acs; omega) (by intros; unfold Acs; omega) (by intros; unfold Acs; omega) (by intros; unfold Acs; omega) _ e1).2
        have hmm := hm.ws F1
        have v2 : MVt (wI (wI (wI τ 0 0 0) 93 (4 + 3 * k) (nI (rs k % (md k / n)))) 93 (5 + 3 * k) (nI (md k / n))) od (c, on, fset rs k (rs k % (md k / n)), fset md k (md k / n), nm) := (hmm.rest0 (k := k) (v := rs k % (md k / n))).mod0
        obtain ⟨υ, u1, u2, u3⟩ := mergeM_n (o := O) rfl v2 w1 o1
        refine call_m (v := 0) (σ2 := wI υ 92 2 0) I e1 F1 wI_s (CV.st t2 (by omega) 0) ?_ ?_ wI_s (MV.st u2 0) wj
        · show Mo_join (wI τ 0 0 0) (nI k) (nI n) = _
          have hpm := parts_m hmm w hk hn2 hn hd
          rw [if_neg q, ← hO] at hpm
          rw [preM hmm _ hpm]
          show bd (iter (fun s : (Int32 × St) => Mo_join_L170 (nI O) s.2 s.1) FUEL (11, wI (wI (wI τ 0 0 0) 93 (4 + 3 * k) (nI (rs k % (md k / n)))) 93 (5 + 3 * k) (nI (md k / n)))) _ = _
          rw [u1, bd_s, ix00, chk_true, tn00, MV.c0 u2, Mo_gives_n, bd2_s]
        · exact ((Fp.rf.wI (by unfold Ams; omega)).wI (by unfold Ams; omega)).tr ((u3.mono Ms.q).wI (by unfold Ams; omega))
    · refine call_s (r := -1) (v := 7) I ?_ (fun σ1 F => ?_)
      · show RC_join σ (nI k) (nI n) = _
        unfold RC_join
        rw [h1, bd_s, if_neg (by decide), h, bd_s, if_neg (by decide), ix_nI (by omega) (by omega), chk_true, tn_nI (by omega), hc.2.2.2.2.1 k hk, leftBy_n (by omega) (by omega) (by omega), bd_s, show (0 : Int32) = nI 0 from rfl, if_neg (by rw [eq_nI (by omega) (by omega)]; exact hd), RC_refuse_n, bd2_s]
      · show Mo_join σ1 (nI k) (nI n) = _
        unfold Mo_join
        rw [h2 (hm.w F), bd_s, if_neg (by decide), isFrom_w, h, bd_s, if_neg (by decide), modulusOf_n (hm.w F) w hk, bd_s, nz_nI (by omega) (by omega), chk_true, rem_nI (by omega) (by omega) (by omega), show (0 : Int32) = nI 0 from rfl, if_neg (by rw [eq_nI (by omega) (by omega)]; exact hd), Mo_refuse_n, bd2_s]
  · refine call_s (r := -1) (v := 1) I ?_ (fun σ1 F => ?_)
    · show RC_join σ p p2 = _
      unfold RC_join
      rw [isThere_g hc.1 (by omega), if_neg hx, bd_s, if_pos rfl, RC_refuse_n, bd2_s]
    · show Mo_join σ1 p p2 = _
      unfold Mo_join
      rw [isClass_g (hm.w F) (by omega), if_neg hx, bd_s, if_pos rfl, Mo_refuse_n, bd2_s]
