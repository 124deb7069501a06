theorem Atr.q (a i : Nat) (h : Atr a i) : Am0 a i := by unfold Atr at h; unfold Am0; omega
theorem A35.q (a i : Nat) (h : A35 a i) : Ac0 a i := by unfold A35 at h; unfold Ac0; omega
theorem call_tree {σ : St} (I : Inv σ) (p : Int32) : Call (fun σ => RC_tree σ p) (fun σ => Mo_tree σ p) σ := by
  obtain ⟨c, od, on, rs, md, nm, hc, hm, w⟩ := I.2.2.2.2.1
  have ho := w.on4
  have hsp := spanOf_n hc w (s := on) (by omega)
  rcases within_ex p (lo := 0) (hi := 3) 0 3 rfl rfl (by omega) with h | ⟨n, _, hn, rfl, h⟩
  · refine call_s (r := -1) (v := 1) I ?_ (fun σ1 F => ?_)
    · show RC_tree σ p = _
      unfold RC_tree
      rw [h, bd_s, if_pos rfl, RC_refuse_n, bd2_s]
    · show Mo_tree σ1 p = _
      unfold Mo_tree
      rw [isFrom_w, h, bd_s, if_pos rfl, Mo_refuse_n, bd2_s]
  by_cases h0 : spn md on c = 0
  · refine call_w (r := -1) I ?_ (fun σ1 F => ?_)
    · show RC_tree σ (nI n) = _
      unfold RC_tree
      rw [h, bd_s, if_neg (by decide), hc.2.1, hsp, bd_s, h0, if_pos (show nI 0 = 0 from rfl), RC_refuse_n, bd2_s]
    · show Mo_tree σ1 (nI n) = _
      unfold Mo_tree
      rw [isFrom_w, h, bd_s, if_neg (by decide), laysNow_0 (hm.w2 F) w h0, bd2_s, if_pos rfl, Mo_refuse_n, bd2_s]
  obtain ⟨p1, p2⟩ := spn_pos h0
  obtain ⟨S, hS⟩ : ∃ S, S = spn md on c := ⟨_, rfl⟩
  obtain ⟨kd, hkd⟩ : ∃ kd : Nat → Nat → Nat, ∀ i a, kd i a = kdn c on rs md a (mi S i) := ⟨_, fun _ _ => rfl⟩
  obtain ⟨τ, a1, a2, ⟨t0, t1, t2, t3⟩⟩ := grow_n hc w hS h0 hkd
  rw [← hS] at hsp p1 p2
  refine call_v I (a2.mono A35.q) (r := if n = 0 then nI (Dn w0 kd S 13 0 0) else if n = 1 then nI (Dn w1 kd S 13 0 0) else if n = 2 then nI (Dn w2 kd S 13 0 0) else nI (Mn kd S 13 0 0)) (v := 0) ?_ (fun σ1 F => ?_)
  · show RC_tree σ (nI n) = _
    unfold RC_tree
    rw [h, bd_s, if_neg (by decide), hc.2.1, hsp, bd_s, if_neg (by rw [show (0 : Int32) = nI 0 from rfl, eq_nI (by omega) (by omega)]; omega), a1, bd_s, t0, t1, t2, t3, RC_answer_n, RC_answer_n, RC_answer_n, RC_answer_n, bd2_s, bd2_s, bd2_s, bd2_s]
    rcases (show n = 0 ∨ n = 1 ∨ n = 2 ∨ n = 3 by omega) with rfl | rfl | rfl | rfl <;> rfl
  · obtain ⟨υ, b1, b2, b3, b4, b5⟩ := laysNow_n (hm.w2 F) w h0
    rw [← hS] at b4
    obtain ⟨ω, c1, c2, ⟨q0, q1, q2, q3⟩⟩ := treeM_n b3 w hS h0 b4 hkd
    refine ⟨ω, (b2.mono Aly.q).tr (c2.mono Atr.q), ?_⟩
    show Mo_tree σ1 (nI n) = _
    unfold Mo_tree
    rw [isFrom_w, h, bd_s, if_neg (by decide), b1, bd2_s, if_neg (by decide), c1, bd_s, ix_nI (by omega) (by omega), chk_true, tn_nI (by omega), Mo_gives_n, bd2_s]
    rcases (show n = 0 ∨ n = 1 ∨ n = 2 ∨ n = 3 by omega) with rfl | rfl | rfl | rfl
    · rw [q0]; rfl
    · rw [q1]; rfl
    · rw [q2]; rfl
    · rw [q3]; rfl
/-! leafOf -/
theorem call_leafOf {σ : St} (I : Inv σ) (p : Int32) : Call (fun σ => RC_leafOf σ p) (fun σ => Mo_leafOf σ p) σ := by
  obtain ⟨c, od, on, rs, md, nm, hc, hm, w⟩ := I.2.2.2.2.1
  have ho := w.on4
  have hc12 := w.1
  have hsp := spanOf_n hc w (s := on) (by omega)
  rcases within_ex p (lo := 0) (hi := 9999) 0 9999 rfl rfl (by omega) with h | ⟨n, _, hn, rfl, h⟩
  · refine call_s (r := -1) (v := 1) I ?_ (fun σ1 F => ?_)
    · show RC_leafOf σ p = _
      unfold RC_leafOf
      rw [h, bd_s, if_pos rfl, RC_refuse_n, bd2_s]
    · show Mo_leafOf σ1 p = _
      unfold Mo_leafOf
      rw [isFrom_w, h, bd_s, if_pos rfl, Mo_refuse_n, bd2_s]
  by_cases h0 : spn md on c = 0
  · refine call_w (r := -1) I ?_ (fun σ1 F => ?_)
    · show RC_leafOf σ (nI n) = _
      unfold RC_leafOf
      rw [h, bd_s, if_neg (by decide), hc.2.1, hsp, bd_s, h0, if_pos (show nI 0 = 0 from rfl), RC_refuse_n, bd2_s]
    · show Mo_leafOf σ1 (nI n) = _
      unfold Mo_leafOf
      rw [isFrom_w, h, bd_s, if_neg (by decide), laysNow_0 (hm.w2 F) w h0, bd2_s, if_pos rfl, Mo_refuse_n, bd2_s]
  obtain ⟨p1, p2⟩ := spn_pos h0
  obtain ⟨S, hS⟩ : ∃ S, S = spn md on c := ⟨_, rfl⟩
  rw [← hS] at hsp p1 p2
  have hlst : kdn c on rs md (n % mi S 13) (mi S 13) ≠ 2 := by
    rw [mi_13 p1 p2, hS]
    exact kdn_S h0
  obtain ⟨L, ⟨L1, L2⟩, L3⟩ := pk_least (fun i => kdn c on rs md (n % mi S i) (mi S i) ≠ 2 ∧ i ≤ 13) ⟨13, hlst, Nat.le_refl _⟩
  have hmix : ∀ i, i < L → kdn c on rs md (n % mi S i) (mi S i) = 2 := fun i hi => Classical.byContradiction (fun z => L3 i hi ⟨z, by omega⟩)
  have hcn : ∀ x m, ¬ kdn c on rs md x m = 2 ↔ (¬ 0 < fb_ct (tcb on rs md x m) c ∨ 0 < fb_ct (cdb on rs md x m) c) := fun x m => by
    unfold kdn
    by_cases z : 0 < fb_ct (cdb on rs md x m) c
    · rw [if_pos z]; exact ⟨fun _ => Or.inr z, fun _ => by omega⟩
    · rw [if_neg z]
      by_cases y : 0 < fb_ct (tcb on rs md x m) c
      · rw [if_pos y]
        constructor
        · intro q; exact absurd rfl q
        · rintro (q | q)
          · exact absurd y q
          · exact absurd q z
      · rw [if_neg y]; exact ⟨fun _ => Or.inl y, fun _ => by omega⟩
  have hme := fun i => mi_n p1 i
  have kc : Tr_leafWith σ 7 (nI S) (nI n) = some (nI (mi S L)) := by
    unfold Tr_leafWith
    have tt : ∀ i, Cl_touching σ 7 (σ.1 7 4) (nI (n % mi S i)) (nI (mi S i)) = some (nI (bset (tcb on rs md (n % mi S i) (mi S i)) c)) := fun i => by
      obtain ⟨g1, g2, g3, g4⟩ := hme i
      have hl : n % mi S i < mi S i := Nat.mod_lt _ (by omega)
      rw [hc.2.1, touching_n hc w (by omega) (by omega) (by omega) (by omega)]
      rfl
    have hT4 : ∀ i, bset (tcb on rs md (n % mi S i) (mi S i)) c < 4096 := fun i => bset_4 _ hc12
    refine iter_for (body := fun u : (Int32 × Int32) => Tr_leafWith_L5 7 (nI S) (nI n) σ u.1 u.2) (fun i => (nI (mi S i), nI i)) (lo := 0) (hi := L) (n := FUEL) (Nat.zero_le _) (fuel (by omega)) ?_ ?_
    · intro i _ hi
      show Tr_leafWith_L5 7 (nI S) (nI n) σ (nI (mi S i)) (nI i) = some (.inl (nI (mi S (i + 1)), nI (i + 1)))
      obtain ⟨g1, g2, g3, g4⟩ := hme i
      have hk := hmix i hi
      have hz : ¬ (¬ 0 < fb_ct (tcb on rs md (n % mi S i) (mi S i)) c ∨ 0 < fb_ct (cdb on rs md (n % mi S i) (mi S i)) c) := fun z => (hcn _ _).mpr z hk
      have hz1 : 0 < fb_ct (tcb on rs md (n % mi S i) (mi S i)) c := Classical.byContradiction (fun z => hz (Or.inl z))
      have hz2 : ¬ 0 < fb_ct (cdb on rs md (n % mi S i) (mi S i)) c := fun z => hz (Or.inr z)
      have hn2 := mixed_lt hS h0 hk
      have hn3 : S / mi S i ≤ 5040 := Nat.le_trans (Nat.div_le_self _ _) p2
      have h4 := hT4 i
      unfold Tr_leafWith_L5
      rw [show (40 : Int32) = nI 40 from rfl, if_neg (by rw [le_nI (by omega) (by omega)]; omega), leftBy_n (by omega) (by omega) (by omega), bd_s, tt i, bd_s, if_neg (by rw [show (0 : Int32) = nI 0 from rfl, eq_nI (by omega) (by omega)]; exact fun e => tset_0.mp e hz1), anyMod_n hc w (by omega) (by omega), cset_eq, if_neg hz2, bd_s, if_pos rfl, partBy_n (by omega) (by omega) (by omega), bd_s, primeC_n hn2 hn3, bd_s, pk_mul, bnd_x, bnd_x, nI_1, mi_s]
    · show Tr_leafWith_L5 7 (nI S) (nI n) σ (nI (mi S L)) (nI L) = _
      obtain ⟨g1, g2, g3, g4⟩ := hme L
      have h4 := hT4 L
      unfold Tr_leafWith_L5
      rw [show (40 : Int32) = nI 40 from rfl, if_neg (by rw [le_nI (by omega) (by omega)]; omega), leftBy_n (by omega) (by omega) (by omega), bd_s, tt L, bd_s]
      by_cases z : 0 < fb_ct (tcb on rs md (n % mi S L) (mi S L)) c
      · have z2 : 0 < fb_ct (cdb on rs md (n % mi S L) (mi S L)) c := ((hcn _ _).mp L1).resolve_left (fun y => y z)
        rw [if_neg (by rw [show (0 : Int32) = nI 0 from rfl, eq_nI (by omega) (by omega)]; exact fun e => tset_0.mp e z), anyMod_n hc w (by omega) (by omega), cset_eq, if_pos z2, bd_s, if_neg (by decide)]
      · rw [if_pos (by rw [tset_0.mpr z]; rfl)]
  refine call_v I (Fp.rf (σ := σ)) (r := nI (mi S L)) (v := 0) ?_ (fun σ1 F => ?_)
  · show RC_leafOf σ (nI n) = _
    unfold RC_leafOf
    rw [h, bd_s, if_neg (by decide), hc.2.1, hsp, bd_s, if_neg (by rw [show (0 : Int32) = nI 0 from rfl, eq_nI (by omega) (by omega)]; omega), kc, bd_s, RC_answer_n, bd2_s]
  · obtain ⟨υ, b1, b2, b3, b4, b5⟩ := laysNow_n (hm.w2 F) w h0
    rw [← hS] at b4
    refine ⟨υ, b2.mono Aly.q, ?_⟩
    have key : iter (fun s : Int32 => Mo_leafOf_L34 (nI n) υ s) FUEL 1 = some (nI (mi S L)) := by
      refine iter_for (body := fun s : Int32 => Mo_leafOf_L34 (nI n) υ s) (fun i => nI (mi S i)) (lo := 0) (hi := L) (n := FUEL) (Nat.zero_le _) (fuel (by omega)) ?_ ?_
      · intro i _ hi
        show Mo_leafOf_L34 (nI n) υ (nI (mi S i)) = some (.inl (nI (mi S (i + 1))))
        obtain ⟨g1, g2, g3, g4⟩ := hme i
        have hl : n % mi S i < mi S i := Nat.mod_lt _ (by omega)
        have hk := hmix i hi
        have hn2 := mixed_lt hS h0 hk
        have hn3 : S / mi S i ≤ 5040 := Nat.le_trans (Nat.div_le_self _ _) p2
        unfold Mo_leafOf_L34
        rw [nz_nI (by omega) (by omega), chk_true, rem_nI (by omega) (by omega) (by omega), kind_m b3 w (by omega) (by omega) (by omega), hk, bd_s, if_pos (by decide), chk_true, b4, div_nI (by omega) (by omega) (by omega), primeM_n hn2 hn3, bd_s, pk_mul, bnd_x, mi_s]
      · show Mo_leafOf_L34 (nI n) υ (nI (mi S L)) = _
        obtain ⟨g1, g2, g3, g4⟩ := hme L
        have hl : n % mi S L < mi S L := Nat.mod_lt _ (by omega)
        have hk2 := kdn_le c on rs md (n % mi S L) (mi S L)
        unfold Mo_leafOf_L34
        rw [nz_nI (by omega) (by omega), chk_true, rem_nI (by omega) (by omega) (by omega), kind_m b3 w (by omega) (by omega) (by omega), bd_s, show (2 : Int32) = nI 2 from rfl, if_neg (by rw [eq_nI (by omega) (by omega)]; exact L1)]
    show Mo_leafOf σ1 (nI n) = _
    unfold Mo_leafOf
    rw [isFrom_w, h, bd_s, if_neg (by decide), b1, bd2_s, if_neg (by decide), key, bd_s, Mo_gives_n, bd2_s]
