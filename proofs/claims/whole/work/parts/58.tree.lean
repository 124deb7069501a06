def w0 (k : Nat) : Nat := if k = 0 then 1 else 0
def w1 (k : Nat) : Nat := if k = 1 then 1 else 0
def w2 (_ : Nat) : Nat := 1
def T4 (σ : St) (r y0 y1 y2 y3 : Nat) : Prop := σ.1 r 0 = nI y0 ∧ σ.1 r 1 = nI y1 ∧ σ.1 r 2 = nI y2 ∧ σ.1 r 3 = nI y3
def A35 (a i : Nat) : Prop := a = 35
theorem Mn_le {kd : Nat → Nat → Nat} {S : Nat} (hS : 1 ≤ S) : ∀ d i a, Mn kd S d i a ≤ S
  | 0, i, _ => (mi_n hS i).2.2.1
  | d + 1, i, a => by
    rw [Mn_s]
    have h1 := (mi_n hS i).2.2.1
    split
    · have := mx_b (f := fun t => Mn kd S d (i + 1) (a + t * mi S i)) (b := S) (fun t => Mn_le hS d (i + 1) _) (lpf (S / mi S i))
      omega
    · exact h1
theorem Mn_ge {kd : Nat → Nat → Nat} {S : Nat} : ∀ d i a, mi S i ≤ Mn kd S d i a
  | 0, i, _ => Nat.le_refl _
  | d + 1, i, a => by
    rw [Mn_s]
    split
    · omega
    · exact Nat.le_refl _
theorem Dn_leaf {w : Nat → Nat} {kd : Nat → Nat → Nat} {S i a : Nat} (h : ¬ kd i a = 2) : ∀ d, Dn w kd S d i a = w (kd i a)
  | 0 => rfl
  | d + 1 => by rw [Dn_s, if_neg h]; rfl
theorem Mn_leaf {kd : Nat → Nat → Nat} {S i a : Nat} (h : ¬ kd i a = 2) : ∀ d, Mn kd S d i a = mi S i
  | 0 => rfl
  | d + 1 => by rw [Mn_s, if_neg h]
section VI2
variable {c od on : Nat} {rs md nm : Nat → Nat}
def V2 (σ : St) (y2 y3 m : Nat) : St := wI (wI σ 35 2 (nI (y2 + 1))) 35 3 (nI (max y3 m))
theorem V2_F (σ : St) (y2 y3 m : Nat) : Fp A35 σ (V2 σ y2 y3 m) := Fp.wI (Fp.wI (A := A35) Fp.rf (by unfold A35; rfl)) (by unfold A35; rfl)
theorem V2_T {σ : St} {y0 y1 y2 y3 m : Nat} (h : T4 σ 35 y0 y1 y2 y3) : T4 (V2 σ y2 y3 m) 35 y0 y1 (y2 + 1) (max y3 m) := by
  refine ⟨(wI_ne (by omega)).trans ((wI_ne (by omega)).trans h.1), (wI_ne (by omega)).trans ((wI_ne (by omega)).trans h.2.1), (wI_ne (by omega)).trans wI_s, wI_s⟩
theorem visit_h {n : Nat} {σ : St} {s a m S i y0 y1 y2 y3 : Nat} (w : WF c od on rs md nm) (hv : CV σ 7 c od on rs md nm) (hm1 : 1 ≤ m) (hm : m ≤ 5040) (ha : a < m) (hs : s < 4096) (hi : i < 40) (hs1 : ∀ k, k < c → s.testBit k = true → on.testBit k = true) (hs2 : ∀ k, k < c → tcb on rs md a m k = true → s.testBit k = true) (ht : T4 σ 35 y0 y1 y2 y3) (hy3 : y3 ≤ 5040) : Tr_visit (n + 1) σ 7 (nI s) (nI a) (nI m) (nI S) (nI i) = if kdn c on rs md a m = 1 then some (wI (V2 σ y2 y3 m) 35 1 (nI (y1 + 1))) else if kdn c on rs md a m = 0 then some (wI (V2 σ y2 y3 m) 35 0 (nI (y0 + 1))) else bd (RC_partBy_ (nI S) (nI m)) (fun r8 => bd (RC_leastPrimeOf r8) (fun r10 => bd (iter (fun s : (Int32 × St) => Tr_visit_L97 (Tr_visit n) 7 (nI a) (nI m) (nI S) (nI i) (nI (bset (tcb on rs md a m) c)) r10 s.2 s.1) FUEL (0, V2 σ y2 y3 m)) (fun σ15 => some σ15))) := by
  have hc := w.1
  have hv2 : CV (V2 σ y2 y3 m) 7 c od on rs md nm := hv.keep ((V2_F σ y2 y3 m).sm (fun b i q1 q2 q => by unfold A35 at q; omega))
  have hT := touching_n hv2 w (s := s) (x := a) (m := m) (by omega) (by omega) (by omega) (by omega)
  rw [tset_eq hs1 hs2] at hT
  have hT4 : bset (tcb on rs md a m) c < 4096 := bset_4 _ hc
  obtain ⟨t0, t1, t2, t3⟩ := V2_T (m := m) ht
  have hsub : 0 < fb_ct (cdb on rs md a m) c → 0 < fb_ct (tcb on rs md a m) c := fun z => by
    obtain ⟨k, k1, k2⟩ := fb_ct_pos.mp z
    refine fb_ct_pos.mpr ⟨k, k1, ?_⟩
    unfold cdb at k2
    rw [Bool.and_eq_true] at k2
    exact k2.1
  show Tr_visit_F (Tr_visit n) σ 7 (nI s) (nI a) (nI m) (nI S) (nI i) = _
  unfold Tr_visit_F
  rw [ht.2.2.1, nI_1, bnd_x, wI_ne (by omega), ht.2.2.2, jmax_nI (by omega) (by omega), bnd_x, show wI (wI σ 35 2 (nI (y2 + 1))) 35 3 (nI (max y3 m)) = V2 σ y2 y3 m from rfl, hT, bd_s, t0, t1, nI_1, nI_1, bnd_x, bnd_x]
  by_cases z : 0 < fb_ct (tcb on rs md a m) c
  · rw [if_neg (by rw [show (0 : Int32) = nI 0 from rfl, eq_nI (by omega) (by omega)]; exact fun e => tset_0.mp e z), anyMod_n hv2 w (by omega) (by omega), cset_eq, bd_s]
    by_cases y : 0 < fb_ct (cdb on rs md a m) c
    · have hk : kdn c on rs md a m = 0 := by unfold kdn; rw [if_pos y]
      rw [if_pos y, if_neg (by decide), hk, if_neg (by omega), if_pos rfl]
    · have hk : kdn c on rs md a m = 2 := by unfold kdn; rw [if_neg y, if_pos z]
      rw [if_neg y, if_pos rfl, show (40 : Int32) = nI 40 from rfl, if_neg (by rw [le_nI (by omega) (by omega)]; omega), hk, if_neg (by omega), if_neg (by omega)]
  · have hk : kdn c on rs md a m = 1 := by unfold kdn; rw [if_neg (fun y => z (hsub y)), if_neg z]
    rw [if_pos (by rw [tset_0.mpr z]; rfl), hk, if_pos rfl]
theorem visit_n (w : WF c od on rs md nm) {S : Nat} (hS : S = spn md on c) (h0 : ¬ spn md on c = 0) {kd : Nat → Nat → Nat} (hkd : ∀ i a, kd i a = kdn c on rs md a (mi S i)) : ∀ d i, i + d = 13 → ∀ (n : Nat) (σ : St) (s a y0 y1 y2 y3 : Nat), CV σ 7 c od on rs md nm → a < mi S i → s < 4096 → (∀ k, k < c → s.testBit k = true → on.testBit k = true) → (∀ k, k < c → tcb on rs md a (mi S i) k = true → s.testBit k = true) → T4 σ 35 y0 y1 y2 y3 → y3 ≤ 5040 → ∃ σ', Tr_visit (n + d + 1) σ 7 (nI s) (nI a) (nI (mi S i)) (nI S) (nI i) = some σ' ∧ Fp A35 σ σ' ∧ T4 σ' 35 (y0 + Dn w0 kd S d i a) (y1 + Dn w1 kd S d i a) (y2 + Dn w2 kd S d i a) (max y3 (Mn kd S d i a)) := by
  have hc := w.1
  have hS1 : 1 ≤ S := by omega
  have hS2 : S ≤ 5040 := by rw [hS]; exact spn_le md on c
  intro d
  induction d with
  | zero =>
    intro i hi n σ s a y0 y1 y2 y3 hv ha hs hs1 hs2 ht hy3
    have hm := mi_13 hS1 hS2
    have hi13 : i = 13 := by omega
    have hk2 : ¬ kdn c on rs md a (mi S i) = 2 := by rw [hi13, hm, hS]; exact kdn_S h0
    obtain ⟨g1, g2, g3, g4⟩ := mi_n hS1 i
    have hl := kdn_le c on rs md a (mi S i)
    have hh := visit_h (n := n + 0) (S := S) (i := i) w hv g1 (by omega) ha hs (by omega) hs1 hs2 ht hy3
    obtain ⟨t0, t1, t2, t3⟩ := V2_T (m := mi S i) ht
    rw [Dn_leaf (by rw [hkd]; exact hk2), Dn_leaf (by rw [hkd]; exact hk2), Dn_leaf (by rw [hkd]; exact hk2), Mn_leaf (by rw [hkd]; exact hk2), hkd]
    by_cases e : kdn c on rs md a (mi S i) = 1
    · rw [if_pos e] at hh
      refine ⟨_, hh, (V2_F _ _ _ _).wI rfl, ?_⟩
      rw [e]
      exact ⟨(wI_ne (by omega)).trans t0, wI_s, (wI_ne (by omega)).trans t2, (wI_ne (by omega)).trans t3⟩
    · have e0 : kdn c on rs md a (mi S i) = 0 := by omega
      rw [if_neg e, if_pos e0] at hh
      refine ⟨_, hh, (V2_F _ _ _ _).wI rfl, ?_⟩
      rw [e0]
      exact ⟨wI_s, (wI_ne (by omega)).trans t1, (wI_ne (by omega)).trans t2, (wI_ne (by omega)).trans t3⟩
  | succ d ih =>
    intro i hi n σ s a y0 y1 y2 y3 hv ha hs hs1 hs2 ht hy3
    obtain ⟨g1, g2, g3, g4⟩ := mi_n hS1 i
    have hl := kdn_le c on rs md a (mi S i)
    have hh := visit_h (n := n + (d + 1)) (S := S) (i := i) w hv g1 (by omega) ha hs (by omega) hs1 hs2 ht hy3
    obtain ⟨t0, t1, t2, t3⟩ := V2_T (m := mi S i) ht
    by_cases hk2 : kdn c on rs md a (mi S i) = 2
    · rw [Dn_s, Dn_s, Dn_s, Mn_s, if_pos (by rw [hkd]; exact hk2), if_pos (by rw [hkd]; exact hk2), if_pos (by rw [hkd]; exact hk2), if_pos (by rw [hkd]; exact hk2), hkd, hk2]
      rw [if_neg (by omega), if_neg (by omega)] at hh
      have hn2 := mixed_lt hS h0 hk2
      have hn3 : S / mi S i ≤ 5040 := Nat.le_trans (Nat.div_le_self _ _) hS2
      obtain ⟨l1, l2, l3, l4⟩ := lpf_n hn2
      rw [partBy_n (by omega) (by omega) (by omega), bd_s, primeC_n hn2 hn3, bd_s] at hh
      have hT4 : bset (tcb on rs md a (mi S i)) c < 4096 := bset_4 _ hc
      obtain ⟨p, hp⟩ : ∃ p, p = lpf (S / mi S i) := ⟨_, rfl⟩
      have hmp : mi S (i + 1) = mi S i * p := by rw [mi_s, hp]
      rw [← hp] at hh l1 l2 ⊢
      have hgs := (mi_n hS1 (i + 1)).2.2.1
      obtain ⟨ω, c1, c2, c3⟩ := iter_cnt (body := fun u : (Int32 × St) => Tr_visit_L97 (Tr_visit (n + (d + 1))) 7 (nI a) (nI (mi S i)) (nI S) (nI i) (nI (bset (tcb on rs md a (mi S i)) c)) (nI p) u.2 u.1) (fun t u => u.1 = nI t ∧ Fp A35 σ u.2 ∧ T4 u.2 35 (y0 + fb_sm (fun t => Dn w0 kd S d (i + 1) (a + t * mi S i)) t) (y1 + fb_sm (fun t => Dn w1 kd S d (i + 1) (a + t * mi S i)) t) (y2 + 1 + fb_sm (fun t => Dn w2 kd S d (i + 1) (a + t * mi S i)) t) (max (max y3 (mi S i)) (mx (fun t => Mn kd S d (i + 1) (a + t * mi S i)) t))) (fun e => Fp A35 σ e ∧ T4 e 35 (y0 + fb_sm (fun t => Dn w0 kd S d (i + 1) (a + t * mi S i)) p) (y1 + fb_sm (fun t => Dn w1 kd S d (i + 1) (a + t * mi S i)) p) (y2 + 1 + fb_sm (fun t => Dn w2 kd S d (i + 1) (a + t * mi S i)) p) (max (max y3 (mi S i)) (mx (fun t => Mn kd S d (i + 1) (a + t * mi S i)) p))) (lo := 0) (hi := p) (n := FUEL) (Nat.zero_le _) (fuel (by omega)) (by
        rintro t ⟨t', u⟩ _ htp ⟨rfl, F, hT⟩
        have F' : Fp A35 σ u := F
        have hu : CV u 7 c od on rs md nm := hv.keep (F'.sm (fun b i q1 q2 q => by unfold A35 at q; omega))
        have hlt : a + t * mi S i < mi S (i + 1) := by
          rw [hmp]
          have h1 := Nat.mul_le_mul_left (mi S i) (show t + 1 ≤ p from htp)
          rw [Nat.mul_add, Nat.mul_one, Nat.mul_comm (mi S i) t] at h1
          omega
        have hmb := mx_b (f := fun t => Mn kd S d (i + 1) (a + t * mi S i)) (b := S) (fun t => Mn_le hS1 d (i + 1) _) t
        obtain ⟨υ, d1, d2, d3⟩ := ih (i + 1) (by omega) n u (bset (tcb on rs md a (mi S i)) c) (a + t * mi S i) _ _ _ _ hu hlt hT4 (fun k hk hb => by
          rw [bset_bit, decide_eq_true hk, Bool.true_and] at hb
          unfold tcb at hb
          rw [Bool.and_eq_true] at hb
          exact hb.1) (fun k hk hb => by
          rw [bset_bit, decide_eq_true hk, Bool.true_and]
          unfold tcb at hb ⊢
          rw [Bool.and_eq_true] at hb
          rw [hb.1, tch_up (m2 := mi S (i + 1)) (by rw [hmp]; exact Nat.mul_mod_right _ _) hb.2]
          rfl) hT (by omega)
        refine ⟨(nI (t + 1), υ), ?_, rfl, F'.tr d2, ?_⟩
        · show Tr_visit_L97 (Tr_visit (n + (d + 1))) 7 (nI a) (nI (mi S i)) (nI S) (nI i) (nI (bset (tcb on rs md a (mi S i)) c)) (nI p) u (nI t) = _
          unfold Tr_visit_L97
          rw [if_neg (by rw [le_nI (by omega) (by omega)]; omega), pk_mul, nI_add, pk_mul, ← hmp, nI_1, show n + (d + 1) = n + d + 1 from rfl, d1, bd_s, bnd_x, nI_1]
        · rw [fb_sm_succ, fb_sm_succ, fb_sm_succ, mx_s]
          obtain ⟨e0, e1, e2, e3⟩ := d3
          refine ⟨e0.trans ?_, e1.trans ?_, e2.trans ?_, e3.trans ?_⟩
          · rw [Nat.add_assoc]
          · rw [Nat.add_assoc]
          · rw [Nat.add_assoc]
          · congr 1; omega) (by
        rintro ⟨t', u⟩ ⟨rfl, F, hT⟩
        refine ⟨u, ?_, F, hT⟩
        show Tr_visit_L97 (Tr_visit (n + (d + 1))) 7 (nI a) (nI (mi S i)) (nI S) (nI i) (nI (bset (tcb on rs md a (mi S i)) c)) (nI p) u (nI p) = _
        unfold Tr_visit_L97
        rw [if_pos (by rw [le_nI (by omega) (by omega)]; omega)]) (s := (0, V2 σ y2 y3 (mi S i))) ⟨rfl, V2_F _ _ _ _, t0, t1, t2, by rw [show mx (fun t => Mn kd S d (i + 1) (a + t * mi S i)) 0 = 0 from rfl, Nat.max_zero]; exact t3⟩
      rw [c1, bd_s] at hh
      refine ⟨ω, hh, c2, ?_⟩
      obtain ⟨e0, e1, e2, e3⟩ := c3
      refine ⟨e0.trans ?_, e1.trans ?_, e2.trans ?_, e3.trans ?_⟩
      · congr 1; show _ = y0 + (0 + _); omega
      · congr 1; show _ = y1 + (0 + _); omega
      · congr 1; show _ = y2 + (1 + _); omega
      · congr 1; omega
    · rw [Dn_leaf (by rw [hkd]; exact hk2), Dn_leaf (by rw [hkd]; exact hk2), Dn_leaf (by rw [hkd]; exact hk2), Mn_leaf (by rw [hkd]; exact hk2), hkd]
      by_cases e : kdn c on rs md a (mi S i) = 1
      · rw [if_pos e] at hh
        refine ⟨_, hh, (V2_F _ _ _ _).wI rfl, ?_⟩
        rw [e]
        exact ⟨(wI_ne (by omega)).trans t0, wI_s, (wI_ne (by omega)).trans t2, (wI_ne (by omega)).trans t3⟩
      · have e0 : kdn c on rs md a (mi S i) = 0 := by omega
        rw [if_neg e, if_pos e0] at hh
        refine ⟨_, hh, (V2_F _ _ _ _).wI rfl, ?_⟩
        rw [e0]
        exact ⟨wI_s, (wI_ne (by omega)).trans t1, (wI_ne (by omega)).trans t2, (wI_ne (by omega)).trans t3⟩
theorem grow_n {σ : St} (h : CV σ 7 c od on rs md nm) (w : WF c od on rs md nm) {S : Nat} (hS : S = spn md on c) (h0 : ¬ spn md on c = 0) {kd : Nat → Nat → Nat} (hkd : ∀ i a, kd i a = kdn c on rs md a (mi S i)) : ∃ σ', Tr_grow σ 7 (nI S) = some σ' ∧ Fp A35 σ σ' ∧ T4 σ' 35 (Dn w0 kd S 13 0 0) (Dn w1 kd S 13 0 0) (Dn w2 kd S 13 0 0) (Mn kd S 13 0 0) := by
  have F : Fp A35 σ (wI (wI (wI (wI σ 35 0 0) 35 1 0) 35 2 0) 35 3 0) := Fp.wI (Fp.wI (Fp.wI (Fp.wI (A := A35) Fp.rf (by unfold A35; rfl)) (by unfold A35; rfl)) (by unfold A35; rfl)) (by unfold A35; rfl)
  have hv : CV (wI (wI (wI (wI σ 35 0 0) 35 1 0) 35 2 0) 35 3 0) 7 c od on rs md nm := h.keep (F.sm (fun b i q1 q2 q => by unfold A35 at q; omega))
  have ht : T4 (wI (wI (wI (wI σ 35 0 0) 35 1 0) 35 2 0) 35 3 0) 35 0 0 0 0 := ⟨(wI_ne (by omega)).trans ((wI_ne (by omega)).trans ((wI_ne (by omega)).trans wI_s)), (wI_ne (by omega)).trans ((wI_ne (by omega)).trans wI_s), (wI_ne (by omega)).trans wI_s, wI_s⟩
  obtain ⟨τ, a1, a2, a3⟩ := visit_n w hS h0 hkd 13 0 (by omega) 46 _ on 0 0 0 0 0 hv (by show 0 < 1; omega) w.on4 (fun k _ hb => hb) (fun k _ hb => by unfold tcb at hb; rw [Bool.and_eq_true] at hb; exact hb.1) ht (by omega)
  rw [Nat.zero_add, Nat.zero_add, Nat.zero_add, Nat.zero_max] at a3
  refine ⟨τ, ?_, F.tr a2, a3⟩
  have a1' : Tr_visit 60 (wI (wI (wI (wI σ 35 0 0) 35 1 0) 35 2 0) 35 3 0) 7 (nI on) 0 1 (nI S) 0 = some τ := a1
  unfold Tr_grow
  rw [bnd_x, bnd_x, bnd_x, bnd_x, hv.2.1, a1', bd_s]
end VI2
