/-! copySystem -/
noncomputable def ctf (v : Int64) (s : Int32) : Int64 := Classical.choose (cut_ex v s)
theorem ctf_n (v : Int64) (s : Int32) : Mo_cut v s = some (ctf v s) := Classical.choose_spec (cut_ex v s)
def cpv (rs md : Nat → Nat) (k : Nat) : Int64 := (nI (if k % 2 = 0 then rs (k / 2) else md (k / 2))).toInt64
theorem put_n {σ : St} {t n k : Nat} {v : Int64} {s : Int32} (hn : n ≤ 60) (h1 : σ.1 (51 + 2 * t) 2 = nI n) (h2 : σ.1 (51 + 2 * t) 1 = s) (hk : k < n) : Ty_put σ (51 + 2 * t) (nI k) v = some (wL σ (52 + 2 * t) k (ctf v s)) := by
  unfold Ty_put
  rw [show (1 : Int32) = nI 1 from rfl, holds_n h1 hn (by omega) (by omega), if_pos (by omega), bd_s, if_neg (by decide), cut_n v h2, ctf_n, bd_s, ix_nI (by omega) (by omega), chk_true, tn_nI (by omega), bnd_x, show 51 + 2 * t + 1 = 52 + 2 * t by omega]
theorem call_copySystem {σ : St} (I : Inv σ) (p : Int32) : Call (fun σ => RC_copySystem σ p) (fun σ => Mo_copySystem σ p) σ := by
  obtain ⟨c, od, on, rs, md, nm, hc, hm, w⟩ := I.2.2.2.2.1
  have hc12 := w.1
  have tr := I.2.2.1
  have m2 : ∀ x : Nat, (2 : Int32) * nI x = nI (2 * x) := fun x => by rw [show (2 : Int32) = nI 2 from rfl, pk_mul]
  rcases within_ex p (lo := 0) (hi := 3) 0 3 rfl rfl (by omega) with h | ⟨t, _, ht, rfl, h⟩
  · refine call_s (r := -1) (v := 1) I ?_ (fun σ1 F => ?_)
    · show RC_copySystem σ p = _
      unfold RC_copySystem RC_trayTrouble
      rw [h, bd_s, if_pos rfl, bd_s, if_neg (by decide), RC_refuse_n, bd2_s]
    · show Mo_copySystem σ1 p = _
      unfold Mo_copySystem
      rw [isTray_w, h, bd_s, if_pos rfl, Mo_refuse_n, bd2_s]
  obtain ⟨d1, d2, d3⟩ := tr t (by omega)
  have hxt : ix (nI t) 4 = true := by rw [ix_nI (by omega) (by omega)]
  rcases d3 with d3 | ⟨n, g1, g2, g3⟩
  · refine call_s (r := -1) (v := 2) I ?_ (fun σ1 F => ?_)
    · show RC_copySystem σ (nI t) = _
      unfold RC_copySystem RC_trayTrouble Ty_isMissing
      rw [h, bd_s, if_neg (by decide), hxt, chk_true, tn_nI (by omega), rfs_T, d2, d3, if_pos rfl, bd_s, if_neg (by decide), bd_s, if_neg (by decide), RC_refuse_n, bd2_s]
    · show Mo_copySystem σ1 (nI t) = _
      unfold Mo_copySystem
      rw [isTray_w, h, bd_s, if_neg (by decide), hxt, chk_true, tn_nI (by omega), F.i (by unfold Ac0; omega), d3, if_pos rfl, Mo_refuse_n, bd2_s]
  have trb : RC_trayTrouble σ (nI t) = some 0 := by
    unfold RC_trayTrouble Ty_isMissing
    rw [h, bd_s, if_neg (by decide), hxt, chk_true, tn_nI (by omega), rfs_T, d2, g2, if_neg (nI_m1 (by omega)), bd_s, if_pos rfl]
  by_cases q : 2 * c ≤ n
  · obtain ⟨s, hs⟩ : ∃ s, s = σ.1 95 t := ⟨_, rfl⟩
    obtain ⟨τ, a1, a2, a3⟩ := iter_cnt (body := fun u : (Int32 × St) => RC_copySystem_L46 (nI t) u.2 u.1) (fun k u => u.1 = nI k ∧ Fp (fun x j => x = 52 + 2 * t ∧ j < 2 * k) σ u.2 ∧ ∀ j, j < 2 * k → u.2.2 (52 + 2 * t) j = ctf (cpv rs md j) s) (fun e => Fp (fun x j => x = 52 + 2 * t ∧ j < 2 * c) σ e ∧ ∀ j, j < 2 * c → e.2 (52 + 2 * t) j = ctf (cpv rs md j) s) (lo := 0) (hi := c) (n := FUEL) (Nat.zero_le _) (fuel (by omega)) (by
      rintro k ⟨k', u⟩ _ hk ⟨rfl, F, hB⟩
      have F' : Fp (fun x j => x = 52 + 2 * t ∧ j < 2 * k) σ u := F
      have hB' : ∀ j, j < 2 * k → u.2 (52 + 2 * t) j = ctf (cpv rs md j) s := hB
      have u1 : u.1 (51 + 2 * t) 2 = nI n := (F'.i (by omega)).trans (d2.trans g2)
      have u2 : u.1 (51 + 2 * t) 1 = s := (F'.i (by omega)).trans (d1.trans hs.symm)
      have e1 := put_n (k := 2 * k) (v := (nI (rs k)).toInt64) g1 u1 u2 (by omega)
      have e2 := put_n (σ := wL u (52 + 2 * t) (2 * k) (ctf ((nI (rs k)).toInt64) s)) (k := 2 * k + 1) (v := (nI (md k)).toInt64) g1 u1 u2 (by omega)
      refine ⟨(nI (k + 1), wL (wL u (52 + 2 * t) (2 * k) (ctf ((nI (rs k)).toInt64) s)) (52 + 2 * t) (2 * k + 1) (ctf ((nI (md k)).toInt64) s)), ?_, rfl, ((F'.mono (fun x j q => by omega)).wL (by omega)).wL (by omega), fun j hj => ?_⟩
      · show RC_copySystem_L46 (nI t) u (nI k) = _
        unfold RC_copySystem_L46
        rw [show u.1 7 3 = nI c from (F'.i (by omega)).trans hc.1, if_neg (by rw [le_nI (by omega) (by omega)]; omega), hxt, chk_true, ix_nI (by omega) (by omega), chk_true, tn_nI (by omega), tn_nI (by omega), rfs_T, m2, show u.1 8 k = nI (rs k) from (F'.i (by omega)).trans (hc.2.2.2.1 k hk), e1, bd_s, chk_true, chk_true, nI_1, wL_1, show u.1 9 k = nI (md k) from (F'.i (by omega)).trans (hc.2.2.2.2.1 k hk), e2, bd_s, bnd_x, nI_1]
      · show (wL (wL u (52 + 2 * t) (2 * k) (ctf ((nI (rs k)).toInt64) s)) (52 + 2 * t) (2 * k + 1) (ctf ((nI (md k)).toInt64) s)).2 (52 + 2 * t) j = _
        by_cases z1 : j = 2 * k + 1
        · rw [z1, wL_s]
          unfold cpv
          rw [if_neg (by omega), show (2 * k + 1) / 2 = k by omega]
        · rw [wL_ne (by omega)]
          by_cases z2 : j = 2 * k
          · rw [z2, wL_s]
            unfold cpv
            rw [if_pos (by omega), show 2 * k / 2 = k by omega]
          · rw [wL_ne (by omega)]
            exact hB' j (by omega)) (by
      rintro ⟨k', u⟩ ⟨rfl, F, hB⟩
      have F' : Fp (fun x j => x = 52 + 2 * t ∧ j < 2 * c) σ u := F
      refine ⟨u, ?_, F, hB⟩
      show RC_copySystem_L46 (nI t) u (nI c) = _
      unfold RC_copySystem_L46
      rw [show u.1 7 3 = nI c from (F'.i (by omega)).trans hc.1, if_pos (by rw [le_nI (by omega) (by omega)]; omega)]) (s := (0, σ)) ⟨rfl, Fp.rf, fun j hj => by omega⟩
    have eC : RC_copySystem σ (nI t) = some (nI c, wI τ 0 0 0) := by
      unfold RC_copySystem
      rw [trb, bd_s, if_pos rfl, hxt, chk_true, tn_nI (by omega), rfs_T, hc.1, m2, show (0 : Int32) = nI 0 from rfl, holds_n (d2.trans g2) g1 (by omega) (by omega), if_pos (by omega), bd_s, if_neg (by decide)]
      have a1' : iter (fun u : (Int32 × St) => RC_copySystem_L46 (nI t) u.2 u.1) FUEL (nI 0, σ) = some τ := a1
      rw [a1', bd_s, show τ.1 7 3 = nI c from (a2.i (by omega)).trans hc.1, RC_answer_n, bd2_s]
      rfl
    have F1 : Fp (fun x j => (x = 0 ∧ j = 0) ∨ (x = 52 + 2 * t ∧ j < 2 * c)) σ (wI τ 0 0 0) := (a2.mono (fun x j q => by omega)).wI (by omega)
    have hm1 : MV (wI τ 0 0 0) 0 0 c od on rs md nm := hm.keep (F1.sm (fun b i q1 q2 q => by omega))
    obtain ⟨υ, b1, b2, b3⟩ := iter_cnt (body := fun u : (Int32 × St) => Mo_copySystem_L54 (nI t) u.2 u.1) (fun k u => u.1 = nI k ∧ Fp (fun x j => x = 97 ∧ 60 * t ≤ j ∧ j < 60 * t + k) (wI τ 0 0 0) u.2 ∧ ∀ j, j < k → u.2.2 97 (60 * t + j) = ctf (cpv rs md j) s) (fun e => Fp (fun x j => x = 97 ∧ 60 * t ≤ j ∧ j < 60 * t + 2 * c) (wI τ 0 0 0) e ∧ ∀ j, j < 2 * c → e.2 97 (60 * t + j) = ctf (cpv rs md j) s) (lo := 0) (hi := 2 * c) (n := FUEL) (Nat.zero_le _) (fuel (by omega)) (by
      rintro k ⟨k', u⟩ _ hk ⟨rfl, F, hB⟩
      have F' : Fp (fun x j => x = 97 ∧ 60 * t ≤ j ∧ j < 60 * t + k) (wI τ 0 0 0) u := F
      have hu : MV u 0 0 c od on rs md nm := hm1.keep (F'.sm (fun b i q1 q2 q => by omega))
      have hs' : u.1 95 t = s := (F'.i (by omega)).trans ((F1.i (by omega)).trans hs.symm)
      have hv : u.1 93 (4 + 3 * (k / 2) + k % 2) = nI (if k % 2 = 0 then rs (k / 2) else md (k / 2)) := by
        by_cases z : k % 2 = 0
        · rw [if_pos z, z, Nat.add_zero]; exact hu.r0 (by omega)
        · rw [if_neg z, show k % 2 = 1 by omega, show 4 + 3 * (k / 2) + 1 = 5 + 3 * (k / 2) by omega]; exact hu.m0 (by omega)
      refine ⟨(nI (k + 1), wL u 97 (60 * t + k) (ctf (cpv rs md k) s)), ?_, rfl, (F'.mono (fun x j q => by omega)).wL (by omega), fun j hj => ?_⟩
      · show Mo_copySystem_L54 (nI t) u (nI k) = _
        unfold Mo_copySystem_L54
        rw [ix00, chk_true, tn00, hu.c0, m2, if_neg (by rw [le_nI (by omega) (by omega)]; omega), show nzI 2 = true from by decide, chk_true, show (2 : Int32) = nI 2 from rfl, div_nI (by omega) (by omega) (by omega), rowOf_n, bd_s, chk_true, rem_nI (by omega) (by omega) (by omega), nI_add, ix_nI (by omega) (by omega), chk_true, hxt, chk_true, tn_nI (by omega), tn_nI (by omega), hv, hs', show (nI (if k % 2 = 0 then rs (k / 2) else md (k / 2))).toInt64 = cpv rs md k from rfl, ctf_n, bd_s, mul60, ix_nI (by omega) (by omega), chk_true, tn_nI (by omega), bnd_x, bnd_x, nI_1]
      · by_cases e : j = k
        · rw [e]; exact wL_s
        · exact (wL_ne (by omega)).trans (hB j (by omega))) (by
      rintro ⟨k', u⟩ ⟨rfl, F, hB⟩
      have F' : Fp (fun x j => x = 97 ∧ 60 * t ≤ j ∧ j < 60 * t + 2 * c) (wI τ 0 0 0) u := F
      have hu : MV u 0 0 c od on rs md nm := hm1.keep (F'.sm (fun b i q1 q2 q => by omega))
      refine ⟨u, ?_, F, hB⟩
      show Mo_copySystem_L54 (nI t) u (nI (2 * c)) = _
      unfold Mo_copySystem_L54
      rw [ix00, chk_true, tn00, hu.c0, m2, if_pos (by rw [le_nI (by omega) (by omega)]; omega)]) (s := (0, wI τ 0 0 0)) ⟨rfl, Fp.rf, fun j hj => by omega⟩
    have hm2 : MV υ 0 0 c od on rs md nm := hm1.keep (b2.sm (fun b i q1 q2 q => by omega))
    have eM : Mo_copySystem (wI τ 0 0 0) (nI t) = some (nI c, wI υ 92 2 0) := by
      unfold Mo_copySystem
      rw [isTray_w, h, bd_s, if_neg (by decide), hxt, chk_true, tn_nI (by omega), F1.i (by omega), g2, if_neg (nI_m1 (by omega)), chk_true, ix00, chk_true, tn00, hm1.c0, m2, if_pos (by rw [le_nI (by omega) (by omega)]; omega), b1, bd_s, chk_true, hm2.c0, Mo_gives_n, bd2_s]
    have F2 : Fp (fun x i => (x = 92 ∧ i = 2) ∨ (x = 97 ∧ 60 * t ≤ i ∧ i < 60 * t + 2 * c)) (wI τ 0 0 0) (wI υ 92 2 0) := (b2.mono (fun a i q => by omega)).wI (by omega)
    refine call_tr (v := 0) I eC (F1.mono (fun a i q => by omega)) wI_s eM (F2.mono (fun a i q => by omega)) wI_s (fun x hx => ?_)
    obtain ⟨y1, y2, y3⟩ := tr x hx
    have k1 : ∀ i, (wI υ 92 2 0).1 (51 + 2 * x) i = σ.1 (51 + 2 * x) i := fun i => by rw [F2.i (by omega), F1.i (by omega)]
    have k2 : (wI υ 92 2 0).1 95 x = σ.1 95 x := by rw [F2.i (by omega), F1.i (by omega)]
    have k3 : (wI υ 92 2 0).1 96 x = σ.1 96 x := by rw [F2.i (by omega), F1.i (by omega)]
    rw [k1, k1, k2, k3]
    refine ⟨y1, y2, ?_⟩
    rcases y3 with y3 | ⟨n', z1, z2, z3⟩
    · exact Or.inl y3
    · refine Or.inr ⟨n', z1, z2, fun k hk => ?_⟩
      by_cases ex : x = t ∧ k < 2 * c
      · obtain ⟨rfl, ek⟩ := ex
        rw [F2.l (by omega), wI_2, a3 k ek, wI_2, b3 k ek]
      · rw [F2.l (by omega), F1.l (by omega), F2.l (by omega), F1.l (by omega)]
        exact z3 k hk
  · refine call_s (r := -1) (v := 3) I ?_ (fun σ1 F => ?_)
    · show RC_copySystem σ (nI t) = _
      unfold RC_copySystem
      rw [trb, bd_s, if_pos rfl, hxt, chk_true, tn_nI (by omega), rfs_T, hc.1, m2, show (0 : Int32) = nI 0 from rfl, holds_n (d2.trans g2) g1 (by omega) (by omega), if_neg (by omega), bd_s, if_pos (show (0 : Int32) = nI 0 from rfl), RC_refuse_n, bd2_s]
    · show Mo_copySystem σ1 (nI t) = _
      unfold Mo_copySystem
      rw [isTray_w, h, bd_s, if_neg (by decide), hxt, chk_true, tn_nI (by omega), F.i (by unfold Ac0; omega), g2, if_neg (nI_m1 (by omega)), chk_true, ix00, chk_true, tn00, (hm.w F).c0, m2, if_neg (by rw [le_nI (by omega) (by omega)]; omega), Mo_refuse_n, bd2_s]
/-! join -/
section JN
variable {σ : St} {a c od on : Nat} {rs md nm : Nat → Nat}
def lik (on : Nat) (rs md : Nat → Nat) (k x i : Nat) : Bool := decide (md i = md k) && (decide (rs i = x) && (on.testBit i == on.testBit k))
theorem like_c (h : CV σ a c od on rs md nm) (w : WF c od on rs md nm) {k x : Nat} (hk : k < c) (hx : x < 2147483648) : Cl_firstLike σ a (nI k) (nI x) = some (if fa_first (lik on rs md k x) c < c then nI (fa_first (lik on rs md k x) c) else -1) := by
  have hc := w.1
  unfold Cl_firstLike
  have hle := fa_first_le (lik on rs md k x) c
  have hno := fa_first_no (lik on rs md k x) c
  have hyes := fa_first_yes (lik on rs md k x) c
  generalize fa_first (lik on rs md k x) c = t at hle hno hyes
  obtain ⟨m1, m2, m3⟩ := w.2.2.2.1 k hk
  have body : ∀ i, i < c → Cl_firstLike_L2 a (nI k) (nI x) σ (nI i) = if lik on rs md k x i = true then some (.inr (nI i)) else some (.inl (nI (i + 1))) := fun i hi => by
    obtain ⟨b1, b2, b3⟩ := w.2.2.2.1 i hi
    unfold Cl_firstLike_L2 lik
    rw [h.1, if_neg (by rw [le_nI (by omega) (by omega)]; omega), ix_nI (by omega) (by omega), chk_true, ix_nI (by omega) (by omega), chk_true, chk_true, tn_nI (by omega), tn_nI (by omega), h.2.2.2.2.1 i hi, h.2.2.2.2.1 k hk, h.2.2.2.1 i hi, isOn_n h w (by omega), bd_s, isOn_n h w (by omega), bd_s, bnd_x, nI_1]
    by_cases q1 : md i = md k
    · rw [if_pos (by rw [q1]), decide_eq_true q1, Bool.true_and]
      by_cases q2 : rs i = x
      · rw [if_pos (by rw [q2]), decide_eq_true q2, Bool.true_and]
        cases on.testBit i <;> cases on.testBit k <;> rfl
      · rw [if_neg (by rw [eq_nI (by omega) (by omega)]; omega), decide_eq_false q2, Bool.false_and, if_neg (by decide)]
    · rw [if_neg (by rw [eq_nI (by omega) (by omega)]; omega), decide_eq_false q1, Bool.false_and, if_neg (by decide)]
  refine iter_for (body := fun s : Int32 => Cl_firstLike_L2 a (nI k) (nI x) σ s) (fun i => nI i) (lo := 0) (hi := t) (n := FUEL) (Nat.zero_le _) (fuel (by omega)) ?_ ?_
  · intro i _ hi
    show Cl_firstLike_L2 a (nI k) (nI x) σ (nI i) = _
    rw [body i (by omega), hno i hi, if_neg (by decide)]
  · show Cl_firstLike_L2 a (nI k) (nI x) σ (nI t) = _
    by_cases q : t < c
    · rw [body t q, hyes q, if_pos rfl, if_pos q]
    · unfold Cl_firstLike_L2
      rw [h.1, if_pos (by rw [le_nI (by omega) (by omega)]; omega), if_neg q]
theorem like_m (h : MV σ 0 0 c od on rs md nm) (w : WF c od on rs md nm) {k x : Nat} (hk : k < c) (hx : x < 2147483648) : Mo_findClass σ (nI x) (nI (md k)) (if on.testBit k = true then 1 else 0) = some (if fa_first (lik on rs md k x) c < c then nI (fa_first (lik on rs md k x) c) else -1) := by
  have hc := w.1
  unfold Mo_findClass
  have hle := fa_first_le (lik on rs md k x) c
  have hno := fa_first_no (lik on rs md k x) c
  have hyes := fa_first_yes (lik on rs md k x) c
  generalize fa_first (lik on rs md k x) c = t at hle hno hyes
  obtain ⟨m1, m2, m3⟩ := w.2.2.2.1 k hk
  have body : ∀ i, i < c → Mo_findClass_L3 (nI x) (nI (md k)) (if on.testBit k = true then 1 else 0) σ (nI i) = if lik on rs md k x i = true then some (.inr (nI i)) else some (.inl (nI (i + 1))) := fun i hi => by
    obtain ⟨b1, b2, b3⟩ := w.2.2.2.1 i hi
    unfold Mo_findClass_L3 lik
    rw [ix00, chk_true, tn00, h.c0, if_neg (by rw [le_nI (by omega) (by omega)]; omega), restOf_n h w hi, bd_s, modulusOf_n h w hi, bd_s, isOnM_n h w hi, bd_s, bnd_x, nI_1]
    by_cases q2 : rs i = x
    · rw [if_pos (by rw [q2]), decide_eq_true q2, Bool.true_and]
      by_cases q1 : md i = md k
      · rw [if_pos (by rw [q1]), decide_eq_true q1, Bool.true_and]
        cases on.testBit i <;> cases on.testBit k <;> rfl
      · rw [if_neg (by rw [eq_nI (by omega) (by omega)]; omega), decide_eq_false q1, Bool.false_and, if_neg (by decide)]
    · rw [if_neg (by rw [eq_nI (by omega) (by omega)]; omega), decide_eq_false q2, Bool.false_and, Bool.and_false, if_neg (by decide)]
  refine iter_for (body := fun s : Int32 => Mo_findClass_L3 (nI x) (nI (md k)) (if on.testBit k = true then 1 else 0) σ s) (fun i => nI i) (lo := 0) (hi := t) (n := FUEL) (Nat.zero_le _) (fuel (by omega)) ?_ ?_
  · intro i _ hi
    show Mo_findClass_L3 (nI x) (nI (md k)) (if on.testBit k = true then 1 else 0) σ (nI i) = _
    rw [body i (by omega), hno i hi, if_neg (by decide)]
  · show Mo_findClass_L3 (nI x) (nI (md k)) (if on.testBit k = true then 1 else 0) σ (nI t) = _
    by_cases q : t < c
    · rw [body t q, hyes q, if_pos rfl, if_pos q]
    · unfold Mo_findClass_L3
      rw [ix00, chk_true, tn00, h.c0, if_pos (by rw [le_nI (by omega) (by omega)]; omega), if_neg q]
/-- the fellows found by the first i parts; a part that lacks -/
def ptw (rs : Nat → Nat) (k st i : Nat) : Nat := rs k % st + i * st
def oth (c on : Nat) (rs md : Nat → Nat) (k st : Nat) : Nat → Nat
  | 0 => 0
  | i + 1 => if ptw rs k st i = rs k then oth c on rs md k st i else oth c on rs md k st i ||| 2 ^ fa_first (lik on rs md k (ptw rs k st i)) c
def lck (c on : Nat) (rs md : Nat → Nat) (k st i : Nat) : Bool := !decide (ptw rs k st i = rs k) && !decide (fa_first (lik on rs md k (ptw rs k st i)) c < c)
theorem oth_s (c on : Nat) (rs md : Nat → Nat) (k st i : Nat) : oth c on rs md k st (i + 1) = if ptw rs k st i = rs k then oth c on rs md k st i else oth c on rs md k st i ||| 2 ^ fa_first (lik on rs md k (ptw rs k st i)) c := rfl
theorem oth_b {k st : Nat} : ∀ n, (∀ i, i < n → lck c on rs md k st i = false) → oth c on rs md k st n < 2 ^ c ∧ (oth c on rs md k st n).testBit k = false
  | 0, _ => ⟨Nat.two_pow_pos c, Nat.zero_testBit k⟩
  | n + 1, h => by
    obtain ⟨i1, i2⟩ := oth_b n (fun i hi => h i (by omega))
    rw [oth_s]
    by_cases q : ptw rs k st n = rs k
    · rw [if_pos q]; exact ⟨i1, i2⟩
    · rw [if_neg q]
      have hl := h n (by omega)
      unfold lck at hl
      rw [decide_eq_false q] at hl
      have hlt : fa_first (lik on rs md k (ptw rs k st n)) c < c := by simpa using hl
      refine ⟨Nat.or_lt_two_pow i1 (Nat.pow_lt_pow_right (by decide) hlt), ?_⟩
      rw [or_bit, i2, Bool.false_or]
      apply decide_eq_false
      intro e
      have hy := fa_first_yes (lik on rs md k (ptw rs k st n)) c hlt
      rw [e] at hy
      unfold lik at hy
      rw [Bool.and_eq_true, Bool.and_eq_true, decide_eq_true_iff, decide_eq_true_iff] at hy
      exact q hy.2.1.symm
theorem ptw_lt (w : WF c od on rs md nm) {k n i : Nat} (hk : k < c) (hn : 2 ≤ n) (hi : i < n) (hd : md k % n = 0) : ptw rs k (md k / n) i < 60 ∧ 1 ≤ md k / n ∧ md k / n ≤ 60 := by
  obtain ⟨m1, m2, m3⟩ := w.2.2.2.1 k hk
  have e := Nat.div_add_mod (md k) n
  rw [hd, Nat.add_zero] at e
  have h1 : 1 ≤ md k / n := by
    apply Nat.pos_of_ne_zero
    intro z
    rw [z, Nat.mul_zero] at e
    omega
  have h2 : rs k % (md k / n) < md k / n := Nat.mod_lt _ h1
  have h3 := Nat.mul_le_mul_right (md k / n) (show i + 1 ≤ n from hi)
  rw [Nat.add_mul, Nat.one_mul] at h3
  have h4 := Nat.div_le_self (md k) n
  unfold ptw
  generalize md k / n = q at *
  refine ⟨?_, h1, by omega⟩
  generalize rs k % q = r at *
  generalize i * q = z at *
  generalize n * q = y at *
  omega
theorem parts_c (h : CV σ a c od on rs md nm) (w : WF c od on rs md nm) {k n : Nat} (hk : k < c) (hn : 2 ≤ n) (hn7 : n ≤ 7) (hd : md k % n = 0) : Cl_partsWith σ a (nI k) (nI n) = some (if fa_first (lck c on rs md k (md k / n)) n < n then 0 else nI (oth c on rs md k (md k / n) n ||| 2 ^ k)) := by
  have hc := w.1
  obtain ⟨m1, m2, m3⟩ := w.2.2.2.1 k hk
  obtain ⟨_, s1, s2⟩ := ptw_lt w hk hn (show 0 < n by omega) hd
  have hle := fa_first_le (lck c on rs md k (md k / n)) n
  have hno := fa_first_no (lck c on rs md k (md k / n)) n
  have hyes := fa_first_yes (lck c on rs md k (md k / n)) n
  generalize fa_first (lck c on rs md k (md k / n)) n = t at hle hno hyes
  obtain ⟨st, hst⟩ : ∃ st, st = md k / n := ⟨_, rfl⟩
  have hpt : ∀ i, i < n → ptw rs k st i < 60 := fun i hi => by rw [hst]; exact (ptw_lt w hk hn hi hd).1
  rw [← hst] at s1 s2 hno hyes ⊢
  unfold Cl_partsWith
  rw [ix_nI (by omega) (by omega), chk_true, tn_nI (by omega), h.2.2.2.2.1 k hk, partBy_n (by omega) (by omega) (by omega), bd_s, ← hst, shl1 (by omega), bnd_x]
  have pre : ∀ i X, i < n → Cl_partsWith_L19 a (nI k) (nI n) (nI st) σ (nI X) (nI i) = if ptw rs k st i = rs k then some (.inl (nI X, nI (i + 1))) else if fa_first (lik on rs md k (ptw rs k st i)) c < c then some (.inl (nI (X ||| 2 ^ fa_first (lik on rs md k (ptw rs k st i)) c), nI (i + 1))) else some (.inr 0) := fun i X hi => by
    have hp := hpt i hi
    unfold Cl_partsWith_L19
    rw [if_neg (by rw [le_nI (by omega) (by omega)]; omega), ix_nI (by omega) (by omega), chk_true, tn_nI (by omega), h.2.2.2.1 k hk, leftBy_n (by omega) (by omega) (by omega), bd_s, pk_mul, nI_add, bnd_x, chk_true, show rs k % st + i * st = ptw rs k st i from rfl]
    by_cases q : ptw rs k st i = rs k
    · rw [if_pos (by rw [q]), if_pos q, bnd_x, nI_1]
    · rw [if_neg (by rw [eq_nI (by omega) (by omega)]; omega), if_neg q, like_c h w hk (by omega), bd_s]
      by_cases q2 : fa_first (lik on rs md k (ptw rs k st i)) c < c
      · rw [if_pos q2, if_neg (nI_m1 (by omega)), shl1 (by omega), or_nI, bnd_x, bnd_x, nI_1, if_pos q2]
      · rw [if_neg q2, if_pos rfl, if_neg q2]
  have := iter_for (body := fun u : (Int32 × Int32) => Cl_partsWith_L19 a (nI k) (nI n) (nI st) σ u.1 u.2) (fun i => (nI (oth c on rs md k st i ||| 2 ^ k), nI i)) (lo := 0) (hi := t) (e := if t < n then 0 else nI (oth c on rs md k st n ||| 2 ^ k)) (n := FUEL) (Nat.zero_le _) (fuel (by omega)) (by
    intro i _ hi
    show Cl_partsWith_L19 a (nI k) (nI n) (nI st) σ (nI (oth c on rs md k st i ||| 2 ^ k)) (nI i) = some (.inl (nI (oth c on rs md k st (i + 1) ||| 2 ^ k), nI (i + 1)))
    have hl := hno i hi
    unfold lck at hl
    rw [pre i _ (by omega), oth_s]
    by_cases q : ptw rs k st i = rs k
    · rw [if_pos q, if_pos q]
    · rw [decide_eq_false q] at hl
      have hlt : fa_first (lik on rs md k (ptw rs k st i)) c < c := by simpa using hl
      rw [if_neg q, if_pos hlt, if_neg q, Nat.or_assoc, Nat.or_assoc, Nat.or_comm (2 ^ k)]) (by
    show Cl_partsWith_L19 a (nI k) (nI n) (nI st) σ (nI (oth c on rs md k st t ||| 2 ^ k)) (nI t) = _
    by_cases q : t < n
    · have hl := hyes q
      unfold lck at hl
      rw [Bool.and_eq_true] at hl
      have q1 : ¬ ptw rs k st t = rs k := by simpa using hl.1
      have q2 : ¬ fa_first (lik on rs md k (ptw rs k st t)) c < c := by simpa using hl.2
      rw [pre t _ q, if_neg q1, if_neg q2, if_pos q]
    · unfold Cl_partsWith_L19
      rw [if_pos (by rw [le_nI (by omega) (by omega)]; omega), if_neg q, show t = n by omega])
  rw [show oth c on rs md k st 0 ||| 2 ^ k = 2 ^ k from Nat.zero_or _] at this
  exact this
theorem parts_m (h : MV σ 0 0 c od on rs md nm) (w : WF c od on rs md nm) {k n : Nat} (hk : k < c) (hn : 2 ≤ n) (hn7 : n ≤ 7) (hd : md k % n = 0) : iter (fun u : (Int32 × Int32) => Mo_join_L68 (nI k) (nI n) (nI (md k / n)) (nI (rs k % (md k / n))) σ u.1 u.2) FUEL (0, 0) = some (if fa_first (lck c on rs md k (md k / n)) n < n then .inl (-1, wI σ 92 2 6) else .inr (nI (oth c on rs md k (md k / n) n))) := by
  have hc := w.1
  obtain ⟨m1, m2, m3⟩ := w.2.2.2.1 k hk
  obtain ⟨_, s1, s2⟩ := ptw_lt w hk hn (show 0 < n by omega) hd
  have hle := fa_first_le (lck c on rs md k (md k / n)) n
  have hno := fa_first_no (lck c on rs md k (md k / n)) n
  have hyes := fa_first_yes (lck c on rs md k (md k / n)) n
  generalize fa_first (lck c on rs md k (md k / n)) n = t at hle hno hyes
  obtain ⟨st, hst⟩ : ∃ st, st = md k / n := ⟨_, rfl⟩
  have hpt : ∀ i, i < n → ptw rs k st i < 60 := fun i hi => by rw [hst]; exact (ptw_lt w hk hn hi hd).1
  rw [← hst] at s1 s2 hno hyes ⊢
  have pre : ∀ i X, i < n → Mo_join_L68 (nI k) (nI n) (nI st) (nI (rs k % st)) σ (nI X) (nI i) = if ptw rs k st i = rs k then some (.inl (nI X, nI (i + 1))) else if fa_first (lik on rs md k (ptw rs k st i)) c < c then some (.inl (nI (X ||| 2 ^ fa_first (lik on rs md k (ptw rs k st i)) c), nI (i + 1))) else some (.inr (.inl (-1, wI σ 92 2 6))) := fun i X hi => by
    have hp := hpt i hi
    unfold Mo_join_L68
    rw [if_neg (by rw [le_nI (by omega) (by omega)]; omega), restOf_n h w hk, bd_s, pk_mul, nI_add, show rs k % st + i * st = ptw rs k st i from rfl]
    by_cases q : ptw rs k st i = rs k
    · rw [if_pos (by rw [q]), if_pos q, bnd_x, nI_1]
    · rw [if_neg (by rw [eq_nI (by omega) (by omega)]; omega), if_neg q, modulusOf_n h w hk, bd_s, isOnM_n h w hk, bd_s, like_m h w hk (by omega), bd_s]
      by_cases q2 : fa_first (lik on rs md k (ptw rs k st i)) c < c
      · rw [if_pos q2, if_neg (nI_m1 (by omega)), shl1 (by omega), or_nI, bnd_x, bnd_x, nI_1, if_pos q2]
      · rw [if_neg q2, if_pos rfl, if_neg q2, Mo_refuse_n, bd2_s]
  exact iter_for (body := fun u : (Int32 × Int32) => Mo_join_L68 (nI k) (nI n) (nI st) (nI (rs k % st)) σ u.1 u.2) (fun i => (nI (oth c on rs md k st i), nI i)) (lo := 0) (hi := t) (n := FUEL) (Nat.zero_le _) (fuel (by omega)) (by
    intro i _ hi
    show Mo_join_L68 (nI k) (nI n) (nI st) (nI (rs k % st)) σ (nI (oth c on rs md k st i)) (nI i) = some (.inl (nI (oth c on rs md k st (i + 1)), nI (i + 1)))
    have hl := hno i hi
    unfold lck at hl
    rw [pre i _ (by omega), oth_s]
    by_cases q : ptw rs k st i = rs k
    · rw [if_pos q, if_pos q]
    · rw [decide_eq_false q] at hl
      have hlt : fa_first (lik on rs md k (ptw rs k st i)) c < c := by simpa using hl
      rw [if_neg q, if_pos hlt, if_neg q]) (by
    show Mo_join_L68 (nI k) (nI n) (nI st) (nI (rs k % st)) σ (nI (oth c on rs md k st t)) (nI t) = _
    by_cases q : t < n
    · have hl := hyes q
      unfold lck at hl
      rw [Bool.and_eq_true] at hl
      have q1 : ¬ ptw rs k st t = rs k := by simpa using hl.1
      have q2 : ¬ fa_first (lik on rs md k (ptw rs k st t)) c < c := by simpa using hl.2
      rw [pre t _ q, if_neg q1, if_neg q2, if_pos q]
    · unfold Mo_join_L68
      rw [if_pos (by rw [le_nI (by omega) (by omega)]; omega), if_neg q, show t = n by omega])
end JN
