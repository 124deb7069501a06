/-! split -/
def onb (on c : Nat) (b : Bool) : Nat := if b then on ||| 2 ^ c else on
theorem and_off {on c : Nat} (h : on < 2 ^ c) (hc : c ≤ 12) : on &&& (2 ^ c ^^^ 4294967295) = on := by
  apply Nat.eq_of_testBit_eq
  intro j
  rw [Nat.testBit_and, Nat.testBit_xor, Nat.testBit_two_pow, show (4294967295 : Nat) = 2 ^ 32 - 1 from rfl, tb_ones]
  by_cases q : j < c
  · rw [decide_eq_false (by omega), decide_eq_true (show j < 32 by omega)]
    simp
  · rw [Nat.testBit_lt_two_pow (Nat.lt_of_lt_of_le h (Nat.pow_le_pow_right (by decide) (by omega)))]
    simp
theorem onb_lt {on c : Nat} (h : on < 2 ^ c) (b : Bool) : onb on c b < 2 ^ (c + 1) := by
  unfold onb
  cases b
  · exact Nat.lt_of_lt_of_le h (Nat.pow_le_pow_right (by decide) (by omega))
  · exact or_lt h
theorem onb_old {on c j : Nat} {b : Bool} (h : j < c) : (onb on c b).testBit j = on.testBit j := by
  unfold onb
  cases b
  · rfl
  · rw [if_pos rfl, or_bit, decide_eq_false (by omega), Bool.or_false]
theorem onb_new {on c : Nat} {b : Bool} (h : on < 2 ^ c) : (onb on c b).testBit c = b := by
  unfold onb
  cases b
  · exact Nat.testBit_lt_two_pow h
  · rw [if_pos rfl, or_bit, decide_eq_true rfl, Bool.or_true]
theorem append_b {σ : St} {a c od on : Nat} {rs md nm : Nat → Nat} (h : CV σ a c od on rs md nm) (w : WF c od on rs md nm) (hc : c < 12) {r m l : Nat} (hr : r ≤ 3600) (hm : 1 ≤ m) (hm2 : m ≤ 60) (b : Bool) : ∃ σ', Cl_append σ a (nI r) (nI m) (if b then 1 else 0) (lN l) = some σ' ∧ CV σ' a (c + 1) od (onb on c b) (fset rs c (r % m)) (fset md c m) (fset nm c l) := by
  obtain ⟨a1, a2, a3, a4, a5, a6⟩ := h
  refine ⟨wI (wI (wL (wI (wI σ (a + 1) c (nI (r % m))) (a + 2) c (nI m)) (a + 3) c (lN l)) a 4 (nI (onb on c b))) a 3 (nI (c + 1)), ?_, wI_s, ?_, ?_, fun k hk => ?_, fun k hk => ?_, fun k hk => ?_⟩
  · unfold Cl_append
    rw [a1, if_neg (by rw [show (12 : Int32) = nI 12 from rfl, le_nI (by omega) (by omega)]; omega), leftBy_n (by omega) (by omega) (by omega), bd_s, ix_nI (by omega) (by omega), chk_true, tn_nI (by omega), bnd_x, wI_ne (by omega), a1, ix_nI (by omega) (by omega), chk_true, tn_nI (by omega), bnd_x, wI_ne (by omega), wI_ne (by omega), a1, ix_nI (by omega) (by omega), chk_true, tn_nI (by omega), bnd_x]
    cases b
    · rw [if_pos (show (if false = true then (1 : Int32) else 0) = 0 from rfl), wL_1, wI_ne (by omega), wI_ne (by omega), a2, wI_ne (by omega), wI_ne (by omega), a1, shl1 (by omega), m1_n, xor_nI, and_nI, and_off w.2.2.1 w.1, bnd_x, wI_ne (by omega), wL_1, wI_ne (by omega), wI_ne (by omega), a1, nI_1, bnd_x]
      rfl
    · rw [if_neg (by decide), wL_1, wI_ne (by omega), wI_ne (by omega), a2, wI_ne (by omega), wI_ne (by omega), a1, shl1 (by omega), or_nI, bnd_x, wI_ne (by omega), wL_1, wI_ne (by omega), wI_ne (by omega), a1, nI_1, bnd_x]
      rfl
  · rw [wI_ne (by omega), wI_s]
  · rw [wI_ne (by omega), wI_ne (by omega), wL_1, wI_ne (by omega), wI_ne (by omega)]; exact a3
  · rw [wI_ne (by omega), wI_ne (by omega), wL_1, wI_ne (by omega)]
    by_cases e : k = c
    · rw [e, wI_s, fset_1]
    · rw [fset_2 _ _ e, wI_ne (fun q => e q.2)]; exact a4 k (by omega)
  · rw [wI_ne (by omega), wI_ne (by omega), wL_1]
    by_cases e : k = c
    · rw [e, wI_s, fset_1]
    · rw [fset_2 _ _ e, wI_ne (fun q => e q.2), wI_ne (by omega)]; exact a5 k (by omega)
  · rw [wI_2, wI_2]
    by_cases e : k = c
    · rw [e, wL_s, fset_1]
    · rw [fset_2 _ _ e, wL_ne (fun q => e q.2), wI_2, wI_2]; exact a6 k (by omega)
/-- the parts of a class, one after another -/
def sR (c k : Nat) (rs md : Nat → Nat) : Nat → Nat → Nat
  | 0 => rs
  | j + 1 => fset (sR c k rs md j) (c + j) (rs k + (j + 1) * md k)
def sM (c k n : Nat) (md : Nat → Nat) : Nat → Nat → Nat
  | 0 => fset md k (md k * n)
  | j + 1 => fset (sM c k n md j) (c + j) (md k * n)
def sN (c : Nat) (nm : Nat → Nat) : Nat → Nat → Nat
  | 0 => nm
  | j + 1 => fset (sN c nm j) (c + j) 0
def sO (c k on : Nat) : Nat → Nat
  | 0 => on
  | j + 1 => onb (sO c k on j) (c + j) (on.testBit k)
theorem sR_k {c k : Nat} {rs md : Nat → Nat} (hk : k < c) : ∀ j, sR c k rs md j k = rs k
  | 0 => rfl
  | j + 1 => by unfold sR; rw [fset_2 _ _ (by omega)]; exact sR_k hk j
theorem sO_lt {c k on : Nat} (h : on < 2 ^ c) : ∀ j, sO c k on j < 2 ^ (c + j)
  | 0 => h
  | j + 1 => by unfold sO; exact onb_lt (sO_lt h j) _
theorem sO_k {c k on : Nat} (hk : k < c) : ∀ j, (sO c k on j).testBit k = on.testBit k
  | 0 => rfl
  | j + 1 => by unfold sO; rw [onb_old (by omega)]; exact sO_k hk j
theorem sWF {c od on : Nat} {rs md nm : Nat → Nat} (w : WF c od on rs md nm) {k n : Nat} (hk : k < c) (hn : 1 ≤ n) (h60 : md k * n ≤ 60) : ∀ j, j < n → c + j ≤ 12 → WF (c + j) od (sO c k on j) (sR c k rs md j) (sM c k n md j) (sN c nm j)
  | 0, _, _ => by
    refine ⟨w.1, w.2.1, w.2.2.1, fun i hi => ?_, w.2.2.2.2⟩
    obtain ⟨b1, b2, b3⟩ := w.2.2.2.1 i hi
    show 1 ≤ fset md k (md k * n) i ∧ fset md k (md k * n) i ≤ 60 ∧ rs i < fset md k (md k * n) i
    by_cases e : i = k
    · subst e
      rw [fset_1]
      have := Nat.le_mul_of_pos_right (md i) (show 0 < n by omega)
      omega
    · rw [fset_2 _ _ e]; exact ⟨b1, b2, b3⟩
  | j + 1, hj, hc => by
    have ih := sWF w hk hn h60 j (by omega) (by omega)
    obtain ⟨b1, b2, b3⟩ := w.2.2.2.1 k hk
    have h1 : (j + 1 + 1) * md k ≤ n * md k := Nat.mul_le_mul_right _ hj
    have h2 : n * md k = md k * n := Nat.mul_comm _ _
    have h3 : (j + 1 + 1) * md k = (j + 1) * md k + md k := by rw [Nat.add_mul, Nat.one_mul]
    exact ih.push (by omega) (by omega) h60 (by omega) (onb_lt (sO_lt w.2.2.1 j) _)
theorem part_n {σ : St} {a c od on : Nat} {rs md nm : Nat → Nat} (h : CV σ a c od on rs md nm) (w : WF c od on rs md nm) {k n : Nat} (hk : k < c) (hn : 2 ≤ n) (hn7 : n ≤ 7) (hc : c + n - 1 ≤ 12) (h60 : md k * n ≤ 60) : ∃ σ', Cl_part σ a (nI k) (nI n) = some σ' ∧ CV σ' a (c + (n - 1)) od (sO c k on (n - 1)) (sR c k rs md (n - 1)) (sM c k n md (n - 1)) (sN c nm (n - 1)) := by
  obtain ⟨b1, b2, b3⟩ := w.2.2.2.1 k hk
  have key := iter_cnt (body := fun s : (Int32 × St) => Cl_part_L19 a (nI k) (nI n) (nI (md k)) s.2 s.1) (fun i s => s.1 = nI i ∧ CV s.2 a (c + (i - 1)) od (sO c k on (i - 1)) (sR c k rs md (i - 1)) (sM c k n md (i - 1)) (sN c nm (i - 1))) (fun e => CV e a (c + (n - 1)) od (sO c k on (n - 1)) (sR c k rs md (n - 1)) (sM c k n md (n - 1)) (sN c nm (n - 1))) (lo := 1) (hi := n) (n := FUEL) (by omega) (fuel (by omega)) ?_ ?_ (s := (1, wI σ (a + 2) k (nI (md k * n)))) ⟨rfl, h.mod⟩
  · obtain ⟨e, h1, h2⟩ := key
    refine ⟨e, ?_, h2⟩
    unfold Cl_part
    rw [ix_nI (by omega) (by omega), chk_true, tn_nI (by omega), h.2.2.2.2.1 k hk, bnd_x, chk_true, pk_mul, bnd_x, h1, bd_s]
  · rintro i ⟨x, τ⟩ hi1 hi ⟨rfl, hv⟩
    obtain ⟨j, rfl⟩ : ∃ j, i = j + 1 := ⟨i - 1, by omega⟩
    rw [show j + 1 - 1 = j by omega] at hv
    have wj := sWF w hk (by omega) h60 j (by omega) (by omega)
    have z1 : (j + 1) * md k ≤ 7 * 60 := Nat.mul_le_mul (by omega) b2
    have z2 : (j + 1 + 1) * md k ≤ n * md k := Nat.mul_le_mul_right _ hi
    have z3 : n * md k = md k * n := Nat.mul_comm _ _
    have z4 : (j + 1 + 1) * md k = (j + 1) * md k + md k := by rw [Nat.add_mul, Nat.one_mul]
    obtain ⟨υ, u1, u2⟩ := append_b hv wj (by omega) (r := rs k + (j + 1) * md k) (m := md k * n) (l := 0) (by omega) (by omega) h60 (on.testBit k)
    rw [Nat.mod_eq_of_lt (by omega)] at u2
    refine ⟨(nI (j + 1 + 1), υ), ?_, rfl, u2⟩
    show Cl_part_L19 a (nI k) (nI n) (nI (md k)) τ (nI (j + 1)) = _
    unfold Cl_part_L19
    have hr := hv.2.2.2.1 k (by omega)
    rw [sR_k hk] at hr
    rw [if_neg (by rw [le_nI (by omega) (by omega)]; omega), ix_nI (by omega) (by omega), chk_true, isOn_n hv wj (by omega), bd_s, sO_k hk, tn_nI (by omega), hr, pk_mul, nI_add, pk_mul, show (0 : Int64) = lN 0 from rfl, u1, bd_s, bnd_x, nI_1]
  · rintro ⟨x, τ⟩ ⟨rfl, hv⟩
    refine ⟨τ, ?_, hv⟩
    show Cl_part_L19 a (nI k) (nI n) (nI (md k)) τ (nI n) = _
    unfold Cl_part_L19
    rw [if_pos (by rw [le_nI (by omega) (by omega)]; omega)]
theorem splits_n {σ : St} {c od on : Nat} {rs md nm : Nat → Nat} (h : MV σ 0 0 c od on rs md nm) (w : WF c od on rs md nm) {k n : Nat} (hk : k < c) (hn : 2 ≤ n) (hn7 : n ≤ 7) (hc : c + n - 1 ≤ 12) (h60 : md k * n ≤ 60) : ∃ σ', Mo_splits σ (nI k) (nI n) = some σ' ∧ MV σ' 0 0 (c + (n - 1)) od (sO c k on (n - 1)) (sR c k rs md (n - 1)) (sM c k n md (n - 1)) (sN c nm (n - 1)) ∧ Fp Ms σ σ' := by
  obtain ⟨b1, b2, b3⟩ := w.2.2.2.1 k hk
  have z3 : n * md k = md k * n := Nat.mul_comm _ _
  have key := iter_cnt (body := fun s : (Int32 × St) => Mo_splits_L23 (nI k) (nI n) (nI (md k)) s.2 s.1) (fun i s => s.1 = nI i ∧ MV s.2 0 0 (c + (i - 1)) od (sO c k on (i - 1)) (sR c k rs md (i - 1)) (sM c k n md (i - 1)) (sN c nm (i - 1)) ∧ Fp Ms σ s.2) (fun e => MV e 0 0 (c + (n - 1)) od (sO c k on (n - 1)) (sR c k rs md (n - 1)) (sM c k n md (n - 1)) (sN c nm (n - 1)) ∧ Fp Ms σ e) (lo := 1) (hi := n) (n := FUEL) (by omega) (fuel (by omega)) ?_ ?_ (s := (1, wI σ 93 (5 + 3 * k) (nI (md k * n)))) ⟨rfl, h.mod0, Fp.rf.wI (by have := w.1; unfold Ms; omega)⟩
  · obtain ⟨e, h1, h2⟩ := key
    refine ⟨e, ?_, h2⟩
    unfold Mo_splits
    rw [modulusOf_n h w hk, bd_s, rowOf_n, bd_s, nI_1, ix_nI (by omega) (by omega), chk_true, tn_nI (by omega), pk_mul, z3, bnd_x, show 4 + 3 * k + 1 = 5 + 3 * k by omega, h1, bd_s]
  · rintro i ⟨x, τ⟩ hi1 hi ⟨rfl, hv, hF⟩
    obtain ⟨j, rfl⟩ : ∃ j, i = j + 1 := ⟨i - 1, by omega⟩
    rw [show j + 1 - 1 = j by omega] at hv
    have wj := sWF w hk (by omega) h60 j (by omega) (by omega)
    obtain ⟨υ, u1, u2, u3⟩ := puts_n hv (by omega) (on' := onb (sO c k on j) (c + j) (on.testBit k)) (r := rs k + (j + 1) * md k) (m := md k * n) (fun i hi => onb_old hi) rfl
    rw [onb_new (sO_lt w.2.2.1 j)] at u1
    have ho := hv.o0 (k := k) (by omega)
    rw [sO_k hk] at ho
    refine ⟨(nI (j + 1 + 1), υ), ?_, rfl, u2, hF.tr u3⟩
    show Mo_splits_L23 (nI k) (nI n) (nI (md k)) τ (nI (j + 1)) = _
    unfold Mo_splits_L23
    rw [if_neg (by rw [le_nI (by omega) (by omega)]; omega), restOf_n hv wj (by omega), bd_s, rowOf_n, bd_s, show nI (4 + 3 * k) + 2 = nI (6 + 3 * k) by rw [show (2 : Int32) = nI 2 from rfl, nI_add, show 4 + 3 * k + 2 = 6 + 3 * k by omega], ix_nI (by omega) (by omega), chk_true, tn_nI (by omega), ho, sR_k hk, pk_mul, nI_add, pk_mul, z3, u1, bd_s, bnd_x, nI_1]
  · rintro ⟨x, τ⟩ ⟨rfl, hv, hF⟩
    refine ⟨τ, ?_, hv, hF⟩
    show Mo_splits_L23 (nI k) (nI n) (nI (md k)) τ (nI n) = _
    unfold Mo_splits_L23
    rw [if_pos (by rw [le_nI (by omega) (by omega)]; omega)]
theorem partT_n {σ : St} {a c od on : Nat} {rs md nm : Nat → Nat} (h : CV σ a c od on rs md nm) (w : WF c od on rs md nm) {k n : Nat} (hk : k < c) (hn : 1 ≤ n) (hn7 : n ≤ 7) : Cl_partTrouble σ a (nI k) (nI n) = some (if c + n - 1 ≤ 12 then (if md k * n ≤ 60 then 0 else 7) else 4) := by
  obtain ⟨b1, b2, b3⟩ := w.2.2.2.1 k hk
  have hc := w.1
  have z : md k * n ≤ 60 * 7 := Nat.mul_le_mul b2 hn7
  unfold Cl_partTrouble
  rw [h.1, nI_add, show nI (c + n) - 1 = nI (c + n - 1) from sub_nI (a := c + n) (b := 1) (by omega), show (12 : Int32) = nI 12 from rfl, show (60 : Int32) = nI 60 from rfl]
  by_cases q : c + n - 1 ≤ 12
  · rw [if_pos (by rw [le_nI (by omega) (by omega)]; exact q), if_pos q, ix_nI (by omega) (by omega), chk_true, tn_nI (by omega), h.2.2.2.2.1 k hk, pk_mul]
    by_cases q2 : md k * n ≤ 60
    · rw [if_pos (by rw [le_nI (by omega) (by omega)]; exact q2), if_pos q2]
    · rw [if_neg (by rw [le_nI (by omega) (by omega)]; exact q2), if_neg q2]
  · rw [if_neg (by rw [le_nI (by omega) (by omega)]; exact q), if_neg q]
theorem whyNot_n {σ : St} {c od on : Nat} {rs md nm : Nat → Nat} (h : MV σ 0 0 c od on rs md nm) (w : WF c od on rs md nm) {k n : Nat} (hk : k < c) (hn : 1 ≤ n) (hn7 : n ≤ 7) : Mo_whyNotSplit σ (nI k) (nI n) = some (if c + n - 1 ≤ 12 then (if md k * n ≤ 60 then 0 else 7) else 4) := by
  obtain ⟨b1, b2, b3⟩ := w.2.2.2.1 k hk
  have hc := w.1
  have z : md k * n ≤ 60 * 7 := Nat.mul_le_mul b2 hn7
  unfold Mo_whyNotSplit
  rw [ix00, chk_true, tn00, h.c0, nI_add, show nI (c + n) - 1 = nI (c + n - 1) from sub_nI (a := c + n) (b := 1) (by omega), show (12 : Int32) = nI 12 from rfl, show (60 : Int32) = nI 60 from rfl]
  by_cases q : c + n - 1 ≤ 12
  · rw [if_pos (by rw [le_nI (by omega) (by omega)]; exact q), if_pos q, modulusOf_n h w hk, bd_s, pk_mul, Nat.mul_comm n]
    by_cases q2 : md k * n ≤ 60
    · rw [if_pos (by rw [le_nI (by omega) (by omega)]; exact q2), if_pos q2]
    · rw [if_neg (by rw [le_nI (by omega) (by omega)]; exact q2), if_neg q2]
  · rw [if_neg (by rw [le_nI (by omega) (by omega)]; exact q), if_neg q]
theorem call_split {σ : St} (I : Inv σ) (p p2 : Int32) : Call (fun σ => RC_split σ p p2) (fun σ => Mo_split σ p p2) σ := by
  obtain ⟨c, od, on, rs, md, nm, hc, hm, w⟩ := I.2.2.2.2.1
  have hc12 := w.1
  by_cases hx : ix p c = true
  · obtain ⟨k, hk, rfl, hk2⟩ := ix_ex hx
    have h1 := isThere_g hc.1 (by omega) (nI k)
    rw [if_pos hx] at h1
    have h2 : ∀ {σ1}, MV σ1 0 0 c od on rs md nm → Mo_isClass σ1 (nI k) = some 1 := fun F => by rw [isClass_g F (by omega), if_pos hx]
    rcases within_ex p2 (lo := 2) (hi := 7) 2 7 rfl rfl (by omega) with h | ⟨n, hn2, hn, rfl, h⟩
    · refine call_s (r := -1) (v := 1) I ?_ (fun σ1 F => ?_)
      · show RC_split σ (nI k) p2 = _
        unfold RC_split
        rw [h1, bd_s, if_neg (by decide), h, bd_s, if_pos rfl, RC_refuse_n, bd2_s]
      · show Mo_split σ1 (nI k) p2 = _
        unfold Mo_split
        rw [h2 (hm.w F), bd_s, if_neg (by decide), isFrom_w, h, bd_s, if_pos rfl, Mo_refuse_n, bd2_s]
    by_cases q : c + n - 1 ≤ 12
    · by_cases q2 : md k * n ≤ 60
      · obtain ⟨τ, s1, s2⟩ := part_n hc w hk hn2 hn q q2
        have e1 : RC_split σ (nI k) (nI n) = some (nI (c + (n - 1)), wI τ 0 0 0) := by
          unfold RC_split
          rw [h1, bd_s, if_neg (by decide), h, bd_s, if_neg (by decide), partT_n hc w hk (by omega) hn, if_pos q, if_pos q2, bd_s, if_pos rfl, s1, bd_s, s2.1, RC_answer_n, bd2_s]
        have F1 := (fp_RC_split (A := Acs) (Fp.rf (σ := σ)) (by intros; unfold Acs; omega) (by intros; unfold Acs; omega) (by intros; unfold Acs; omega) (by intros; unfold Acs; omega) (by intros; unfold Acs; omega) (by intros; unfold Acs; omega) _ e1).2
        have hmm := hm.ws F1
        obtain ⟨υ, t1, t2, t3⟩ := splits_n hmm w hk hn2 hn q q2
        refine call_m (v := 0) (σ2 := wI υ 92 2 0) I e1 F1 wI_s (CV.st s2 (by omega) 0) ?_ ?_ wI_s (MV.st t2 0) (sWF w hk (by omega) q2 (n - 1) (by omega) (by omega))
        · show Mo_split _ _ _ = _
          unfold Mo_split
          rw [h2 hmm, bd_s, if_neg (by decide), isFrom_w, h, bd_s, if_neg (by decide), whyNot_n hmm w hk (by omega) hn, if_pos q, if_pos q2, bd_s, if_pos (by decide), t1, bd_s, ix00, chk_true, tn00, t2.c0, Mo_gives_n, bd2_s]
        · exact (t3.mono Ms.q).wI (by unfold Ams; omega)
      · refine call_s (r := -1) (v := 7) I ?_ (fun σ1 F => ?_)
        · show RC_split σ (nI k) (nI n) = _
          unfold RC_split
          rw [h1, bd_s, if_neg (by decide), h, bd_s, if_neg (by decide), partT_n hc w hk (by omega) hn, if_pos q, if_neg q2, bd_s, if_neg (by decide), RC_refuse_n, bd2_s]
        · show Mo_split σ1 (nI k) (nI n) = _
          unfold Mo_split
          rw [h2 (hm.w F), bd_s, if_neg (by decide), isFrom_w, h, bd_s, if_neg (by decide), whyNot_n (hm.w F) w hk (by omega) hn, if_pos q, if_neg q2, bd_s, if_neg (by decide), Mo_refuse_n, bd2_s]
    · refine call_s (r := -1) (v := 4) I ?_ (fun σ1 F => ?_)
      · show RC_split σ (nI k) (nI n) = _
        unfold RC_split
        rw [h1, bd_s, if_neg (by decide), h, bd_s, if_neg (by decide), partT_n hc w hk (by omega) hn, if_neg q, bd_s, if_neg (by decide), RC_refuse_n, bd2_s]
      · show Mo_split σ1 (nI k) (nI n) = _
        unfold Mo_split
        rw [h2 (hm.w F), bd_s, if_neg (by decide), isFrom_w, h, bd_s, if_neg (by decide), whyNot_n (hm.w F) w hk (by omega) hn, if_neg q, bd_s, if_neg (by decide), Mo_refuse_n, bd2_s]
  · refine call_s (r := -1) (v := 1) I ?_ (fun σ1 F => ?_)
    · show RC_split σ p p2 = _
      unfold RC_split
      rw [isThere_g hc.1 (by omega), if_neg hx, bd_s, if_pos rfl, RC_refuse_n, bd2_s]
    · show Mo_split σ1 p p2 = _
      unfold Mo_split
      rw [isClass_g (hm.w F) (by omega), if_neg hx, bd_s, if_pos rfl, Mo_refuse_n, bd2_s]
