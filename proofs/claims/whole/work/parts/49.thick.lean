/-! thick, ask -/
def mx (f : Nat → Nat) : Nat → Nat
  | 0 => 0
  | k + 1 => max (mx f k) (f k)
def am (f : Nat → Nat) : Nat → Nat
  | 0 => 0
  | k + 1 => if f k ≤ mx f k then am f k else k
theorem mx_s (f : Nat → Nat) (k : Nat) : mx f (k + 1) = max (mx f k) (f k) := rfl
theorem am_s (f : Nat → Nat) (k : Nat) : am f (k + 1) = if f k ≤ mx f k then am f k else k := rfl
theorem mx_ge {f : Nat → Nat} : ∀ {n k : Nat}, k < n → f k ≤ mx f n
  | 0, _, h => by omega
  | n + 1, k, h => by
    rw [mx_s]
    by_cases e : k = n
    · rw [e]; omega
    · have := mx_ge (f := f) (n := n) (k := k) (by omega); omega
theorem am_n {f : Nat → Nat} : ∀ n, 1 ≤ n → am f n < n ∧ f (am f n) = mx f n ∧ ∀ j, j < am f n → f j < mx f n
  | 0, h => by omega
  | n + 1, _ => by
    rw [mx_s, am_s]
    by_cases h0 : n = 0
    · subst h0
      have e0 : mx f 0 = 0 := rfl
      have a0 : am f 0 = 0 := rfl
      by_cases q : f 0 ≤ mx f 0
      · rw [if_pos q, a0, e0]; refine ⟨by omega, by omega, fun j hj => by omega⟩
      · rw [if_neg q, e0]; refine ⟨by omega, by omega, fun j hj => by omega⟩
    · obtain ⟨i1, i2, i3⟩ := am_n (f := f) n (by omega)
      by_cases q : f n ≤ mx f n
      · rw [if_pos q]; refine ⟨by omega, by omega, fun j hj => by have := i3 j hj; omega⟩
      · rw [if_neg q]; refine ⟨by omega, by omega, fun j hj => ?_⟩
        have := mx_ge (f := f) hj
        omega
theorem am_le (f : Nat → Nat) : ∀ n, am f n ≤ n
  | 0 => Nat.le_refl _
  | n + 1 => by have := am_le f n; rw [am_s]; split <;> omega
theorem mx_b {f : Nat → Nat} {b : Nat} (h : ∀ k, f k ≤ b) : ∀ n, mx f n ≤ b
  | 0 => Nat.zero_le _
  | n + 1 => by have := mx_b h n; have := h n; rw [mx_s]; omega
section THK
variable {σ : St} {c od on : Nat} {rs md nm : Nat → Nat}
def thf (c on : Nat) (rs md : Nat → Nat) (v : Nat) : Nat := ct12 (cset c on rs md v)
theorem thf_le (c on : Nat) (rs md : Nat → Nat) (v : Nat) : thf c on rs md v ≤ 12 := ct12_le _
theorem thickest_n {S a : Nat} (h : CV σ a c od on rs md nm) (w : WF c od on rs md nm) (hs : σ.1 31 3 = nI S) (hS : S ≤ 5040) : Si_thickestNumber σ a = some (nI (am (thf c on rs md) S)) := by
  have hc := w.1
  unfold Si_thickestNumber
  have key := iter_for (body := fun u : (Int32 × Int32 × Int32) => Si_thickestNumber_L7 a σ u.1 u.2.1 u.2.2) (fun k => (nI (am (thf c on rs md) k), nI (mx (thf c on rs md) k), nI k)) (lo := 0) (hi := S) (e := nI (am (thf c on rs md) S)) (n := FUEL) (Nat.zero_le _) (fuel (by omega)) ?_ ?_
  · exact congrArg (fun o => bd o (fun v => some v)) key
  · intro k _ hk
    show Si_thickestNumber_L7 a σ (nI (am (thf c on rs md) k)) (nI (mx (thf c on rs md) k)) (nI k) = some (.inl (nI (am (thf c on rs md) (k + 1)), nI (mx (thf c on rs md) (k + 1)), nI (k + 1)))
    have h1 := thf_le c on rs md k
    have h2 := mx_b (thf_le c on rs md) k
    unfold Si_thickestNumber_L7
    rw [hs, if_neg (by rw [le_nI (by omega) (by omega)]; omega), catchers_n h w (by omega), bd_s, bcI_n _ (cset_4 hc), bd_s, mx_s, am_s, show ct12 (cset c on rs md k) = thf c on rs md k from rfl]
    by_cases q : thf c on rs md k ≤ mx (thf c on rs md) k
    · rw [if_pos (by rw [le_nI (by omega) (by omega)]; exact q), bnd_x, nI_1, if_pos q, Nat.max_eq_left q]
    · rw [if_neg (by rw [le_nI (by omega) (by omega)]; exact q), bnd_x, nI_1, if_neg q, Nat.max_eq_right (by omega)]
  · show Si_thickestNumber_L7 a σ (nI (am (thf c on rs md) S)) (nI (mx (thf c on rs md) S)) (nI S) = _
    unfold Si_thickestNumber_L7
    rw [hs, if_pos (by rw [le_nI (by omega) (by omega)]; omega)]
theorem thickM_n {S : Nat} (hc : c ≤ 12) (hS : S ≤ 5040) (h1 : σ.1 92 23 = nI S) (h2 : ∀ y, y < S → σ.1 101 y = nI (hb on rs md y c)) : Mo_thickNow σ = some (nI (mx (thf c on rs md) S)) := by
  unfold Mo_thickNow
  have key := iter_for (body := fun u : (Int32 × Int32) => Mo_thickNow_L4 σ u.1 u.2) (fun k => (nI (mx (thf c on rs md) k), nI k)) (lo := 0) (hi := S) (e := nI (mx (thf c on rs md) S)) (n := FUEL) (Nat.zero_le _) (fuel (by omega)) ?_ ?_
  · exact congrArg (fun o => bd o (fun v => some v)) key
  · intro k _ hk
    show Mo_thickNow_L4 σ (nI (mx (thf c on rs md) k)) (nI k) = some (.inl (nI (mx (thf c on rs md) (k + 1)), nI (k + 1)))
    have a1 := thf_le c on rs md k
    have a2 := mx_b (thf_le c on rs md) k
    unfold Mo_thickNow_L4
    rw [h1, if_neg (by rw [le_nI (by omega) (by omega)]; omega), ix_nI (by omega) (by omega), chk_true, tn_nI (by omega), h2 k hk, bitsM_n (hb_4 on rs md k hc), bd_s, show ct12 (hb on rs md k c) = thf c on rs md k from rfl, jmax_nI (by omega) (by omega), bnd_x, bnd_x, nI_1, mx_s]
  · show Mo_thickNow_L4 σ (nI (mx (thf c on rs md) S)) (nI S) = _
    unfold Mo_thickNow_L4
    rw [h1, if_pos (by rw [le_nI (by omega) (by omega)]; omega)]
end THK
theorem call_thick {σ : St} (I : Inv σ) : Call RC_thick Mo_thick σ := by
  obtain ⟨c, od, on, rs, md, nm, hc, hm, w⟩ := I.2.2.2.2.1
  have hc12 := w.1
  by_cases h0 : spn md on c = 0
  · refine call_w (r := -1) I ?_ (fun σ1 F => ?_)
    · unfold RC_thick
      rw [sieved_0 hc w h0, bd2_s, if_pos rfl, RC_refuse_n, bd2_s]
    · unfold Mo_thick
      rw [laysNow_0 (hm.w2 F) w h0, bd2_s, if_pos rfl, Mo_refuse_n, bd2_s]
  obtain ⟨p1, p2⟩ := spn_pos h0
  obtain ⟨τ, a1, a2, a3, a4⟩ := sieved_n hc w h0
  obtain ⟨e1, e2, e3⟩ := am_n (f := thf c on rs md) (spn md on c) p1
  refine call_v I (a2.mono Asv.q) (r := nI (mx (thf c on rs md) (spn md on c))) (v := 0) ?_ (fun σ1 F => ?_)
  · unfold RC_thick
    rw [a1, bd2_s, if_neg (by decide), thickest_n a3 w a4.1 p2, bd_s, catchers_n a3 w (by omega), bd_s, bcI_n _ (cset_4 hc12), bd_s, RC_answer_n, bd2_s, ← e2]
    rfl
  · obtain ⟨υ, b1, b2, b3, b4, b5⟩ := laysNow_n (hm.w2 F) w h0
    refine ⟨υ, b2.mono Aly.q, ?_⟩
    unfold Mo_thick
    rw [b1, bd2_s, if_neg (by decide), thickM_n hc12 p2 b4 b5, bd_s, Mo_gives_n, bd2_s]
theorem call_ask {σ : St} (I : Inv σ) : Call RC_ask Mo_ask σ := by
  obtain ⟨c, od, on, rs, md, nm, hc, hm, w⟩ := I.2.2.2.2.1
  have hc12 := w.1
  have ho := w.on4
  by_cases h0 : spn md on c = 0
  · refine call_w (r := -1) I ?_ (fun σ1 F => ?_)
    · unfold RC_ask
      rw [sieved_0 hc w h0, bd2_s, if_pos rfl, RC_refuse_n, bd2_s]
    · unfold Mo_ask
      rw [laysNow_0 (hm.w2 F) w h0, bd2_s, if_pos rfl, Mo_refuse_n, bd2_s]
  obtain ⟨p1, p2⟩ := spn_pos h0
  obtain ⟨τ, a1, a2, a3, a4⟩ := sieved_n hc w h0
  obtain ⟨e1, e2, e3⟩ := am_n (f := thf c on rs md) (spn md on c) p1
  by_cases hz : on = 0
  · refine call_v I (a2.mono Asv.q) (r := -1) (v := 6) ?_ (fun σ1 F => ?_)
    · unfold RC_ask
      rw [a1, bd2_s, if_neg (by decide), a3.2.1, if_pos (by rw [hz]; rfl), RC_refuse_n, bd2_s]
    · obtain ⟨υ, b1, b2, b3, b4, b5⟩ := laysNow_n (hm.w2 F) w h0
      refine ⟨υ, b2.mono Aly.q, ?_⟩
      unfold Mo_ask
      rw [b1, bd2_s, if_neg (by decide), onSet_n b3 w, bd_s, if_pos (by rw [hz]; rfl), Mo_refuse_n, bd2_s]
  · refine call_v I (a2.mono Asv.q) (r := nI (am (thf c on rs md) (spn md on c))) (v := 0) ?_ (fun σ1 F => ?_)
    · unfold RC_ask
      rw [a1, bd2_s, if_neg (by decide), a3.2.1, if_neg (by rw [show (0 : Int32) = nI 0 from rfl, eq_nI (by omega) (by omega)]; exact hz), thickest_n a3 w a4.1 p2, bd_s, RC_answer_n, bd2_s]
    · obtain ⟨υ, b1, b2, b3, b4, b5⟩ := laysNow_n (hm.w2 F) w h0
      refine ⟨υ, b2.mono Aly.q, ?_⟩
      have a9 := mx_b (thf_le c on rs md) (spn md on c)
      have key : iter (fun s : Int32 => Mo_ask_L30 υ s) FUEL 0 = some (nI (am (thf c on rs md) (spn md on c))) := by
        refine iter_for (body := fun s : Int32 => Mo_ask_L30 υ s) (fun x => nI x) (lo := 0) (hi := am (thf c on rs md) (spn md on c)) (n := FUEL) (Nat.zero_le _) (fuel (by omega)) ?_ ?_
        · intro x _ hx
          show Mo_ask_L30 υ (nI x) = some (.inl (nI (x + 1)))
          have q := e3 x hx
          unfold Mo_ask_L30
          rw [ix_nI (by omega) (by omega), chk_true, tn_nI (by omega), b5 x (by omega), bitsM_n (hb_4 on rs md x hc12), bd_s, thickM_n hc12 p2 b4 b5, bd_s, show ct12 (hb on rs md x c) = thf c on rs md x from rfl, if_neg (by rw [le_nI (by omega) (by omega)]; omega), bnd_x, nI_1]
        · show Mo_ask_L30 υ (nI (am (thf c on rs md) (spn md on c))) = _
          unfold Mo_ask_L30
          rw [ix_nI (by omega) (by omega), chk_true, tn_nI (by omega), b5 _ e1, bitsM_n (hb_4 on rs md _ hc12), bd_s, thickM_n hc12 p2 b4 b5, bd_s, show ct12 (hb on rs md (am (thf c on rs md) (spn md on c)) c) = thf c on rs md (am (thf c on rs md) (spn md on c)) from rfl, e2, if_pos (by rw [le_nI (by omega) (by omega)]; omega)]
      unfold Mo_ask
      rw [b1, bd2_s, if_neg (by decide), onSet_n b3 w, bd_s, if_neg (by rw [show (0 : Int32) = nI 0 from rfl, eq_nI (by omega) (by omega)]; exact hz), key, bd_s, Mo_gives_n, bd2_s]
/-! bits of a row -/
theorem s64 : ∀ n, n < 64 → (((nI n).toInt64 &&& 63).toBitVec.smod 64).toNat = n := by decide +kernel
theorem lb_sshr {k : Nat} (hk : k < 64) (x : Int64) : lb (x >>> ((nI k).toInt64 &&& 63)) 0 = lb x k := by
  unfold lb
  rw [Int64.toBitVec_shiftRight]
  show (x.toBitVec.sshiftRight (((nI k).toInt64 &&& 63).toBitVec.smod 64).toNat).getLsbD 0 = _
  rw [s64 k hk, BitVec.getLsbD_sshiftRight]
  simp [hk]
theorem lb_1 (j : Nat) (hj : j < 64) : lb 1 j = decide (j = 0) := by
  rw [show (1 : Int64) = lN (2 ^ 0) from rfl, lb_N hj, Nat.testBit_two_pow]
  exact decide_eq_decide.mpr ⟨fun e => e.symm, fun e => e.symm⟩
theorem and1_1 (y : Int64) : (y &&& 1 = 1) ↔ lb y 0 = true := by
  constructor
  · intro e
    have := congrArg (fun z => lb z 0) e
    simp only [lb_and] at this
    rw [lb_1 0 (by omega)] at this
    simpa using this
  · intro e
    apply lb_ext
    intro j hj
    rw [lb_and, lb_1 j hj]
    by_cases q : j = 0
    · rw [q, e]; rfl
    · rw [decide_eq_false q, Bool.and_false]
theorem within_y {a b : Nat} (hb : b < 2147483648) (h : a ≤ b) : RC_within (nI a).toInt64 0 (nI b).toInt64 = some 1 := by
  unfold RC_within
  rw [nI_l (by omega), nI_l hb, show (0 : Int64) = lN 0 from rfl, if_neg (by rw [pk_lLT (by omega) (by omega)]; omega), if_neg (by rw [pk_lLT (by omega) (by omega)]; omega)]
theorem hasBit_n {σ : St} {a n v : Nat} (hn : n ≤ 1000) (hv : v / 64 < n) (hv2 : v < 2147483648) : RC_hasBit σ a n (nI v) = some (if lb (σ.2 a (v / 64)) (v % 64) = true then 1 else 0) := by
  unfold RC_hasBit
  rw [show nzI 64 = true from by decide, chk_true, show (64 : Int32) = nI 64 from rfl, div_nI hv2 (by omega) (by omega), bnd_x, show (Int32.ofNat n) - 1 = nI (n - 1) from sub_nI (a := n) (b := 1) (by omega), within_y (by omega) (by omega), bd_s, if_neg (by decide), ix_nI (by omega) (by omega), chk_true, chk_true, rem_nI hv2 (by omega) (by omega), tn_nI (by omega)]
  by_cases q : lb (σ.2 a (v / 64)) (v % 64) = true
  · rw [if_pos ((and1_1 _).mpr (by rw [lb_sshr (by omega)]; exact q)), if_pos q]
  · rw [if_neg (fun e => q (by have := (and1_1 _).mp e; rwa [lb_sshr (by omega)] at this)), if_neg q]
/-! turnsBy -/
def Rp (p : Nat → Bool) (S n : Nat) : Prop := ∀ x, p ((x + n) % S) = p (x % S)
theorem Rp.of {p : Nat → Bool} {S n : Nat} (h : ∀ x, x < S → p x = p ((x + n) % S)) (hS : 1 ≤ S) : Rp p S n := fun x => by
  have hx : x % S < S := Nat.mod_lt _ (by omega)
  rw [h _ hx, Nat.mod_add_mod]
theorem Rp.sub {p : Nat → Bool} {S a b : Nat} (ha : Rp p S a) (hb : Rp p S b) (h : b ≤ a) : Rp p S (a - b) := fun x => by
  rw [← hb (x + (a - b)), show x + (a - b) + b = x + a by omega]
  exact ha x
theorem Rp.mul {p : Nat → Bool} {S a : Nat} (ha : Rp p S a) : ∀ k, Rp p S (k * a)
  | 0 => fun x => by rw [Nat.zero_mul, Nat.add_zero]
  | k + 1 => fun x => by
    rw [Nat.add_mul, Nat.one_mul, ← Nat.add_assoc, ha]
    exact Rp.mul ha k x
theorem Rp.S {p : Nat → Bool} {S : Nat} : Rp p S S := fun x => by rw [Nat.add_mod_right]
theorem Rp.dvd {p : Nat → Bool} {S n : Nat} (h1 : 1 ≤ n) (h : Rp p S n) (hl : ∀ j, j < n → ¬ (1 ≤ j ∧ Rp p S j)) : S % n = 0 := by
  have hr : S % n < n := Nat.mod_lt _ (by omega)
  have hd := Nat.div_add_mod S n
  have hc : n * (S / n) = S / n * n := Nat.mul_comm _ _
  have hR : Rp p S (S % n) := by
    have := Rp.sub Rp.S (h.mul (S / n)) (by omega)
    rwa [show S - S / n * n = S % n by omega] at this
  apply Classical.byContradiction
  intro q
  exact hl _ hr ⟨by omega, hR⟩
theorem Rp.up {p : Nat → Bool} {S n : Nat} (hS : 1 ≤ S) (h1 : 1 ≤ n) (hd : S % n = 0) (h : ∀ v, v + n < S → p v = p (v + n)) : Rp p S n := by
  have key : ∀ k v, v + k * n < S → p v = p (v + k * n) := by
    intro k
    induction k with
    | zero => intro v _; rw [Nat.zero_mul, Nat.add_zero]
    | succ k ih =>
      intro v hv
      rw [Nat.add_mul, Nat.one_mul] at hv ⊢
      rw [ih v (by omega), h (v + k * n) (by omega), Nat.add_assoc]
  have hmod : ∀ v, v < S → p v = p (v % n) := fun v hv => by
    have e := Nat.div_add_mod v n
    have hc : n * (v / n) = v / n * n := Nat.mul_comm _ _
    have := key (v / n) (v % n) (by omega)
    rw [show v % n + v / n * n = v by omega] at this
    exact this.symm
  intro x
  have hx : x % S < S := Nat.mod_lt _ (by omega)
  have hx2 : (x + n) % S < S := Nat.mod_lt _ (by omega)
  have hdv : n ∣ S := Nat.dvd_of_mod_eq_zero hd
  rw [hmod _ hx, hmod _ hx2, Nat.mod_mod_of_dvd _ hdv, Nat.mod_mod_of_dvd _ hdv, Nat.add_mod_right]
section TRN
variable {σ : St}
theorem again_1 {S n : Nat} {p f2 : Nat → Bool} (g : Sq σ S p f2) (hS : S ≤ 5040) (hn : n ≤ S) (h : ∀ v, v + n < S → p v = p (v + n)) : Si_comesAgainBy σ (nI n) = some 1 := by
  have hbit : ∀ v, v < S → RC_hasBit σ 32 79 (nI v) = some (if p v = true then 1 else 0) := fun v hv => by
    rw [hasBit_n (by omega) (by omega) (by omega), (g.2.2 (v / 64) (by omega) (v % 64) (by omega)).1, show 64 * (v / 64) + v % 64 = v by omega]
  unfold Si_comesAgainBy
  refine iter_for (body := fun s : Int32 => Si_comesAgainBy_L2 (nI n) σ s) (fun v => nI v) (lo := 0) (hi := S - n) (n := FUEL) (Nat.zero_le _) (fuel (by omega)) ?_ ?_
  · intro v _ hv
    show Si_comesAgainBy_L2 (nI n) σ (nI v) = some (.inl (nI (v + 1)))
    unfold Si_comesAgainBy_L2
    rw [g.1, nI_add, if_neg (by rw [le_nI (by omega) (by omega)]; omega), hbit v (by omega), bd_s, hbit (v + n) (by omega), bd_s, h v (by omega), if_pos rfl, bnd_x, nI_1]
  · show Si_comesAgainBy_L2 (nI n) σ (nI (S - n)) = _
    unfold Si_comesAgainBy_L2
    rw [g.1, nI_add, if_pos (by rw [le_nI (by omega) (by omega)]; omega)]
theorem again_0 {S n : Nat} {p f2 : Nat → Bool} (g : Sq σ S p f2) (hS : S ≤ 5040) (hn : n ≤ S) (h : ¬ ∀ v, v + n < S → p v = p (v + n)) : Si_comesAgainBy σ (nI n) = some 0 := by
  have hbit : ∀ v, v < S → RC_hasBit σ 32 79 (nI v) = some (if p v = true then 1 else 0) := fun v hv => by
    rw [hasBit_n (by omega) (by omega) (by omega), (g.2.2 (v / 64) (by omega) (v % 64) (by omega)).1, show 64 * (v / 64) + v % 64 = v by omega]
  have hex : ∃ v, v < S - n ∧ ¬ p v = p (v + n) := by
    apply Classical.byContradiction
    intro q
    apply h
    intro v hv
    apply Classical.byContradiction
    intro z
    exact q ⟨v, by omega, z⟩
  obtain ⟨t, t1, t2, t3⟩ := fb_first hex
  unfold Si_comesAgainBy
  refine iter_for (body := fun s : Int32 => Si_comesAgainBy_L2 (nI n) σ s) (fun v => nI v) (lo := 0) (hi := t) (n := FUEL) (Nat.zero_le _) (fuel (by omega)) ?_ ?_
  · intro v _ hv
    show Si_comesAgainBy_L2 (nI n) σ (nI v) = some (.inl (nI (v + 1)))
    have e : p v = p (v + n) := Classical.byContradiction (t3 v hv)
    unfold Si_comesAgainBy_L2
    rw [g.1, nI_add, if_neg (by rw [le_nI (by omega) (by omega)]; omega), hbit v (by omega), bd_s, hbit (v + n) (by omega), bd_s, e, if_pos rfl, bnd_x, nI_1]
  · show Si_comesAgainBy_L2 (nI n) σ (nI t) = _
    unfold Si_comesAgainBy_L2
    rw [g.1, nI_add, if_neg (by rw [le_nI (by omega) (by omega)]; omega), hbit t (by omega), bd_s, hbit (t + n) (by omega), bd_s, if_neg]
    intro e
    apply t2
    cases h1 : p t <;> cases h2 : p (t + n)
    · rfl
    · rw [h1, h2] at e; exact absurd e (by decide)
    · rw [h1, h2] at e; exact absurd e (by decide)
    · rfl
theorem leastTurn_n {S n : Nat} {p f2 : Nat → Bool} (g : Sq σ S p f2) (hS : S ≤ 5040) (hS1 : 1 ≤ S) (h1 : 1 ≤ n) (hnS : n ≤ S) (hR : Rp p S n) (hl : ∀ j, j < n → ¬ (1 ≤ j ∧ Rp p S j)) : Si_leastTurn σ = some (nI n) := by
  unfold Si_leastTurn
  have hd := hR.dvd h1 hl
  refine iter_for (body := fun s : Int32 => Si_leastTurn_L2 σ s) (fun v => nI v) (lo := 1) (hi := n) (n := FUEL) h1 (fuel (by omega)) ?_ ?_
  · intro m hm1 hm
    show Si_leastTurn_L2 σ (nI m) = some (.inl (nI (m + 1)))
    unfold Si_leastTurn_L2
    rw [g.1, if_neg (by rw [le_nI (by omega) (by omega)]; omega), leftBy_n (by omega) (by omega) (by omega), bd_s]
    have hml : S % m < m := Nat.mod_lt _ (by omega)
    by_cases q : S % m = 0
    · rw [q, if_pos (show nI 0 = 0 from rfl), again_0 g hS (by omega) (fun z => hl m hm ⟨hm1, Rp.up hS1 hm1 q z⟩), bd_s, if_pos rfl, bnd_x, nI_1]
    · rw [show (0 : Int32) = nI 0 from rfl, if_neg (by rw [eq_nI (by omega) (by omega)]; omega), bnd_x, nI_1]
  · show Si_leastTurn_L2 σ (nI n) = _
    unfold Si_leastTurn_L2
    by_cases e : n = S
    · rw [g.1, if_pos (by rw [le_nI (by omega) (by omega)]; omega), e]
    · rw [g.1, if_neg (by rw [le_nI (by omega) (by omega)]; omega), leftBy_n (by omega) (by omega) (by omega), bd_s, hd, if_pos (show nI 0 = 0 from rfl), again_1 g hS hnS (fun v hv => ?_), bd_s, if_neg (by decide)]
      have := hR v
      rw [Nat.mod_eq_of_lt (show v + n < S from hv), Nat.mod_eq_of_lt (show v < S by omega)] at this
      exact this.symm
theorem likeBy_n {S n : Nat} {f : Nat → Nat} (hS : S ≤ 5040) (hS1 : 1 ≤ S) (hn : n ≤ S) (v1 : σ.1 92 23 = nI S) (v2 : ∀ y, y < S → σ.1 101 y = nI (f y)) (hf : ∀ y, f y < 4096) (t : Nat) (ht : t ≤ S) (h1 : ∀ x, x < t → decide (f x = 0) = decide (f ((x + n) % S) = 0)) (h2 : t < S → ¬ decide (f t = 0) = decide (f ((t + n) % S) = 0)) : Mo_isLikeBy σ (nI n) = some (if t < S then 0 else 1) := by
  unfold Mo_isLikeBy
  have hz : ∀ y, y < S → ((σ.1 101 y = 0) ↔ f y = 0) := fun y hy => by
    have := hf y
    rw [v2 y hy, show (0 : Int32) = nI 0 from rfl, eq_nI (by omega) (by omega)]
  have hm : ∀ x, (x + n) % S < S := fun x => Nat.mod_lt _ (by omega)
  refine iter_for (body := fun s : Int32 => Mo_isLikeBy_L2 (nI n) σ s) (fun v => nI v) (lo := 0) (hi := t) (n := FUEL) (Nat.zero_le _) (fuel (by omega)) ?_ ?_
  · intro x _ hx
    show Mo_isLikeBy_L2 (nI n) σ (nI x) = some (.inl (nI (x + 1)))
    have hmx := hm x
    have e := h1 x hx
    unfold Mo_isLikeBy_L2 Mo_isLikeBy_J24_2
    rw [v1, if_neg (by rw [le_nI (by omega) (by omega)]; omega), ix_nI (by omega) (by omega), chk_true, tn_nI (by omega), nz_nI (by omega) (by omega), chk_true, chk_true, nI_add, rem_nI (by omega) (by omega) (by omega), ix_nI (n := 5040) (by omega) (by omega), chk_true, chk_true, tn_nI (by omega)]
    by_cases z : f x = 0
    · have z2 : f ((x + n) % S) = 0 := by rw [decide_eq_true z] at e; exact of_decide_eq_true e.symm
      rw [if_pos ((hz x (by omega)).mpr z), if_pos ((hz _ hmx).mpr z2), if_pos rfl, bnd_x, nI_1]
    · have z2 : ¬ f ((x + n) % S) = 0 := by rw [decide_eq_false z] at e; exact of_decide_eq_false e.symm
      rw [if_neg (fun q => z ((hz x (by omega)).mp q)), if_neg (fun q => z2 ((hz _ hmx).mp q)), if_pos rfl, bnd_x, nI_1]
  · show Mo_isLikeBy_L2 (nI n) σ (nI t) = _
    unfold Mo_isLikeBy_L2 Mo_isLikeBy_J24_2
    by_cases q : t < S
    · have hmx := hm t
      have e := h2 q
      rw [v1, if_neg (by rw [le_nI (by omega) (by omega)]; omega), ix_nI (by omega) (by omega), chk_true, tn_nI (by omega), nz_nI (by omega) (by omega), chk_true, chk_true, nI_add, rem_nI (by omega) (by omega) (by omega), ix_nI (n := 5040) (by omega) (by omega), chk_true, chk_true, tn_nI (by omega), if_pos q]
      by_cases z : f t = 0
      · have z2 : ¬ f ((t + n) % S) = 0 := fun y => e (by rw [decide_eq_true z, decide_eq_true y])
        rw [if_pos ((hz t q).mpr z), if_neg (fun y => z2 ((hz _ hmx).mp y)), if_neg (by decide)]
      · have z2 : f ((t + n) % S) = 0 := Classical.byContradiction (fun y => e (by rw [decide_eq_false z, decide_eq_false y]))
        rw [if_neg (fun y => z ((hz t q).mp y)), if_pos ((hz _ hmx).mpr z2), if_neg (by decide)]
    · rw [v1, if_pos (by rw [le_nI (by omega) (by omega)]; omega), if_neg q]
end TRN
theorem call_turnsBy {σ : St} (I : Inv σ) : Call RC_turnsBy Mo_turnsBy σ := by
  obtain ⟨c, od, on, rs, md, nm, hc, hm, w⟩ := I.2.2.2.2.1
  have hc12 := w.1
  by_cases h0 : spn md on c = 0
  · refine call_w (r := -1) I ?_ (fun σ1 F => ?_)
    · unfold RC_turnsBy
      rw [sieved_0 hc w h0, bd2_s, if_pos rfl, RC_refuse_n, bd2_s]
    · unfold Mo_turnsBy
      rw [laysNow_0 (hm.w2 F) w h0, bd2_s, if_pos rfl, Mo_refuse_n, bd2_s]
  obtain ⟨p1, p2⟩ := spn_pos h0
  obtain ⟨τ, a1, a2, a3, a4⟩ := sieved_n hc w h0
  obtain ⟨S, hS⟩ : ∃ S, S = spn md on c := ⟨_, rfl⟩
  rw [← hS] at p1 p2 a4
  obtain ⟨n, ⟨n1, n2⟩, n3⟩ := pk_least (fun n => 1 ≤ n ∧ Rp (fun x => q1 on rs md x c) S n) ⟨S, p1, Rp.S⟩
  have hnS : n ≤ S := Nat.le_of_not_lt (fun q => n3 S q ⟨p1, Rp.S⟩)
  refine call_v I (a2.mono Asv.q) (r := nI n) (v := 0) ?_ (fun σ1 F => ?_)
  · unfold RC_turnsBy
    rw [a1, bd2_s, if_neg (by decide), leastTurn_n a4 p2 p1 n1 hnS n2 n3, bd_s, RC_answer_n, bd2_s]
  · obtain ⟨υ, b1, b2, b3, b4, b5⟩ := laysNow_n (hm.w2 F) w h0
    rw [← hS] at b4 b5
    refine ⟨υ, b2.mono Aly.q, ?_⟩
    have hq : ∀ x y, (q1 on rs md x c = q1 on rs md y c) ↔ decide (hb on rs md x c = 0) = decide (hb on rs md y c = 0) := fun x y => by
      rw [q1_hb, q1_hb]
      cases decide (hb on rs md x c = 0) <;> cases decide (hb on rs md y c = 0) <;> simp
    have lk : ∀ m, 1 ≤ m → m ≤ S → Mo_isLikeBy υ (nI m) = some (if m < n then 0 else 1) ∨ ¬ m ≤ n := by
      intro m hm1 hmS
      by_cases hmn : m ≤ n
      · left
        by_cases e : m = n
        · have := likeBy_n (n := m) p2 p1 hmS b4 b5 (fun y => hb_4 on rs md y hc12) S (Nat.le_refl _) (fun x hx => by
            have := n2 x
            rw [Nat.mod_eq_of_lt hx] at this
            rw [e]
            exact ((hq _ _).mp this).symm) (fun q => by omega)
          rw [this, if_neg (by omega), if_neg (by omega)]
        · have hex : ∃ x, x < S ∧ ¬ decide (hb on rs md x c = 0) = decide (hb on rs md ((x + m) % S) c = 0) := by
            apply Classical.byContradiction
            intro q
            apply n3 m (by omega)
            refine ⟨hm1, Rp.of (fun x hx => ?_) p1⟩
            apply Classical.byContradiction
            intro z
            exact q ⟨x, hx, fun y => z ((hq _ _).mpr y)⟩
          obtain ⟨t, t1, t2, t3⟩ := fb_first hex
          have := likeBy_n (n := m) p2 p1 hmS b4 b5 (fun y => hb_4 on rs md y hc12) t (by omega) (fun x hx => Classical.byContradiction (t3 x hx)) (fun _ => t2)
          rw [this, if_pos t1, if_pos (by omega)]
      · exact Or.inr hmn
    have key : iter (fun s : Int32 => Mo_turnsBy_L16 υ s) FUEL 1 = some (nI n) := by
      refine iter_for (body := fun s : Int32 => Mo_turnsBy_L16 υ s) (fun v => nI v) (lo := 1) (hi := n) (n := FUEL) n1 (fuel (by omega)) ?_ ?_
      · intro m hm1 hmn
        show Mo_turnsBy_L16 υ (nI m) = some (.inl (nI (m + 1)))
        rcases lk m hm1 (by omega) with q | q
        · unfold Mo_turnsBy_L16
          rw [q, if_pos hmn, bd_s, if_pos rfl, bnd_x, nI_1]
        · omega
      · show Mo_turnsBy_L16 υ (nI n) = _
        rcases lk n n1 hnS with q | q
        · unfold Mo_turnsBy_L16
          rw [q, if_neg (by omega), bd_s, if_neg (by decide)]
        · omega
    unfold Mo_turnsBy
    rw [b1, bd2_s, if_neg (by decide), key, bd_s, Mo_gives_n, bd2_s]
