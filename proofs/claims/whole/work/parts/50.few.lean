/-! the fewest that catch as much -/
def Sub (b s : Nat) : Prop := ∀ i, b.testBit i = true → s.testBit i = true
def Es (B : Nat → Prop) (s : Nat) : Prop := ∃ b, B b ∧ Sub b s
def Ds (B : Nat → Prop) (k s : Nat) : Prop := ∃ b, B b ∧ Sub b s ∧ ∀ i, k ≤ i → b.testBit i = s.testBit i
theorem Ds_0 {B : Nat → Prop} {s : Nat} : Ds B 0 s ↔ B s := by
  constructor
  · rintro ⟨b, h1, _, h3⟩
    have : b = s := Nat.eq_of_testBit_eq (fun i => h3 i (Nat.zero_le i))
    rwa [this] at h1
  · intro h
    exact ⟨s, h, fun _ q => q, fun _ _ => rfl⟩
theorem Ds_c {B : Nat → Prop} {c s : Nat} (hB : ∀ b, B b → b < 2 ^ c) (hs : s < 2 ^ c) : Ds B c s ↔ Es B s := by
  have hi : ∀ {x i : Nat}, x < 2 ^ c → c ≤ i → x.testBit i = false := fun hx h => Nat.testBit_lt_two_pow (Nat.lt_of_lt_of_le hx (Nat.pow_le_pow_right (by decide) h))
  constructor
  · rintro ⟨b, h1, h2, _⟩; exact ⟨b, h1, h2⟩
  · rintro ⟨b, h1, h2⟩; exact ⟨b, h1, h2, fun i h => by rw [hi (hB b h1) h, hi hs h]⟩
theorem Ds_off {B : Nat → Prop} {k s : Nat} (h : s.testBit k = false) : Ds B (k + 1) s ↔ Ds B k s := by
  constructor
  · rintro ⟨b, h1, h2, h3⟩
    refine ⟨b, h1, h2, fun i hi => ?_⟩
    by_cases e : i = k
    · subst e
      rw [h]
      cases q : b.testBit i with
      | false => rfl
      | true => have := h2 i q; rw [h] at this; exact this.symm
    · exact h3 i (by omega)
  · rintro ⟨b, h1, h2, h3⟩
    exact ⟨b, h1, h2, fun i hi => h3 i (by omega)⟩
theorem Ds_on {B : Nat → Prop} {k s : Nat} (h : s.testBit k = true) : Ds B (k + 1) s ↔ Ds B k s ∨ Ds B k (s ^^^ 2 ^ k) := by
  constructor
  · rintro ⟨b, h1, h2, h3⟩
    cases q : b.testBit k with
    | true =>
      left
      refine ⟨b, h1, h2, fun i hi => ?_⟩
      by_cases e : i = k
      · rw [e, q, h]
      · exact h3 i (by omega)
    | false =>
      right
      refine ⟨b, h1, fun i hi => ?_, fun i hi => ?_⟩
      · by_cases e : i = k
        · rw [e, q] at hi; exact absurd hi (by decide)
        · rw [xor_bit' e]; exact h2 i hi
      · by_cases e : i = k
        · rw [e, q, xor_bit, h, decide_eq_true rfl]; rfl
        · rw [xor_bit' e]; exact h3 i (by omega)
  · rintro (⟨b, h1, h2, h3⟩ | ⟨b, h1, h2, h3⟩)
    · exact ⟨b, h1, h2, fun i hi => h3 i (by omega)⟩
    · refine ⟨b, h1, fun i hi => ?_, fun i hi => ?_⟩
      · by_cases e : i = k
        · rw [e]; exact h
        · have := h2 i hi; rwa [xor_bit' e] at this
      · rw [h3 i (by omega), xor_bit' (by omega)]
theorem xor_lt {s k : Nat} (h : s.testBit k = true) : s ^^^ 2 ^ k < s := by
  have hbk : (s ^^^ 2 ^ k).testBit k = false := by rw [xor_bit, h, decide_eq_true rfl]; rfl
  have e : (s ^^^ 2 ^ k) ||| 2 ^ k = s := by
    apply Nat.eq_of_testBit_eq
    intro i
    rw [or_bit]
    by_cases q : i = k
    · rw [q, hbk, h, decide_eq_true rfl]; rfl
    · rw [xor_bit' q, decide_eq_false (fun z => q z.symm), Bool.or_false]
  have hle : s ^^^ 2 ^ k ≤ s := by
    have := Nat.left_le_or (n := s ^^^ 2 ^ k) (m := 2 ^ k)
    rwa [e] at this
  apply Nat.lt_of_le_of_ne hle
  intro q
  rw [q, h] at hbk
  exact absurd hbk (by decide)
theorem Es_step {B : Nat → Prop} {s : Nat} (hs : s < 4096) : Es B s ↔ B s ∨ ∃ i, i < 12 ∧ s.testBit i = true ∧ Es B (s ^^^ 2 ^ i) := by
  constructor
  · rintro ⟨b, h1, h2⟩
    by_cases e : b = s
    · rw [e] at h1; exact Or.inl h1
    · right
      have hex : ∃ i, ¬ b.testBit i = s.testBit i := by
        apply Classical.byContradiction
        intro q
        exact e (Nat.eq_of_testBit_eq (fun i => Classical.byContradiction (fun z => q ⟨i, z⟩)))
      obtain ⟨i, hi⟩ := hex
      have si : s.testBit i = true := by
        cases q : s.testBit i with
        | true => rfl
        | false =>
          cases q2 : b.testBit i with
          | true => have := h2 i q2; rw [q] at this; exact this
          | false => exact absurd (by rw [q, q2]) hi
      have bi : b.testBit i = false := by
        cases q2 : b.testBit i with
        | true => exact absurd (by rw [q2, si]) hi
        | false => rfl
      have i12 : i < 12 := by
        apply Nat.lt_of_not_le
        intro z
        rw [Nat.testBit_lt_two_pow (Nat.lt_of_lt_of_le hs (Nat.pow_le_pow_right (by decide) z : 2 ^ 12 ≤ 2 ^ i))] at si
        exact absurd si (by decide)
      refine ⟨i, i12, si, b, h1, fun j hj => ?_⟩
      by_cases e2 : j = i
      · rw [e2, bi] at hj; exact absurd hj (by decide)
      · rw [xor_bit' e2]; exact h2 j hj
  · rintro (h | ⟨i, i1, i2, b, h1, h2⟩)
    · exact ⟨s, h, fun _ q => q⟩
    · refine ⟨b, h1, fun j hj => ?_⟩
      by_cases e : j = i
      · rw [e]; exact i2
      · have := h2 j hj; rwa [xor_bit' e] at this
/-- bit s of the row at 34 -/
def FB (σ : St) (s : Nat) : Bool := lb (σ.2 34 (s / 64)) (s % 64)
theorem FB_keep {σ σ2 : St} {A : Nat → Nat → Prop} (F : Fp A σ σ2) (h : ∀ i, ¬ A 34 i) (s : Nat) : FB σ2 s = FB σ s := by
  unfold FB
  rw [F.l (h _)]
def Af (a i : Nat) : Prop := a = 34
theorem putBit_n {σ : St} {s : Nat} (hs : s < 4096) : ∃ σ', RC_putBit σ 34 64 (nI s) = some σ' ∧ Fp Af σ σ' ∧ ∀ t, t < 4096 → FB σ' t = (FB σ t || decide (t = s)) := by
  refine ⟨wL σ 34 (s / 64) (σ.2 34 (s / 64) ||| ((1 : Int64) <<< ((nI (s % 64)).toInt64 &&& 63))), ?_, Fp.rf.wL rfl, fun t ht => ?_⟩
  · unfold RC_putBit
    rw [show nzI 64 = true from by decide, chk_true, show (64 : Int32) = nI 64 from rfl, div_nI (by omega) (by omega) (by omega), bnd_x, show (Int32.ofNat 64) - 1 = nI 63 from sub_nI (a := 64) (b := 1) (by omega), within_y (by omega) (by omega), bd_s, if_neg (by decide), ix_nI (by omega) (by omega), chk_true, chk_true, chk_true, rem_nI (by omega) (by omega) (by omega), tn_nI (by omega), bnd_x]
  · unfold FB
    by_cases e : t / 64 = s / 64
    · rw [e, wL_s, lb_or, lb_one (by omega) (by omega)]
      congr 1
      exact decide_eq_decide.mpr (by omega)
    · rw [wL_ne (by omega), decide_eq_false (by omega), Bool.or_false]
theorem hasFB {σ : St} {s : Nat} (hs : s < 4096) : RC_hasBit σ 34 64 (nI s) = some (if FB σ s = true then 1 else 0) := hasBit_n (by omega) (by omega) (by omega)
section FEW
variable {σ : St} {a c od on : Nat} {rs md nm : Nat → Nat}
/-- the sets by which numbers are caught -/
def Bs (c on : Nat) (rs md : Nat → Nat) (S : Nat) (b : Nat) : Prop := ¬ b = 0 ∧ ∃ v, v < S ∧ cset c on rs md v = b
theorem cset_lt (c on : Nat) (rs md : Nat → Nat) (v : Nat) : cset c on rs md v < 2 ^ c := bset_lt _ _
theorem cset_on {c on : Nat} {rs md : Nat → Nat} {v : Nat} : Sub (cset c on rs md v) on := fun i h => by
  unfold cset at h
  rw [bset_bit, Bool.and_eq_true, Bool.and_eq_true] at h
  exact h.2.1
theorem Bs_lt {S b : Nat} (h : Bs c on rs md S b) : b < 2 ^ c := by obtain ⟨_, v, _, e⟩ := h; rw [← e]; exact cset_lt ..
theorem Bs_on {S b : Nat} (h : Bs c on rs md S b) : Sub b on := by obtain ⟨_, v, _, e⟩ := h; rw [← e]; exact cset_on
theorem fail1_n {S : Nat} {x : Int32} (h : CV σ a c od on rs md nm) (ha : 34 < a ∨ a + 3 < 31) (w : WF c od on rs md nm) (hs : σ.1 31 3 = nI S) (hS : S ≤ 5040) (h0 : ∀ s, s < 4096 → FB σ s = false) : ∃ σ', iter (fun u : (Int32 × St) => Si_findFailing_L10 a x u.2 u.1) FUEL (0, σ) = some σ' ∧ Fp Af σ σ' ∧ ∀ s, s < 4096 → (FB σ' s = true ↔ Bs c on rs md S s) := by
  have hc := w.1
  refine iter_cnt (body := fun u : (Int32 × St) => Si_findFailing_L10 a x u.2 u.1) (fun v u => u.1 = nI v ∧ Fp Af σ u.2 ∧ ∀ s, s < 4096 → (FB u.2 s = true ↔ Bs c on rs md v s)) (fun e => Fp Af σ e ∧ ∀ s, s < 4096 → (FB e s = true ↔ Bs c on rs md S s)) (lo := 0) (hi := S) (n := FUEL) (Nat.zero_le _) (fuel (by omega)) ?_ ?_ (s := (0, σ)) ⟨rfl, Fp.rf, fun s hs => ?_⟩
  · rintro v ⟨v', u⟩ _ hv ⟨rfl, F, hB⟩
    have hB' : ∀ s, s < 4096 → (FB u s = true ↔ Bs c on rs md v s) := hB
    have F' : Fp Af σ u := F
    have hv' : CV u a c od on rs md nm := h.keep (F'.sm (fun b i z1 z2 z => by unfold Af at z; omega))
    have hs' : u.1 31 3 = nI S := (F'.i (by unfold Af; omega)).trans hs
    have h4 : cset c on rs md v < 4096 := cset_4 hc
    by_cases z : cset c on rs md v = 0
    · refine ⟨(nI (v + 1), u), ?_, rfl, F, fun s hs => ?_⟩
      · show Si_findFailing_L10 a x u (nI v) = _
        unfold Si_findFailing_L10
        rw [hs', if_neg (by rw [le_nI (by omega) (by omega)]; omega), catchers_n hv' w (by omega), bd_s, if_pos (by rw [z]; rfl), bnd_x, nI_1]
      · show FB u s = true ↔ _
        rw [hB' s hs]
        constructor
        · rintro ⟨b0, v', b1, b2⟩; exact ⟨b0, v', by omega, b2⟩
        · rintro ⟨b0, v', b1, b2⟩
          refine ⟨b0, v', ?_, b2⟩
          apply Nat.lt_of_le_of_ne (by omega)
          intro e
          rw [e, z] at b2
          exact b0 b2.symm
    · obtain ⟨τ, t1, t2, t3⟩ := putBit_n (σ := u) h4
      refine ⟨(nI (v + 1), τ), ?_, rfl, F'.tr t2, fun s hs => ?_⟩
      · show Si_findFailing_L10 a x u (nI v) = _
        unfold Si_findFailing_L10
        rw [hs', if_neg (by rw [le_nI (by omega) (by omega)]; omega), catchers_n hv' w (by omega), bd_s, if_neg (by rw [show (0 : Int32) = nI 0 from rfl, eq_nI (by omega) (by omega)]; exact z), t1, bd_s, bnd_x, nI_1]
      · show FB τ s = true ↔ _
        rw [t3 s hs, Bool.or_eq_true, hB' s hs, decide_eq_true_iff]
        constructor
        · rintro (⟨b0, v', b1, b2⟩ | b)
          · exact ⟨b0, v', by omega, b2⟩
          · exact ⟨by rw [b]; exact z, v, by omega, b.symm⟩
        · rintro ⟨b0, v', b1, b2⟩
          by_cases e : v' = v
          · rw [e] at b2; exact Or.inr b2.symm
          · exact Or.inl ⟨b0, v', by omega, b2⟩
  · rintro ⟨v', u⟩ ⟨rfl, F, hB⟩
    have F' : Fp Af σ u := F
    refine ⟨u, ?_, F, hB⟩
    show Si_findFailing_L10 a x u (nI S) = _
    unfold Si_findFailing_L10
    rw [(F'.i (by unfold Af; omega)).trans hs, if_pos (by rw [le_nI (by omega) (by omega)]; omega)]
  · show FB σ s = true ↔ _
    rw [h0 s hs]
    constructor
    · intro q; exact absurd q (by decide)
    · rintro ⟨_, v, q, _⟩; omega
theorem fail2_n {B : Nat → Prop} {k : Nat} (hk : k < c) (hc : c ≤ 12) (h0 : ∀ s, s < 2 ^ c → (FB σ s = true ↔ Ds B k s)) : ∃ σ', iter (fun u : (Int32 × St) => Si_findFailing_L58 a (nI (2 ^ c)) (nI k) u.2 u.1) FUEL (0, σ) = some σ' ∧ Fp Af σ σ' ∧ ∀ s, s < 2 ^ c → (FB σ' s = true ↔ Ds B (k + 1) s) := by
  have hp := p2_12 hc
  refine iter_cnt (body := fun u : (Int32 × St) => Si_findFailing_L58 a (nI (2 ^ c)) (nI k) u.2 u.1) (fun t u => u.1 = nI t ∧ Fp Af σ u.2 ∧ ∀ s, s < 2 ^ c → (FB u.2 s = true ↔ if s < t then Ds B (k + 1) s else Ds B k s)) (fun e => Fp Af σ e ∧ ∀ s, s < 2 ^ c → (FB e s = true ↔ Ds B (k + 1) s)) (lo := 0) (hi := 2 ^ c) (n := FUEL) (Nat.zero_le _) (fuel (by omega)) ?_ ?_ (s := (0, σ)) ⟨rfl, Fp.rf, fun s hs => by rw [if_neg (by omega)]; exact h0 s hs⟩
  · rintro t ⟨t', u⟩ _ ht ⟨rfl, F, hB⟩
    have hB' : ∀ s, s < 2 ^ c → (FB u s = true ↔ if s < t then Ds B (k + 1) s else Ds B k s) := hB
    have F' : Fp Af σ u := F
    by_cases hb : t.testBit k = true
    · have hx := xor_lt hb
      have hxb : (t ^^^ 2 ^ k).testBit k = false := by rw [xor_bit, hb, decide_eq_true rfl]; rfl
      have h1 := hB' (t ^^^ 2 ^ k) (by omega)
      rw [if_pos hx, Ds_off hxb] at h1
      have h2 := hB' t ht
      rw [if_neg (by omega)] at h2
      by_cases q : FB u (t ^^^ 2 ^ k) = true
      · obtain ⟨τ, t1, t2, t3⟩ := putBit_n (σ := u) (s := t) (by omega)
        refine ⟨(nI (t + 1), τ), ?_, rfl, F'.tr t2, fun s hs => ?_⟩
        · show Si_findFailing_L58 a (nI (2 ^ c)) (nI k) u (nI t) = _
          unfold Si_findFailing_L58
          rw [if_neg (by rw [le_nI (by omega) (by omega)]; omega), isIn_b (by omega) (by omega), if_pos hb, bd_s, if_neg (by decide), shl1 (by omega), xor_nI, hasFB (by omega), if_pos q, bd_s, if_neg (by decide), t1, bd_s, bnd_x, nI_1]
        · show FB τ s = true ↔ _
          rw [t3 s (by omega), Bool.or_eq_true, decide_eq_true_iff]
          by_cases e : s = t
          · subst e
            rw [if_pos (by omega), Ds_on hb]
            exact ⟨fun _ => Or.inr (h1.mp q), fun _ => Or.inr rfl⟩
          · rw [hB' s hs]
            by_cases z : s < t
            · rw [if_pos z, if_pos (by omega)]; exact ⟨fun y => y.resolve_right e, Or.inl⟩
            · rw [if_neg z, if_neg (by omega)]; exact ⟨fun y => y.resolve_right e, Or.inl⟩
      · refine ⟨(nI (t + 1), u), ?_, rfl, F, fun s hs => ?_⟩
        · show Si_findFailing_L58 a (nI (2 ^ c)) (nI k) u (nI t) = _
          unfold Si_findFailing_L58
          rw [if_neg (by rw [le_nI (by omega) (by omega)]; omega), isIn_b (by omega) (by omega), if_pos hb, bd_s, if_neg (by decide), shl1 (by omega), xor_nI, hasFB (by omega), if_neg q, bd_s, if_pos rfl, bnd_x, nI_1]
        · show FB u s = true ↔ _
          by_cases e : s = t
          · subst e
            rw [h2, if_pos (by omega), Ds_on hb]
            exact ⟨Or.inl, fun y => y.resolve_right (fun z => q (h1.mpr z))⟩
          · rw [hB' s hs]
            by_cases z : s < t
            · rw [if_pos z, if_pos (by omega)]
            · rw [if_neg z, if_neg (by omega)]
    · have hb' : t.testBit k = false := by simpa using hb
      refine ⟨(nI (t + 1), u), ?_, rfl, F, fun s hs => ?_⟩
      · show Si_findFailing_L58 a (nI (2 ^ c)) (nI k) u (nI t) = _
        unfold Si_findFailing_L58
        rw [if_neg (by rw [le_nI (by omega) (by omega)]; omega), isIn_b (by omega) (by omega), if_neg hb, bd_s, if_pos rfl, bnd_x, nI_1]
      · show FB u s = true ↔ _
        rw [hB' s hs]
        by_cases e : s = t
        · subst e
          rw [if_neg (by omega), if_pos (by omega), Ds_off hb']
        · by_cases z : s < t
          · rw [if_pos z, if_pos (by omega)]
          · rw [if_neg z, if_neg (by omega)]
  · rintro ⟨t', u⟩ ⟨rfl, F, hB⟩
    refine ⟨u, ?_, F, fun s hs => ?_⟩
    · show Si_findFailing_L58 a (nI (2 ^ c)) (nI k) u (nI (2 ^ c)) = _
      unfold Si_findFailing_L58
      rw [if_pos (by rw [le_nI (by omega) (by omega)]; omega)]
    · have := hB s hs
      rwa [if_pos hs] at this
theorem fail_n {S : Nat} (h : CV σ a c od on rs md nm) (ha : 34 < a ∨ a + 3 < 31) (w : WF c od on rs md nm) (hs : σ.1 31 3 = nI S) (hS : S ≤ 5040) : ∃ σ', Si_findFailing σ a (nI (2 ^ c)) = some σ' ∧ Fp Af σ σ' ∧ ∀ s, s < 2 ^ c → (FB σ' s = true ↔ Es (Bs c on rs md S) s) := by
  have hc := w.1
  have hp := p2_12 hc
  obtain ⟨τ, a1, a2⟩ := fill_n (σ := σ) (a := 34) (n := 64) (v := 0) (by omega)
  have Fτ : Fp Af σ τ := fp_JA_fill_d0a16 Fp.rf (fun _ => rfl) _ a1
  have hv : CV τ a c od on rs md nm := h.keep (Fτ.sm (fun b i z1 z2 z => by unfold Af at z; omega))
  obtain ⟨υ, b1, b2, b3⟩ := fail1_n (x := nI (2 ^ c)) hv ha w ((Fτ.i (by unfold Af; omega)).trans hs) hS (fun s hs => by
    unfold FB
    rw [a2 (s / 64) (by omega), lb_0])
  have hcv : ∀ {u : St}, Fp Af υ u → u.1 a 3 = nI c := fun F => (F.i (by unfold Af; omega)).trans ((b2.i (by unfold Af; omega)).trans hv.1)
  obtain ⟨ω, c1, c2, c3⟩ := iter_cnt (body := fun u : (Int32 × St) => Si_findFailing_L47 a (nI (2 ^ c)) u.2 u.1) (fun k u => u.1 = nI k ∧ Fp Af υ u.2 ∧ ∀ s, s < 2 ^ c → (FB u.2 s = true ↔ Ds (Bs c on rs md S) k s)) (fun e => Fp Af υ e ∧ ∀ s, s < 2 ^ c → (FB e s = true ↔ Ds (Bs c on rs md S) c s)) (lo := 0) (hi := c) (n := FUEL) (Nat.zero_le _) (fuel (by omega)) (by
    rintro k ⟨k', u⟩ _ hk ⟨rfl, F, hB⟩
    have F' : Fp Af υ u := F
    obtain ⟨ω, d1, d2, d3⟩ := fail2_n (a := a) hk hc (fun s hs => hB s hs)
    refine ⟨(nI (k + 1), ω), ?_, rfl, F'.tr d2, d3⟩
    show Si_findFailing_L47 a (nI (2 ^ c)) u (nI k) = _
    unfold Si_findFailing_L47
    rw [hcv F', if_neg (by rw [le_nI (by omega) (by omega)]; omega), d1, bd_s, bnd_x, nI_1]) (by
    rintro ⟨k', u⟩ ⟨rfl, F, hB⟩
    refine ⟨u, ?_, F, hB⟩
    show Si_findFailing_L47 a (nI (2 ^ c)) u (nI c) = _
    unfold Si_findFailing_L47
    rw [hcv F, if_pos (by rw [le_nI (by omega) (by omega)]; omega)]) (s := (0, υ)) ⟨rfl, Fp.rf, fun s hs => by rw [Ds_0]; exact b3 s (by omega)⟩
  refine ⟨ω, ?_, (Fτ.tr b2).tr c2, fun s hs => ?_⟩
  · unfold Si_findFailing
    rw [a1, bd_s, b1, bd_s, c1, bd_s]
  · rw [c3 s hs, Ds_c (fun b hb => Bs_lt hb) hs]
end FEW
