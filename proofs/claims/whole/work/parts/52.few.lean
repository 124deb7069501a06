def bad (B : Nat → Prop) (s : Nat) : Prop := ∃ b, B b ∧ ∀ i, b.testBit i = true → s.testBit i = false
def Gd (B : Nat → Prop) (on s : Nat) : Prop := Sub s on ∧ ¬ bad B s
def Qfw (B : Nat → Prop) (on R : Nat) : Prop := Gd B on R ∧ ∀ s, Gd B on s → ct12 R < ct12 s ∨ (ct12 R = ct12 s ∧ R ≤ s)
theorem Qfw.one {B : Nat → Prop} {on R T : Nat} (h : Qfw B on R) (k : Qfw B on T) : R = T := by
  have h1 := h.2 T k.1
  have h2 := k.2 R h.1
  omega
theorem Sub.le {s on : Nat} (h : Sub s on) : s ≤ on := Nat.le_of_testBit (fun i hi => h i hi)
theorem Gd.le {B : Nat → Prop} {on s : Nat} (h : Gd B on s) : s ≤ on := h.1.le
theorem ct_sub_eq {p q : Nat → Bool} : ∀ {n : Nat}, (∀ k, k < n → p k = true → q k = true) → fb_ct p n = fb_ct q n → ∀ k, k < n → p k = q k
  | 0, _, _, k, hk => by omega
  | n + 1, h, e, k, hk => by
    have hle := fb_ct_sub (p := p) (q := q) (n := n) (fun k hk => h k (by omega))
    rw [fb_ct_succ, fb_ct_succ] at e
    have hn := h n (by omega)
    by_cases hp : p n = true
    · rw [if_pos hp, if_pos (hn hp)] at e
      by_cases z : k = n
      · rw [z, hp, hn hp]
      · exact ct_sub_eq (n := n) (fun k hk => h k (by omega)) (by omega) k (by omega)
    · rw [if_neg hp] at e
      by_cases hq : q n = true
      · rw [if_pos hq] at e; omega
      · by_cases z : k = n
        · have h1 : p n = false := by simpa using hp
          have h2 : q n = false := by simpa using hq
          rw [z, h1, h2]
        · rw [if_neg hq] at e
          exact ct_sub_eq (n := n) (fun k hk => h k (by omega)) (by omega) k (by omega)
theorem sub_ct {s on : Nat} (h : Sub s on) (ho : on < 4096) (e : ct12 s = ct12 on) : s = on := by
  apply Nat.eq_of_testBit_eq
  intro i
  by_cases hi : i < 12
  · exact ct_sub_eq (n := 12) (fun k _ => h k) e i hi
  · have hs := h.le
    rw [Nat.testBit_lt_two_pow (Nat.lt_of_lt_of_le (show s < 2 ^ 12 by omega) (Nat.pow_le_pow_right (by decide) (by omega) : 2 ^ 12 ≤ 2 ^ i)), Nat.testBit_lt_two_pow (Nat.lt_of_lt_of_le (show on < 2 ^ 12 from ho) (Nat.pow_le_pow_right (by decide) (by omega) : 2 ^ 12 ≤ 2 ^ i))]
theorem Gd_on {B : Nat → Prop} {on : Nat} (h0 : ∀ b, B b → ¬ b = 0) (hB : ∀ b, B b → Sub b on) : Gd B on on := by
  refine ⟨fun _ q => q, ?_⟩
  rintro ⟨b, b1, b2⟩
  apply h0 b b1
  apply Nat.eq_of_testBit_eq
  intro i
  rw [Nat.zero_testBit]
  cases q : b.testBit i with
  | false => rfl
  | true => have := hB b b1 i q; rw [b2 i q] at this; exact this.symm
theorem compl_c {B : Nat → Prop} {c s : Nat} (hB : ∀ b, B b → b < 2 ^ c) (hs : s < 2 ^ c) : Es B (2 ^ c - 1 - s) ↔ bad B s := by
  have hb : ∀ i, (2 ^ c - 1 - s).testBit i = (decide (i < c) && !s.testBit i) := fun i => by
    rw [show 2 ^ c - 1 - s = 2 ^ c - (s + 1) by omega, Nat.testBit_two_pow_sub_succ hs]
  constructor
  · rintro ⟨b, b1, b2⟩
    refine ⟨b, b1, fun i hi => ?_⟩
    have := b2 i hi
    rw [hb, Bool.and_eq_true] at this
    simpa using this.2
  · rintro ⟨b, b1, b2⟩
    refine ⟨b, b1, fun i hi => ?_⟩
    rw [hb, b2 i hi]
    have : i < c := by
      apply Nat.lt_of_not_le
      intro z
      rw [Nat.testBit_lt_two_pow (Nat.lt_of_lt_of_le (hB b b1) (Nat.pow_le_pow_right (by decide) z))] at hi
      exact absurd hi (by decide)
    rw [decide_eq_true this]
    rfl
theorem compl_m {B : Nat → Prop} {on s : Nat} (hB : ∀ b, B b → Sub b on) (ho : on < 4096) : Es B (on &&& (s ^^^ 4294967295)) ↔ bad B s := by
  have hb : ∀ i, (on &&& (s ^^^ 4294967295)).testBit i = (on.testBit i && !s.testBit i) := fun i => by
    rw [Nat.testBit_and, Nat.testBit_xor, show (4294967295 : Nat) = 2 ^ 32 - 1 from rfl, tb_ones]
    by_cases q : i < 32
    · rw [decide_eq_true q]; cases s.testBit i <;> rfl
    · rw [Nat.testBit_lt_two_pow (Nat.lt_of_lt_of_le (show on < 2 ^ 12 from ho) (Nat.pow_le_pow_right (by decide) (by omega) : 2 ^ 12 ≤ 2 ^ i)), Bool.false_and, Bool.false_and]
  constructor
  · rintro ⟨b, b1, b2⟩
    refine ⟨b, b1, fun i hi => ?_⟩
    have := b2 i hi
    rw [hb, Bool.and_eq_true] at this
    simpa using this.2
  · rintro ⟨b, b1, b2⟩
    refine ⟨b, b1, fun i hi => ?_⟩
    rw [hb, b2 i hi, hB b b1 i hi]
    rfl
theorem allOn {s on : Nat} (hs : s < 4096) : (nI s &&& (nI on ^^^ (-1)) = 0) ↔ Sub s on := by
  rw [m1_n, xor_nI, and_nI]
  have hle : s &&& (on ^^^ 4294967295) ≤ s := Nat.and_le_left
  rw [show (0 : Int32) = nI 0 from rfl, eq_nI (by omega) (by omega)]
  have hb : ∀ i, i < 12 → (s &&& (on ^^^ 4294967295)).testBit i = (s.testBit i && !on.testBit i) := fun i hi => by
    rw [Nat.testBit_and, Nat.testBit_xor, show (4294967295 : Nat) = 2 ^ 32 - 1 from rfl, tb_ones, decide_eq_true (show i < 32 by omega)]
    cases on.testBit i <;> rfl
  have hhi : ∀ i, 12 ≤ i → s.testBit i = false := fun i hi => Nat.testBit_lt_two_pow (Nat.lt_of_lt_of_le (show s < 2 ^ 12 from hs) (Nat.pow_le_pow_right (by decide) hi : 2 ^ 12 ≤ 2 ^ i))
  constructor
  · intro e i hi
    have h12 : i < 12 := Nat.lt_of_not_le (fun z => by rw [hhi i z] at hi; exact absurd hi (by decide))
    have := hb i h12
    rw [e, Nat.zero_testBit, hi] at this
    simpa using this.symm
  · intro h
    apply Nat.eq_of_testBit_eq
    intro i
    rw [Nat.zero_testBit]
    by_cases h12 : i < 12
    · rw [hb i h12]
      cases q : s.testBit i with
      | false => rfl
      | true => rw [h i q]; rfl
    · rw [Nat.testBit_and, hhi i (by omega), Bool.false_and]
section LST
variable {σ : St} {a c od on : Nat} {rs md nm : Nat → Nat}
theorem leastSet_n {S : Nat} (h : CV σ a c od on rs md nm) (ha : 34 < a ∨ a + 3 < 31) (w : WF c od on rs md nm) (hs : σ.1 31 3 = nI S) (hS : S ≤ 5040) : ∃ R σ', Si_leastSet σ a = some (nI R, σ') ∧ Fp Af σ σ' ∧ R < 4096 ∧ Qfw (Bs c on rs md S) on R := by
  have hc := w.1
  have ho := w.on4
  have hp := p2_12 hc
  have hp1 : 1 ≤ 2 ^ c := Nat.one_le_two_pow
  obtain ⟨τ, a1, a2, a3⟩ := fail_n h ha w hs hS
  have hv : CV τ a c od on rs md nm := h.keep (a2.sm (fun b i z1 z2 z => by unfold Af at z; omega))
  obtain ⟨R, b1, b2, b3⟩ := iter_cnt (body := fun u : (Int32 × Int32) => Si_leastSet_L21 a (nI (2 ^ c)) τ u.1 u.2) (fun t u => ∃ R, u.1 = nI R ∧ u.2 = nI t ∧ Gd (Bs c on rs md S) on R ∧ (R < t ∨ R = on) ∧ ∀ s, s < t → Gd (Bs c on rs md S) on s → ct12 R < ct12 s ∨ (ct12 R = ct12 s ∧ R ≤ s)) (fun e => ∃ R, e = nI R ∧ Qfw (Bs c on rs md S) on R) (lo := 0) (hi := 2 ^ c) (n := FUEL) (Nat.zero_le _) (fuel (by omega)) (by
    rintro t ⟨r', t'⟩ _ ht ⟨R, rfl, rfl, g1, g2, g3⟩
    have hR := g1.le
    have r1 := ct12_le R
    have r2 := ct12_le t
    have nxt : ∀ {R' : Nat}, (∀ s, s < t → Gd (Bs c on rs md S) on s → ct12 R' < ct12 s ∨ (ct12 R' = ct12 s ∧ R' ≤ s)) → (Gd (Bs c on rs md S) on t → ct12 R' < ct12 t ∨ (ct12 R' = ct12 t ∧ R' ≤ t)) → ∀ s, s < t + 1 → Gd (Bs c on rs md S) on s → ct12 R' < ct12 s ∨ (ct12 R' = ct12 s ∧ R' ≤ s) := fun z1 z2 s hs hg => by
      by_cases e : s = t
      · rw [e] at hg ⊢; exact z2 hg
      · exact z1 s (by omega) hg
    by_cases hon : Sub t on
    · by_cases hf : FB τ (2 ^ c - 1 - t) = true
      · have hb : bad (Bs c on rs md S) t := (compl_c (fun b hb => Bs_lt hb) ht).mp ((a3 _ (by omega)).mp hf)
        refine ⟨(nI R, nI (t + 1)), ?_, R, rfl, rfl, g1, by omega, nxt g3 (fun hg => absurd hb hg.2)⟩
        show Si_leastSet_L21 a (nI (2 ^ c)) τ (nI R) (nI t) = _
        unfold Si_leastSet_L21 Si_leastSet_J44_21
        rw [if_neg (by rw [le_nI (by omega) (by omega)]; omega), hv.2.1, if_pos ((allOn (by omega)).mpr hon), if_neg (by decide), show nI (2 ^ c) - 1 = nI (2 ^ c - 1) from sub_nI (a := 2 ^ c) (b := 1) hp1, sub_nI (by omega), hasFB (by omega), if_pos hf, bd_s, if_neg (by decide), bnd_x, nI_1]
      · have hb : ¬ bad (Bs c on rs md S) t := fun z => hf ((a3 _ (by omega)).mpr ((compl_c (fun b hb => Bs_lt hb) ht).mpr z))
        by_cases hct : ct12 R ≤ ct12 t
        · refine ⟨(nI R, nI (t + 1)), ?_, R, rfl, rfl, g1, by omega, nxt g3 (fun hg => ?_)⟩
          · show Si_leastSet_L21 a (nI (2 ^ c)) τ (nI R) (nI t) = _
            unfold Si_leastSet_L21 Si_leastSet_J44_21
            rw [if_neg (by rw [le_nI (by omega) (by omega)]; omega), hv.2.1, if_pos ((allOn (by omega)).mpr hon), if_neg (by decide), show nI (2 ^ c) - 1 = nI (2 ^ c - 1) from sub_nI (a := 2 ^ c) (b := 1) hp1, sub_nI (by omega), hasFB (by omega), if_neg hf, bd_s, if_pos rfl, bcI_n t (by omega), bd_s, bcI_n R (by omega), bd_s, if_pos (by rw [le_nI (by omega) (by omega)]; omega), bnd_x, nI_1]
          · rcases Nat.lt_or_ge (ct12 R) (ct12 t) with z | z
            · exact Or.inl z
            · right
              refine ⟨by omega, ?_⟩
              rcases g2 with y | y
              · omega
              · rw [y] at hct z ⊢
                have := sub_ct hon ho (by omega)
                omega
        · refine ⟨(nI t, nI (t + 1)), ?_, t, rfl, rfl, ⟨hon, hb⟩, by omega, nxt (fun s hs hg => ?_) (fun _ => Or.inr ⟨rfl, Nat.le_refl _⟩)⟩
          · show Si_leastSet_L21 a (nI (2 ^ c)) τ (nI R) (nI t) = _
            unfold Si_leastSet_L21 Si_leastSet_J44_21
            rw [if_neg (by rw [le_nI (by omega) (by omega)]; omega), hv.2.1, if_pos ((allOn (by omega)).mpr hon), if_neg (by decide), show nI (2 ^ c) - 1 = nI (2 ^ c - 1) from sub_nI (a := 2 ^ c) (b := 1) hp1, sub_nI (by omega), hasFB (by omega), if_neg hf, bd_s, if_pos rfl, bcI_n t (by omega), bd_s, bcI_n R (by omega), bd_s, if_neg (by rw [le_nI (by omega) (by omega)]; omega), bnd_x, nI_1]
          · have := g3 s hs hg
            omega
    · refine ⟨(nI R, nI (t + 1)), ?_, R, rfl, rfl, g1, by omega, nxt g3 (fun hg => absurd hg.1 hon)⟩
      show Si_leastSet_L21 a (nI (2 ^ c)) τ (nI R) (nI t) = _
      unfold Si_leastSet_L21 Si_leastSet_J44_21
      rw [if_neg (by rw [le_nI (by omega) (by omega)]; omega), hv.2.1, if_neg (fun z => hon ((allOn (by omega)).mp z)), if_pos rfl, bnd_x, nI_1]) (by
    rintro ⟨r', t'⟩ ⟨R, rfl, rfl, g1, g2, g3⟩
    refine ⟨nI R, ?_, R, rfl, g1, fun s hg => g3 s (Nat.lt_of_le_of_lt hg.le w.2.2.1) hg⟩
    show Si_leastSet_L21 a (nI (2 ^ c)) τ (nI R) (nI (2 ^ c)) = _
    unfold Si_leastSet_L21
    rw [if_pos (by rw [le_nI (by omega) (by omega)]; omega)]) (s := (nI on, 0)) ⟨on, rfl, rfl, Gd_on (fun b hb => hb.1) (fun b hb => Bs_on hb), Or.inr rfl, fun s hs => by omega⟩
  refine ⟨b2, τ, ?_, a2, Nat.lt_of_le_of_lt b3.2.1.le ho, b3.2⟩
  unfold Si_leastSet
  rw [h.1, shl1 (by omega), bnd_x, a1, bd_s, hv.2.1, bnd_x, b1, bd_s, b3.1]
theorem fewest_m {S : Nat} (h : MV σ 0 0 c od on rs md nm) (w : WF c od on rs md nm) (hS : S ≤ 5040) (v1 : σ.1 92 23 = nI S) (v2 : ∀ y, y < S → σ.1 101 y = nI (hb on rs md y c)) : ∃ R σ', Mo_fewestNow σ = some (nI R, σ') ∧ Fp Aw σ σ' ∧ R < 4096 ∧ Qfw (Bs c on rs md S) on R := by
  have hc := w.1
  have ho := w.on4
  obtain ⟨τ, a1, a2, a3⟩ := fewM_0 (σ := σ) (x := nI on)
  obtain ⟨υ, b1, b2, W, b3, b4⟩ := fewM_1 (σ := τ) (x := nI on) hc hS ((a2.i (by unfold Aw; omega)).trans v1) (fun y hy => (a2.i (by unfold Aw; omega)).trans (v2 y hy)) a3
  obtain ⟨ω, c1, c2, W2, c3, c4⟩ := fewM_3 (σ := υ) (x := nI on) (B := Bs c on rs md S) (fun z => z.1 rfl) b3 b4
  have dn0 : ∀ j, j ≤ on → (if j ≤ on then nI (on - j) else (-1 : Int32)) + (-1) = if j + 1 ≤ on then nI (on - (j + 1)) else -1 := fun j hj => by
    rw [if_pos hj]
    by_cases z : j + 1 ≤ on
    · rw [if_pos z]
      have := pk_m1 (on - (j + 1))
      rwa [show on - (j + 1) + 1 = on - j by omega] at this
    · rw [if_neg z, show on - j = 0 by omega]; rfl
  obtain ⟨R, d1, d2, d3⟩ := iter_cnt (body := fun u : (Int32 × Int32) => Mo_fewestNow_L136 (nI on) ω u.1 u.2) (fun j u => ∃ R, u.1 = nI R ∧ u.2 = (if j ≤ on then nI (on - j) else -1) ∧ Gd (Bs c on rs md S) on R ∧ ∀ s, on < s + j → Gd (Bs c on rs md S) on s → ct12 R < ct12 s ∨ (ct12 R = ct12 s ∧ R ≤ s)) (fun e => ∃ R, e = nI R ∧ Qfw (Bs c on rs md S) on R) (lo := 0) (hi := on + 1) (n := FUEL) (Nat.zero_le _) (fuel (by omega)) (by
    rintro j ⟨r', t'⟩ _ hj ⟨R, rfl, hj2, g1, g3⟩
    have hjo : j ≤ on := by omega
    have hR := g1.le
    obtain ⟨t, ht⟩ : ∃ t, t = on - j := ⟨_, rfl⟩
    have hj2' : t' = nI t := by rw [ht]; exact hj2.trans (if_pos hjo)
    subst hj2'
    have r1 := ct12_le R
    have r2 := ct12_le t
    have st := dn0 j hjo
    rw [if_pos hjo, ← ht] at st
    have nxt : ∀ {R' : Nat}, (∀ s, on < s + j → Gd (Bs c on rs md S) on s → ct12 R' < ct12 s ∨ (ct12 R' = ct12 s ∧ R' ≤ s)) → (Gd (Bs c on rs md S) on t → ct12 R' < ct12 t ∨ (ct12 R' = ct12 t ∧ R' ≤ t)) → ∀ s, on < s + (j + 1) → Gd (Bs c on rs md S) on s → ct12 R' < ct12 s ∨ (ct12 R' = ct12 s ∧ R' ≤ s) := fun z1 z2 s hs hg => by
      by_cases e : s = t
      · rw [e] at hg ⊢; exact z2 hg
      · exact z1 s (by omega) hg
    have hle : on &&& (t ^^^ 4294967295) ≤ on := Nat.and_le_left
    have hE := c4 (on &&& (t ^^^ 4294967295)) (by omega)
    rw [compl_m (fun b hb => Bs_on hb) ho] at hE
    have hcell := c3 (on &&& (t ^^^ 4294967295)) (by omega)
    by_cases hon : Sub t on
    · by_cases hct : ct12 R < ct12 t
      · refine ⟨(nI R, if j + 1 ≤ on then nI (on - (j + 1)) else -1), ?_, R, rfl, rfl, g1, nxt g3 (fun _ => Or.inl hct)⟩
        show Mo_fewestNow_L136 (nI on) ω (nI R) (nI t) = _
        unfold Mo_fewestNow_L136
        rw [if_neg (nI_pos (by omega)), if_pos ((allOn (by omega)).mpr hon), bitsM_n (by omega), bd_s, bitsM_n (by omega), bd_s, if_pos (by rw [lt_nI (by omega) (by omega)]; omega), bnd_x, st]
      · by_cases hw : W2 (on &&& (t ^^^ 4294967295)) = true
        · refine ⟨(nI R, if j + 1 ≤ on then nI (on - (j + 1)) else -1), ?_, R, rfl, rfl, g1, nxt g3 (fun hg => absurd (hE.mp hw) hg.2)⟩
          show Mo_fewestNow_L136 (nI on) ω (nI R) (nI t) = _
          unfold Mo_fewestNow_L136
          rw [if_neg (nI_pos (by omega)), if_pos ((allOn (by omega)).mpr hon), bitsM_n (by omega), bd_s, bitsM_n (by omega), bd_s, if_neg (by rw [lt_nI (by omega) (by omega)]; omega), m1_n, xor_nI, and_nI, ix_nI (by omega) (by omega), chk_true, tn_nI (by omega), hcell, if_pos hw, if_neg (by decide), bnd_x, ← m1_n, st]
        · refine ⟨(nI t, if j + 1 ≤ on then nI (on - (j + 1)) else -1), ?_, t, rfl, rfl, ⟨hon, fun z => hw (hE.mpr z)⟩, nxt (fun s hs hg => ?_) (fun _ => Or.inr ⟨rfl, Nat.le_refl _⟩)⟩
          · show Mo_fewestNow_L136 (nI on) ω (nI R) (nI t) = _
            unfold Mo_fewestNow_L136
            rw [if_neg (nI_pos (by omega)), if_pos ((allOn (by omega)).mpr hon), bitsM_n (by omega), bd_s, bitsM_n (by omega), bd_s, if_neg (by rw [lt_nI (by omega) (by omega)]; omega), m1_n, xor_nI, and_nI, ix_nI (by omega) (by omega), chk_true, tn_nI (by omega), hcell, if_neg hw, if_pos rfl, bnd_x, ← m1_n, st]
          · have := g3 s hs hg
            omega
    · refine ⟨(nI R, if j + 1 ≤ on then nI (on - (j + 1)) else -1), ?_, R, rfl, rfl, g1, nxt g3 (fun hg => absurd hg.1 hon)⟩
      show Mo_fewestNow_L136 (nI on) ω (nI R) (nI t) = _
      unfold Mo_fewestNow_L136
      rw [if_neg (nI_pos (by omega)), if_neg (fun z => hon ((allOn (by omega)).mp z)), bnd_x, st]) (by
    rintro ⟨r', t'⟩ ⟨R, rfl, hj2, g1, g3⟩
    have hj2' : t' = -1 := hj2.trans (if_neg (by omega))
    subst hj2'
    refine ⟨nI R, ?_, R, rfl, g1, fun s hg => g3 s (by omega) hg⟩
    show Mo_fewestNow_L136 (nI on) ω (nI R) (-1) = _
    unfold Mo_fewestNow_L136
    rw [if_pos (by decide)]) (s := (nI on, nI on)) ⟨on, rfl, (if_pos (Nat.zero_le _)).symm, Gd_on (fun b hb => hb.1) (fun b hb => Bs_on hb), fun s hs hg => by have := hg.le; omega⟩
  refine ⟨d2, ω, ?_, (a2.tr b2).tr c2, Nat.lt_of_le_of_lt d3.2.1.le ho, d3.2⟩
  unfold Mo_fewestNow
  rw [onSet_n h w, bd_s, a1, bd_s, b1, bd_s, c1, bd_s, d1, bd_s, d3.1]
end LST
theorem call_fewestSet {σ : St} (I : Inv σ) : Call RC_fewestSet Mo_fewestSet σ := by
  obtain ⟨c, od, on, rs, md, nm, hc, hm, w⟩ := I.2.2.2.2.1
  by_cases h0 : spn md on c = 0
  · refine call_w (r := -1) I ?_ (fun σ1 F => ?_)
    · unfold RC_fewestSet
      rw [sieved_0 hc w h0, bd2_s, if_pos rfl, RC_refuse_n, bd2_s]
    · unfold Mo_fewestSet
      rw [laysNow_0 (hm.w2 F) w h0, bd2_s, if_pos rfl, Mo_refuse_n, bd2_s]
  obtain ⟨p1, p2⟩ := spn_pos h0
  obtain ⟨τ, a1, a2, a3, a4⟩ := sieved_n hc w h0
  obtain ⟨R, ρ, r1, r2, r3, r4⟩ := leastSet_n a3 (by omega) w a4.1 p2
  refine call_v (τ := ρ) I ((a2.mono Asv.q).tr (r2.mono (fun a i q => by unfold Af at q; unfold Ac0; omega))) (r := nI R) (v := 0) ?_ (fun σ1 F => ?_)
  · unfold RC_fewestSet
    rw [a1, bd2_s, if_neg (by decide), r1, bd2_s, RC_answer_n, bd2_s]
  · obtain ⟨υ, b1, b2, b3, b4, b5⟩ := laysNow_n (hm.w2 F) w h0
    obtain ⟨R', ρ', q1, q2, q3, q4⟩ := fewest_m b3 w p2 b4 b5
    refine ⟨ρ', (b2.mono Aly.q).tr (q2.mono (fun a i q => by unfold Aw at q; unfold Am0; omega)), ?_⟩
    unfold Mo_fewestSet
    rw [b1, bd2_s, if_neg (by decide), q1, bd2_s, Mo_gives_n, bd2_s, q4.one r4]
theorem call_fewest {σ : St} (I : Inv σ) : Call RC_fewest Mo_fewest σ := by
  obtain ⟨c, od, on, rs, md, nm, hc, hm, w⟩ := I.2.2.2.2.1
  by_cases h0 : spn md on c = 0
  · refine call_w (r := -1) I ?_ (fun σ1 F => ?_)
    · unfold RC_fewest
      rw [sieved_0 hc w h0, bd2_s, if_pos rfl, RC_refuse_n, bd2_s]
    · unfold Mo_fewest
      rw [laysNow_0 (hm.w2 F) w h0, bd2_s, if_pos rfl, Mo_refuse_n, bd2_s]
  obtain ⟨p1, p2⟩ := spn_pos h0
  obtain ⟨τ, a1, a2, a3, a4⟩ := sieved_n hc w h0
  obtain ⟨R, ρ, r1, r2, r3, r4⟩ := leastSet_n a3 (by omega) w a4.1 p2
  refine call_v (τ := ρ) I ((a2.mono Asv.q).tr (r2.mono (fun a i q => by unfold Af at q; unfold Ac0; omega))) (r := nI (ct12 R)) (v := 0) ?_ (fun σ1 F => ?_)
  · unfold RC_fewest
    rw [a1, bd2_s, if_neg (by decide), r1, bd2_s, bcI_n R r3, bd_s, RC_answer_n, bd2_s]
  · obtain ⟨υ, b1, b2, b3, b4, b5⟩ := laysNow_n (hm.w2 F) w h0
    obtain ⟨R', ρ', q1, q2, q3, q4⟩ := fewest_m b3 w p2 b4 b5
    refine ⟨ρ', (b2.mono Aly.q).tr (q2.mono (fun a i q => by unfold Aw at q; unfold Am0; omega)), ?_⟩
    unfold Mo_fewest
    rw [b1, bd2_s, if_neg (by decide), q1, bd2_s, bitsM_n q3, bd_s, Mo_gives_n, bd2_s, q4.one r4]
