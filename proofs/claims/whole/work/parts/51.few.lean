theorem vnb0 : vp_nar .boolean 0 = 0 := by decide
theorem vnb1 : vp_nar .boolean 1 = 1 := by decide
def BW (u : St) (W : Nat → Bool) : Prop := ∀ s, s < 4096 → u.1 102 s = if W s = true then 1 else 0
def Aw (a i : Nat) : Prop := a = 102
section FWM
variable {σ : St} {c od on : Nat} {rs md nm : Nat → Nat}
theorem fewM_0 {x : Int32} : ∃ σ', iter (fun u : (Int32 × St) => Mo_fewestNow_L7 x u.2 u.1) FUEL (0, σ) = some σ' ∧ Fp Aw σ σ' ∧ BW σ' (fun _ => false) := by
  refine iter_cnt (body := fun u : (Int32 × St) => Mo_fewestNow_L7 x u.2 u.1) (fun t u => u.1 = nI t ∧ Fp Aw σ u.2 ∧ ∀ s, s < t → u.2.1 102 s = 0) (fun e => Fp Aw σ e ∧ BW e (fun _ => false)) (lo := 0) (hi := 4096) (n := FUEL) (Nat.zero_le _) (fuel (by omega)) ?_ ?_ (s := (0, σ)) ⟨rfl, Fp.rf, fun s hs => by omega⟩
  · rintro t ⟨t', u⟩ _ ht ⟨rfl, F, hB⟩
    have F' : Fp Aw σ u := F
    refine ⟨(nI (t + 1), wI u 102 t 0), ?_, rfl, F'.wI rfl, fun s hs => ?_⟩
    · show Mo_fewestNow_L7 x u (nI t) = _
      unfold Mo_fewestNow_L7
      rw [show (4096 : Int32) = nI 4096 from rfl, if_neg (by rw [le_nI (by omega) (by omega)]; omega), ix_nI (by omega) (by omega), chk_true, tn_nI (by omega), vnb0, bnd_x, bnd_x, nI_1]
    · by_cases e : s = t
      · rw [e]; exact wI_s
      · exact (wI_ne (by omega)).trans (hB s (by omega))
  · rintro ⟨t', u⟩ ⟨rfl, F, hB⟩
    refine ⟨u, ?_, F, fun s hs => (hB s hs).trans (if_neg (show ¬ false = true by decide)).symm⟩
    show Mo_fewestNow_L7 x u (nI 4096) = _
    unfold Mo_fewestNow_L7
    rw [if_pos (by decide)]
theorem fewM_1 {S : Nat} {x : Int32} (hc : c ≤ 12) (hS : S ≤ 5040) (v1 : σ.1 92 23 = nI S) (v2 : ∀ y, y < S → σ.1 101 y = nI (hb on rs md y c)) (h0 : BW σ (fun _ => false)) : ∃ σ', iter (fun u : (Int32 × St) => Mo_fewestNow_L29 x u.2 u.1) FUEL (0, σ) = some σ' ∧ Fp Aw σ σ' ∧ ∃ W, BW σ' W ∧ ∀ s, s < 4096 → (W s = true ↔ Bs c on rs md S s) := by
  refine iter_cnt (body := fun u : (Int32 × St) => Mo_fewestNow_L29 x u.2 u.1) (fun v u => u.1 = nI v ∧ Fp Aw σ u.2 ∧ ∃ W, BW u.2 W ∧ ∀ s, s < 4096 → (W s = true ↔ Bs c on rs md v s)) (fun e => Fp Aw σ e ∧ ∃ W, BW e W ∧ ∀ s, s < 4096 → (W s = true ↔ Bs c on rs md S s)) (lo := 0) (hi := S) (n := FUEL) (Nat.zero_le _) (fuel (by omega)) ?_ ?_ (s := (0, σ)) ⟨rfl, Fp.rf, fun _ => false, h0, fun s hs => ?_⟩
  · rintro v ⟨v', u⟩ _ hv ⟨rfl, F, W, hW, hB⟩
    have F' : Fp Aw σ u := F
    have u1 : u.1 92 23 = nI S := (F'.i (by unfold Aw; omega)).trans v1
    have u2 : u.1 101 v = nI (hb on rs md v c) := (F'.i (by unfold Aw; omega)).trans (v2 v hv)
    have h4 : hb on rs md v c < 4096 := hb_4 on rs md v hc
    have e : hb on rs md v c = cset c on rs md v := rfl
    by_cases z : hb on rs md v c = 0
    · refine ⟨(nI (v + 1), wI u 102 0 0), ?_, rfl, F'.wI rfl, W, fun s hs => ?_, fun s hs => ?_⟩
      · show Mo_fewestNow_L29 x u (nI v) = _
        unfold Mo_fewestNow_L29
        rw [u1, if_neg (by rw [le_nI (by omega) (by omega)]; omega), ix_nI (by omega) (by omega), chk_true, chk_true, tn_nI (by omega), u2, z, if_pos (show nI 0 = 0 from rfl), ix_nI (by omega) (by omega), chk_true, tn_nI (by omega), vnb0, bnd_x, bnd_x, nI_1]
      · show (wI u 102 0 0).1 102 s = _
        by_cases e0 : s = 0
        · have : W s = false := by
            cases q : W s with
            | false => rfl
            | true => exact absurd e0 ((hB s hs).mp q).1
          rw [e0, wI_s, ← e0, this, if_neg (by decide)]
        · rw [wI_ne (by omega)]; exact hW s hs
      · rw [hB s hs]
        constructor
        · rintro ⟨b0, v', b1, b2⟩; exact ⟨b0, v', by omega, b2⟩
        · rintro ⟨b0, v', b1, b2⟩
          refine ⟨b0, v', ?_, b2⟩
          apply Nat.lt_of_le_of_ne (by omega)
          intro q
          rw [q, ← e, z] at b2
          exact b0 b2.symm
    · refine ⟨(nI (v + 1), wI u 102 (hb on rs md v c) 1), ?_, rfl, F'.wI rfl, fun s => W s || decide (s = hb on rs md v c), fun s hs => ?_, fun s hs => ?_⟩
      · show Mo_fewestNow_L29 x u (nI v) = _
        unfold Mo_fewestNow_L29
        rw [u1, if_neg (by rw [le_nI (by omega) (by omega)]; omega), ix_nI (by omega) (by omega), chk_true, chk_true, tn_nI (by omega), u2, if_neg (by rw [show (0 : Int32) = nI 0 from rfl, eq_nI (by omega) (by omega)]; exact z), ix_nI (by omega) (by omega), chk_true, tn_nI (by omega), vnb1, bnd_x, bnd_x, nI_1]
      · show (wI u 102 (hb on rs md v c) 1).1 102 s = if (W s || decide (s = hb on rs md v c)) = true then 1 else 0
        by_cases e0 : s = hb on rs md v c
        · rw [e0, wI_s, decide_eq_true rfl, Bool.or_true, if_pos rfl]
        · rw [wI_ne (by omega), decide_eq_false e0, Bool.or_false]; exact hW s hs
      · show (W s || decide (s = hb on rs md v c)) = true ↔ _
        rw [Bool.or_eq_true, hB s hs, decide_eq_true_iff]
        constructor
        · rintro (⟨b0, v', b1, b2⟩ | b)
          · exact ⟨b0, v', by omega, b2⟩
          · exact ⟨by rw [b]; exact z, v, by omega, b.symm⟩
        · rintro ⟨b0, v', b1, b2⟩
          by_cases q : v' = v
          · rw [q] at b2; exact Or.inr b2.symm
          · exact Or.inl ⟨b0, v', by omega, b2⟩
  · rintro ⟨v', u⟩ ⟨rfl, F, hB⟩
    have F' : Fp Aw σ u := F
    refine ⟨u, ?_, F, hB⟩
    show Mo_fewestNow_L29 x u (nI S) = _
    unfold Mo_fewestNow_L29
    rw [(F'.i (by unfold Aw; omega)).trans v1, if_pos (by rw [le_nI (by omega) (by omega)]; omega)]
  · constructor
    · intro q; exact absurd q (show ¬ false = true by decide)
    · rintro ⟨_, v, q, _⟩; omega
theorem fewM_2 {B : Nat → Prop} {x : Int32} {t : Nat} (ht : t < 4096) {W : Nat → Bool} (h0 : BW σ W) (hE : ∀ s, s < t → (W s = true ↔ Es B s)) (hB : W t = true ↔ B t) : ∃ σ', iter (fun u : (Int32 × St) => Mo_fewestNow_L79 x (nI t) u.2 u.1) FUEL (0, σ) = some σ' ∧ Fp Aw σ σ' ∧ ∃ b : Bool, BW σ' (fun s => if s = t then b else W s) ∧ (b = true ↔ Es B t) := by
  refine iter_cnt (body := fun u : (Int32 × St) => Mo_fewestNow_L79 x (nI t) u.2 u.1) (fun k u => u.1 = nI k ∧ Fp Aw σ u.2 ∧ ∃ b : Bool, BW u.2 (fun s => if s = t then b else W s) ∧ (b = true ↔ B t ∨ ∃ i, i < k ∧ t.testBit i = true ∧ Es B (t ^^^ 2 ^ i))) (fun e => Fp Aw σ e ∧ ∃ b : Bool, BW e (fun s => if s = t then b else W s) ∧ (b = true ↔ Es B t)) (lo := 0) (hi := 12) (n := FUEL) (Nat.zero_le _) (fuel (by omega)) ?_ ?_ (s := (0, σ)) ⟨rfl, Fp.rf, W t, fun s hs => ?_, ?_⟩
  · rintro k ⟨k', u⟩ _ hk ⟨rfl, F, b, hb, hE2⟩
    have F' : Fp Aw σ u := F
    have hu : u.1 102 t = if b = true then 1 else 0 := by
      have := hb t ht
      rw [show (fun s => if s = t then b else W s) t = b from if_pos rfl] at this
      exact this
    have hp := p2_12 (k := k) (by omega)
    have upd : ∀ b' : Bool, BW (wI u 102 t (if b' = true then 1 else 0)) (fun s => if s = t then b' else W s) := fun b' s hs => by
      by_cases e : s = t
      · show (wI u 102 t (if b' = true then 1 else 0)).1 102 s = if (if s = t then b' else W s) = true then 1 else 0
        rw [if_pos e, e, wI_s]
      · rw [wI_ne (by omega)]
        have := hb s hs
        rw [this]
        show (if (if s = t then b else W s) = true then (1 : Int32) else 0) = if (if s = t then b' else W s) = true then 1 else 0
        rw [if_neg e, if_neg e]
    have wr0 : vp_nar .boolean ((if b = true then (1 : Int32) else 0) ||| 0) = if b = true then 1 else 0 := by cases b <;> decide
    have wr1 : vp_nar .boolean ((if b = true then (1 : Int32) else 0) ||| 1) = 1 := by cases b <;> decide
    by_cases hbit : t.testBit k = true
    · have hx := xor_lt hbit
      have hw := hb (t ^^^ 2 ^ k) (by omega)
      rw [show (fun s => if s = t then b else W s) (t ^^^ 2 ^ k) = W (t ^^^ 2 ^ k) from if_neg (by omega)] at hw
      by_cases q : W (t ^^^ 2 ^ k) = true
      · refine ⟨(nI (k + 1), wI u 102 t 1), ?_, rfl, F'.wI rfl, true, upd true, ?_⟩
        · show Mo_fewestNow_L79 x (nI t) u (nI k) = _
          unfold Mo_fewestNow_L79
          rw [show (12 : Int32) = nI 12 from rfl, if_neg (by rw [le_nI (by omega) (by omega)]; omega), ix_nI (by omega) (by omega), chk_true, isInM_b (by omega) (by omega), if_pos hbit, bd_s, if_neg (by decide), shl1 (by omega), xor_nI, ix_nI (by omega) (by omega), chk_true, tn_nI (by omega), hw, if_pos q, if_neg (by decide), chk_true, tn_nI (by omega), hu, wr1, bnd_x, bnd_x, nI_1]
        · exact ⟨fun _ => Or.inr ⟨k, by omega, hbit, (hE _ hx).mp q⟩, fun _ => rfl⟩
      · refine ⟨(nI (k + 1), wI u 102 t (if b = true then 1 else 0)), ?_, rfl, F'.wI rfl, b, upd b, ?_⟩
        · show Mo_fewestNow_L79 x (nI t) u (nI k) = _
          unfold Mo_fewestNow_L79
          rw [show (12 : Int32) = nI 12 from rfl, if_neg (by rw [le_nI (by omega) (by omega)]; omega), ix_nI (by omega) (by omega), chk_true, isInM_b (by omega) (by omega), if_pos hbit, bd_s, if_neg (by decide), shl1 (by omega), xor_nI, ix_nI (by omega) (by omega), chk_true, tn_nI (by omega), hw, if_neg q, if_pos rfl, chk_true, tn_nI (by omega), hu, wr0, bnd_x, bnd_x, nI_1]
        · rw [hE2]
          constructor
          · rintro (y | ⟨i, i1, i2⟩)
            · exact Or.inl y
            · exact Or.inr ⟨i, by omega, i2⟩
          · rintro (y | ⟨i, i1, i2, i3⟩)
            · exact Or.inl y
            · by_cases e : i = k
              · rw [e] at i3; exact absurd ((hE _ hx).mpr i3) q
              · exact Or.inr ⟨i, by omega, i2, i3⟩
    · refine ⟨(nI (k + 1), wI u 102 t (if b = true then 1 else 0)), ?_, rfl, F'.wI rfl, b, upd b, ?_⟩
      · show Mo_fewestNow_L79 x (nI t) u (nI k) = _
        unfold Mo_fewestNow_L79
        rw [show (12 : Int32) = nI 12 from rfl, if_neg (by rw [le_nI (by omega) (by omega)]; omega), ix_nI (by omega) (by omega), chk_true, isInM_b (by omega) (by omega), if_neg hbit, bd_s, if_pos rfl, chk_true, tn_nI (by omega), hu, wr0, bnd_x, bnd_x, nI_1]
      · rw [hE2]
        constructor
        · rintro (y | ⟨i, i1, i2⟩)
          · exact Or.inl y
          · exact Or.inr ⟨i, by omega, i2⟩
        · rintro (y | ⟨i, i1, i2, i3⟩)
          · exact Or.inl y
          · by_cases e : i = k
            · rw [e] at i2; exact absurd i2 hbit
            · exact Or.inr ⟨i, by omega, i2, i3⟩
  · rintro ⟨k', u⟩ ⟨rfl, F, b, hb, hE2⟩
    refine ⟨u, ?_, F, b, hb, ?_⟩
    · show Mo_fewestNow_L79 x (nI t) u (nI 12) = _
      unfold Mo_fewestNow_L79
      rw [if_pos (by decide)]
    · rw [hE2, Es_step ht]
  · rw [h0 s hs]
    show (if W s = true then (1 : Int32) else 0) = if (if s = t then W t else W s) = true then 1 else 0
    by_cases e : s = t
    · rw [if_pos e, e]
    · rw [if_neg e]
  · rw [hB]
    constructor
    · intro y; exact Or.inl y
    · rintro (y | ⟨i, i1, _⟩)
      · exact y
      · omega
theorem fewM_3 {B : Nat → Prop} {x : Int32} {W : Nat → Bool} (hB0 : ¬ B 0) (h0 : BW σ W) (hB : ∀ s, s < 4096 → (W s = true ↔ B s)) : ∃ σ', iter (fun u : (Int32 × St) => Mo_fewestNow_L70 x u.2 u.1) FUEL (1, σ) = some σ' ∧ Fp Aw σ σ' ∧ ∃ W, BW σ' W ∧ ∀ s, s < 4096 → (W s = true ↔ Es B s) := by
  refine iter_cnt (body := fun u : (Int32 × St) => Mo_fewestNow_L70 x u.2 u.1) (fun t u => u.1 = nI t ∧ Fp Aw σ u.2 ∧ ∃ W, BW u.2 W ∧ ∀ s, s < 4096 → (W s = true ↔ if s < t then Es B s else B s)) (fun e => Fp Aw σ e ∧ ∃ W, BW e W ∧ ∀ s, s < 4096 → (W s = true ↔ Es B s)) (lo := 1) (hi := 4096) (n := FUEL) (by omega) (fuel (by omega)) ?_ ?_ (s := (1, σ)) ⟨rfl, Fp.rf, W, h0, fun s hs => ?_⟩
  · rintro t ⟨t', u⟩ _ ht ⟨rfl, F, W, hW, hE⟩
    have F' : Fp Aw σ u := F
    obtain ⟨ω, d1, d2, b, d3, d4⟩ := fewM_2 (x := x) (B := B) ht (σ := u) hW (fun s hs => by have := hE s (by omega); rwa [if_pos hs] at this) (by have := hE t ht; rwa [if_neg (by omega)] at this)
    refine ⟨(nI (t + 1), ω), ?_, rfl, F'.tr d2, _, d3, fun s hs => ?_⟩
    · show Mo_fewestNow_L70 x u (nI t) = _
      unfold Mo_fewestNow_L70
      rw [show (4096 : Int32) = nI 4096 from rfl, if_neg (by rw [le_nI (by omega) (by omega)]; omega), d1, bd_s, bnd_x, nI_1]
    · show (if s = t then b else W s) = true ↔ _
      by_cases e : s = t
      · rw [if_pos e, if_pos (by omega), d4, e]
      · rw [if_neg e, hE s hs]
        by_cases z : s < t
        · rw [if_pos z, if_pos (by omega)]
        · rw [if_neg z, if_neg (by omega)]
  · rintro ⟨t', u⟩ ⟨rfl, F, W, hW, hE⟩
    refine ⟨u, ?_, F, W, hW, fun s hs => by have := hE s hs; rwa [if_pos hs] at this⟩
    show Mo_fewestNow_L70 x u (nI 4096) = _
    unfold Mo_fewestNow_L70
    rw [if_pos (by decide)]
  · rw [hB s hs]
    by_cases e : s < 1
    · rw [if_pos e]
      have e0 : s = 0 := by omega
      subst e0
      constructor
      · intro y; exact absurd y hB0
      · rintro ⟨b, b1, b2⟩
        have : b = 0 := Nat.eq_of_testBit_eq (fun i => by
          rw [Nat.zero_testBit]
          cases q : b.testBit i with
          | false => rfl
          | true => have := b2 i q; rw [Nat.zero_testBit] at this; exact this.symm)
        rw [this] at b1
        exact absurd b1 hB0
    · rw [if_neg e]
end FWM
