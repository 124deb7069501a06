/-! pour -/
theorem holds_n {σ : St} {a n p m : Nat} (h : σ.1 a 2 = nI n) (hn : n ≤ 60) (hp : p < 2147483648) (hm : m < 2147483648) : Ty_holds σ a (nI p) (nI m) = some (if p + m ≤ n then 1 else 0) := by
  rw [holds_g h hn (nI p) hm, nI_toInt hp]
  by_cases q : p + m ≤ n
  · rw [if_pos q, if_pos (by omega)]
  · rw [if_neg q, if_neg (by omega)]
theorem sub_lt_n {n p m : Nat} (hn : n ≤ 60) (hp : p < 2147483648) (hm : m < 2147483648) : (nI n - nI p < nI m) = ¬ (p + m ≤ n) := by
  apply propext
  have e : (nI n - nI p).toInt = (n : Int) - p := by
    rw [fb_subI (by rw [nI_toInt (by omega), nI_toInt hp]; omega) (by rw [nI_toInt (by omega), nI_toInt hp]; omega), nI_toInt (by omega), nI_toInt hp]
  rw [Int32.lt_iff_toInt_lt, e, nI_toInt hm]
  omega
theorem le_sub_n {n p m : Nat} (hn : n ≤ 60) (hp : p < 2147483648) (hm : m < 2147483648) : (nI m ≤ nI n - nI p) = (p + m ≤ n) := by
  apply propext
  have e : (nI n - nI p).toInt = (n : Int) - p := by
    rw [fb_subI (by rw [nI_toInt (by omega), nI_toInt hp]; omega) (by rw [nI_toInt (by omega), nI_toInt hp]; omega), nI_toInt (by omega), nI_toInt hp]
  rw [Int32.le_iff_toInt_le, e, nI_toInt hm]
  omega
theorem pourM_n {σ : St} {f t a b m nf nt : Nat} (hf : f < 4) (ht : t < 4) (hnf : nf ≤ 60) (hnt : nt ≤ 60) (h1 : a + m ≤ nf) (h2 : b + m ≤ nt) : ∃ σ', iter (fun u : (Int32 × St) => Mo_pour_L118 (nI f) (nI a) (nI t) (nI b) (nI m) u.2 u.1) FUEL (0, σ) = some σ' ∧ Fp (fun x i => x = 97 ∧ 60 * t + b ≤ i ∧ i < 60 * t + b + m) σ σ' ∧ ∀ k, k < m → σ'.2 97 (60 * t + b + k) = σ.2 97 (60 * f + a + k) := by
  have m6 : ∀ x y k : Nat, (60 : Int32) * nI x + nI y + nI k = nI (60 * x + y + k) := fun x y k => by rw [show (60 : Int32) = nI 60 from rfl, pk_mul, nI_add, nI_add]
  by_cases hd : b ≤ a
  · obtain ⟨τ, a1, a2, a3⟩ := iter_cnt (body := fun u : (Int32 × St) => Mo_pour_L118 (nI f) (nI a) (nI t) (nI b) (nI m) u.2 u.1) (fun i u => u.1 = nI i ∧ Fp (fun x j => x = 97 ∧ 60 * t + b ≤ j ∧ j < 60 * t + b + i) σ u.2 ∧ ∀ k, k < i → u.2.2 97 (60 * t + b + k) = σ.2 97 (60 * f + a + k)) (fun e => Fp (fun x j => x = 97 ∧ 60 * t + b ≤ j ∧ j < 60 * t + b + m) σ e ∧ ∀ k, k < m → e.2 97 (60 * t + b + k) = σ.2 97 (60 * f + a + k)) (lo := 0) (hi := m) (n := FUEL) (Nat.zero_le _) (fuel (by omega)) (by
      rintro i ⟨i', u⟩ _ hi ⟨rfl, F, hB⟩
      have F' : Fp (fun x j => x = 97 ∧ 60 * t + b ≤ j ∧ j < 60 * t + b + i) σ u := F
      refine ⟨(nI (i + 1), wL u 97 (60 * t + b + i) (u.2 97 (60 * f + a + i))), ?_, rfl, (F'.mono (fun x j q => by omega)).wL (by omega), fun k hk => ?_⟩
      · show Mo_pour_L118 (nI f) (nI a) (nI t) (nI b) (nI m) u (nI i) = _
        unfold Mo_pour_L118 Mo_pour_J143_118
        rw [if_neg (by rw [le_nI (by omega) (by omega)]; omega), if_pos (by rw [le_nI (by omega) (by omega)]; omega), m6, m6, ix_nI (by omega) (by omega), chk_true, ix_nI (by omega) (by omega), chk_true, tn_nI (by omega), tn_nI (by omega), bnd_x, bnd_x, nI_1]
      · by_cases e : k = i
        · rw [e]
          refine wL_s.trans (F'.l ?_)
          omega
        · exact (wL_ne (by omega)).trans (hB k (by omega))) (by
      rintro ⟨i', u⟩ ⟨rfl, F, hB⟩
      refine ⟨u, ?_, F, hB⟩
      show Mo_pour_L118 (nI f) (nI a) (nI t) (nI b) (nI m) u (nI m) = _
      unfold Mo_pour_L118
      rw [if_pos (by rw [le_nI (by omega) (by omega)]; omega)]) (s := (0, σ)) ⟨rfl, Fp.rf, fun k hk => by omega⟩
    exact ⟨τ, a1, a2, a3⟩
  · obtain ⟨τ, a1, a2, a3⟩ := iter_cnt (body := fun u : (Int32 × St) => Mo_pour_L118 (nI f) (nI a) (nI t) (nI b) (nI m) u.2 u.1) (fun i u => u.1 = nI i ∧ Fp (fun x j => x = 97 ∧ 60 * t + b + (m - i) ≤ j ∧ j < 60 * t + b + m) σ u.2 ∧ ∀ k, m - i ≤ k → k < m → u.2.2 97 (60 * t + b + k) = σ.2 97 (60 * f + a + k)) (fun e => Fp (fun x j => x = 97 ∧ 60 * t + b ≤ j ∧ j < 60 * t + b + m) σ e ∧ ∀ k, k < m → e.2 97 (60 * t + b + k) = σ.2 97 (60 * f + a + k)) (lo := 0) (hi := m) (n := FUEL) (Nat.zero_le _) (fuel (by omega)) (by
      rintro i ⟨i', u⟩ _ hi ⟨rfl, F, hB⟩
      have F' : Fp (fun x j => x = 97 ∧ 60 * t + b + (m - i) ≤ j ∧ j < 60 * t + b + m) σ u := F
      have e1 : nI m - 1 - nI i = nI (m - 1 - i) := by rw [show nI m - 1 = nI (m - 1) from sub_nI (a := m) (b := 1) (by omega), sub_nI (by omega)]
      refine ⟨(nI (i + 1), wL u 97 (60 * t + b + (m - 1 - i)) (u.2 97 (60 * f + a + (m - 1 - i)))), ?_, rfl, (F'.mono (fun x j q => by omega)).wL (by omega), fun k hk1 hk => ?_⟩
      · show Mo_pour_L118 (nI f) (nI a) (nI t) (nI b) (nI m) u (nI i) = _
        unfold Mo_pour_L118 Mo_pour_J143_118
        rw [if_neg (by rw [le_nI (by omega) (by omega)]; omega), if_neg (by rw [le_nI (by omega) (by omega)]; omega), e1, m6, m6, ix_nI (by omega) (by omega), chk_true, ix_nI (by omega) (by omega), chk_true, tn_nI (by omega), tn_nI (by omega), bnd_x, bnd_x, nI_1]
      · by_cases e : k = m - 1 - i
        · rw [e]
          refine wL_s.trans (F'.l ?_)
          omega
        · exact (wL_ne (by omega)).trans (hB k (by omega) hk)) (by
      rintro ⟨i', u⟩ ⟨rfl, F, hB⟩
      have F' : Fp (fun x j => x = 97 ∧ 60 * t + b + (m - m) ≤ j ∧ j < 60 * t + b + m) σ u := F
      refine ⟨u, ?_, F'.mono (fun x j q => by omega), fun k hk => hB k (by omega) hk⟩
      show Mo_pour_L118 (nI f) (nI a) (nI t) (nI b) (nI m) u (nI m) = _
      unfold Mo_pour_L118
      rw [if_pos (by rw [le_nI (by omega) (by omega)]; omega)]) (s := (0, σ)) ⟨rfl, Fp.rf, fun k hk1 hk => by omega⟩
    exact ⟨τ, a1, a2, a3⟩
theorem call_pour {σ : St} (I : Inv σ) (p p2 p3 p4 p5 : Int32) : Call (fun σ => RC_pour σ p p2 p3 p4 p5) (fun σ => Mo_pour σ p p2 p3 p4 p5) σ := by
  have tr := I.2.2.1
  have fin : ∀ v : Nat, 1 ≤ v → v ≤ 8 → RC_pourTrouble σ p p2 p3 p4 p5 = some (nI v) → (∀ σ1 : St, (∀ t, σ1.1 96 t = σ.1 96 t ∧ σ1.1 95 t = σ.1 95 t) → Mo_pour σ1 p p2 p3 p4 p5 = some (0, wI σ1 92 2 (nI v))) → Call (fun σ => RC_pour σ p p2 p3 p4 p5) (fun σ => Mo_pour σ p p2 p3 p4 p5) σ := fun v v1 v2 h1 h2 => by
    have hne : ¬ nI v = 0 := by rw [show (0 : Int32) = nI 0 from rfl, eq_nI (by omega) (by omega)]; omega
    refine call_s (r := 0) (v := nI v) I ?_ (fun σ1 F => ?_)
    · show RC_pour σ p p2 p3 p4 p5 = _
      unfold RC_pour
      rw [h1, bd_s, if_neg hne, RC_deny_n, bd2_s, ckl0, chk_true]
    · exact h2 σ1 (fun t => ⟨F.i (by unfold Ac0; omega), F.i (by unfold Ac0; omega)⟩)
  rcases within_ex p (lo := 0) (hi := 3) 0 3 rfl rfl (by omega) with h | ⟨f, _, hf, rfl, h⟩
  · refine fin 1 (by omega) (by omega) ?_ (fun σ1 F => ?_)
    · unfold RC_pourTrouble
      rw [h, bd_s, if_pos rfl]; rfl
    · unfold Mo_pour
      rw [isTray_w, h, bd_s, if_pos rfl, Mo_is_n _ (by decide), bd2_s, ckl0, chk_true]; rfl
  rcases within_ex p3 (lo := 0) (hi := 3) 0 3 rfl rfl (by omega) with h3 | ⟨t, _, ht, rfl, h3⟩
  · refine fin 1 (by omega) (by omega) ?_ (fun σ1 F => ?_)
    · unfold RC_pourTrouble
      rw [h, bd_s, if_neg (by decide), h3, bd_s, if_pos rfl]; rfl
    · unfold Mo_pour
      rw [isTray_w, h, bd_s, if_neg (by decide), isTray_w, h3, bd_s, if_pos rfl, Mo_is_n _ (by decide), bd2_s, ckl0, chk_true]; rfl
  by_cases n2 : p2 < 0
  · refine fin 1 (by omega) (by omega) ?_ (fun σ1 F => ?_)
    · unfold RC_pourTrouble
      rw [h, bd_s, if_neg (by decide), h3, bd_s, if_neg (by decide), if_pos n2]; rfl
    · unfold Mo_pour
      rw [isTray_w, h, bd_s, if_neg (by decide), isTray_w, h3, bd_s, if_neg (by decide), if_pos n2, Mo_is_n _ (by decide), bd2_s, ckl0, chk_true]; rfl
  by_cases n4 : p4 < 0
  · refine fin 1 (by omega) (by omega) ?_ (fun σ1 F => ?_)
    · unfold RC_pourTrouble
      rw [h, bd_s, if_neg (by decide), h3, bd_s, if_neg (by decide), if_neg n2, if_pos n4]; rfl
    · unfold Mo_pour
      rw [isTray_w, h, bd_s, if_neg (by decide), isTray_w, h3, bd_s, if_neg (by decide), if_neg n2, if_pos n4, Mo_is_n _ (by decide), bd2_s, ckl0, chk_true]; rfl
  by_cases n5 : 0 ≤ p5
  · obtain ⟨a, ha, rfl⟩ := nI_of n2
    obtain ⟨b, hb, rfl⟩ := nI_of n4
    obtain ⟨m, hm, rfl⟩ := nI_of (x := p5) (fun q => (fa_of_lt q).2.1 n5)
    obtain ⟨c1, c2, c3⟩ := tr f (by omega)
    obtain ⟨d1, d2, d3⟩ := tr t (by omega)
    have hxf : ix (nI f) 4 = true := by rw [ix_nI (by omega) (by omega)]
    have hxt : ix (nI t) 4 = true := by rw [ix_nI (by omega) (by omega)]
    rcases c3 with c3 | ⟨nf, e1, e2, e3⟩
    · refine fin 2 (by omega) (by omega) ?_ (fun σ1 F => ?_)
      · unfold RC_pourTrouble Ty_isMissing
        rw [h, bd_s, if_neg (by decide), h3, bd_s, if_neg (by decide), if_neg n2, if_neg n4, if_pos n5, hxf, chk_true, tn_nI (by omega), rfs_T, c2, c3, if_pos rfl, bd_s, if_neg (by decide)]; rfl
      · unfold Mo_pour
        rw [isTray_w, h, bd_s, if_neg (by decide), isTray_w, h3, bd_s, if_neg (by decide), if_neg n2, if_neg n4, if_pos n5, hxf, chk_true, tn_nI (by omega), (F f).1, c3, if_pos rfl, Mo_is_n _ (by decide), bd2_s, ckl0, chk_true]; rfl
    · rcases d3 with d3 | ⟨nt, g1, g2, g3⟩
      · refine fin 2 (by omega) (by omega) ?_ (fun σ1 F => ?_)
        · unfold RC_pourTrouble Ty_isMissing
          rw [h, bd_s, if_neg (by decide), h3, bd_s, if_neg (by decide), if_neg n2, if_neg n4, if_pos n5, hxf, chk_true, tn_nI (by omega), rfs_T, c2, e2, if_neg (nI_m1 (by omega)), bd_s, if_pos rfl, hxt, chk_true, tn_nI (by omega), rfs_T, d2, d3, if_pos rfl, bd_s, if_neg (by decide)]; rfl
        · unfold Mo_pour
          rw [isTray_w, h, bd_s, if_neg (by decide), isTray_w, h3, bd_s, if_neg (by decide), if_neg n2, if_neg n4, if_pos n5, hxf, chk_true, tn_nI (by omega), (F f).1, e2, if_neg (nI_m1 (by omega)), hxt, chk_true, tn_nI (by omega), (F t).1, d3, if_pos rfl, Mo_is_n _ (by decide), bd2_s, ckl0, chk_true]; rfl
      · have preC : RC_pourTrouble σ (nI f) (nI a) (nI t) (nI b) (nI m) = if σ.1 95 f = σ.1 95 t then (if a + m ≤ nf ∧ b + m ≤ nt then some 0 else some 3) else some 8 := by
          unfold RC_pourTrouble Ty_isMissing
          rw [h, bd_s, if_neg (by decide), h3, bd_s, if_neg (by decide), if_neg n2, if_neg n4, if_pos n5, hxf, chk_true, tn_nI (by omega), rfs_T, c2, e2, if_neg (nI_m1 (by omega)), bd_s, if_pos rfl, hxt, chk_true, tn_nI (by omega), rfs_T, d2, g2, if_neg (nI_m1 (by omega)), bd_s, if_pos rfl, chk_true, chk_true, c1, d1, chk_true, holds_n (c2.trans e2) e1 ha hm, bd_s, chk_true, holds_n (d2.trans g2) g1 hb hm, bd_s]
          by_cases s8 : σ.1 95 f = σ.1 95 t
          · rw [if_pos s8, if_pos s8]
            by_cases q1 : a + m ≤ nf
            · by_cases q2 : b + m ≤ nt
              · rw [if_pos q1, if_neg (by decide), if_pos q2, if_neg (by decide), if_pos ⟨q1, q2⟩]
              · rw [if_pos q1, if_neg (by decide), if_neg q2, if_pos rfl, if_neg (fun z => q2 z.2)]
            · rw [if_neg q1, if_pos rfl, if_neg (fun z => q1 z.1)]
          · rw [if_neg s8, if_neg s8]
        have preM : ∀ σ1 : St, (∀ t, σ1.1 96 t = σ.1 96 t ∧ σ1.1 95 t = σ.1 95 t) → Mo_pour σ1 (nI f) (nI a) (nI t) (nI b) (nI m) = if σ.1 95 f = σ.1 95 t then (if a + m ≤ nf ∧ b + m ≤ nt then bd (iter (fun s : (Int32 × St) => Mo_pour_L118 (nI f) (nI a) (nI t) (nI b) (nI m) s.2 s.1) FUEL (0, σ1)) (fun σ41 => some (1, wI σ41 92 2 0)) else some (0, wI σ1 92 2 3)) else some (0, wI σ1 92 2 8) := fun σ1 F => by
          unfold Mo_pour
          rw [isTray_w, h, bd_s, if_neg (by decide), isTray_w, h3, bd_s, if_neg (by decide), if_neg n2, if_neg n4, if_pos n5, hxf, chk_true, tn_nI (by omega), (F f).1, e2, if_neg (nI_m1 (by omega)), hxt, chk_true, tn_nI (by omega), (F t).1, g2, if_neg (nI_m1 (by omega)), chk_true, chk_true, (F f).2, (F t).2, chk_true, chk_true, Mo_is_n _ (by decide), bd2_s, ckl0, chk_true, Mo_is_n _ (by decide), bd2_s, ckl0, chk_true]
          by_cases s8 : σ.1 95 f = σ.1 95 t
          · rw [if_pos s8, if_pos s8]
            by_cases q1 : a + m ≤ nf
            · rw [if_neg (by rw [sub_lt_n e1 ha hm]; exact fun z => z q1)]
              by_cases q2 : b + m ≤ nt
              · rw [if_pos (by rw [le_sub_n g1 hb hm]; exact q2), if_pos ⟨q1, q2⟩]; rfl
              · rw [if_neg (by rw [le_sub_n g1 hb hm]; exact q2), if_neg (fun z => q2 z.2)]
            · rw [if_pos (by rw [sub_lt_n e1 ha hm]; exact q1), if_neg (fun z => q1 z.1)]
          · rw [if_neg s8, if_neg s8]
        by_cases s8 : σ.1 95 f = σ.1 95 t
        · by_cases q : a + m ≤ nf ∧ b + m ≤ nt
          · obtain ⟨q1, q2⟩ := q
            rw [if_pos s8, if_pos ⟨q1, q2⟩] at preC
            have eC : RC_pour σ (nI f) (nI a) (nI t) (nI b) (nI m) = some (1, wI (rL σ (52 + 2 * t) (va_cpy (σ.2 (52 + 2 * f)) (σ.2 (52 + 2 * t)) a b m)) 0 0 0) := by
              unfold RC_pour
              rw [preC, bd_s, if_pos rfl, hxf, chk_true, hxt, chk_true, cpk_n (by omega) (by omega) (by omega) (by omega), chk_true, tn_nI (by omega), tn_nI (by omega), tn_nI (by omega), tn_nI (by omega), tn_nI (by omega), rfs_T, rfs_T, bnd_x, RC_agree_n, bd2_s, ckl1, chk_true, show 51 + 2 * t + 1 = 52 + 2 * t by omega, show 51 + 2 * f + 1 = 52 + 2 * f by omega]
            have F1 : Fp (fun x i => (x = 0 ∧ i = 0) ∨ x = 52 + 2 * t) σ (wI (rL σ (52 + 2 * t) (va_cpy (σ.2 (52 + 2 * f)) (σ.2 (52 + 2 * t)) a b m)) 0 0 0) := (Fp.rf.rL (fun i => Or.inr rfl)).wI (by omega)
            obtain ⟨υ, b1, b2, b3⟩ := pourM_n (σ := wI (rL σ (52 + 2 * t) (va_cpy (σ.2 (52 + 2 * f)) (σ.2 (52 + 2 * t)) a b m)) 0 0 0) (f := f) (t := t) (by omega) (by omega) e1 g1 q1 q2
            have eM := preM (wI (rL σ (52 + 2 * t) (va_cpy (σ.2 (52 + 2 * f)) (σ.2 (52 + 2 * t)) a b m)) 0 0 0) (fun t => ⟨F1.i (by omega), F1.i (by omega)⟩)
            rw [if_pos s8, if_pos ⟨q1, q2⟩, b1, bd_s] at eM
            have F2 : Fp (fun x i => (x = 92 ∧ i = 2) ∨ (x = 97 ∧ 60 * t + b ≤ i ∧ i < 60 * t + b + m)) (wI (rL σ (52 + 2 * t) (va_cpy (σ.2 (52 + 2 * f)) (σ.2 (52 + 2 * t)) a b m)) 0 0 0) (wI υ 92 2 0) := (b2.mono (fun a i q => by omega)).wI (by omega)
            refine call_tr (v := 0) I eC (F1.mono (fun a i q => by omega)) wI_s eM (F2.mono (fun a i q => by omega)) wI_s (fun x hx => ?_)
            obtain ⟨y1, y2, y3⟩ := tr x hx
            have k1 : ∀ i, (wI υ 92 2 0).1 (51 + 2 * x) i = σ.1 (51 + 2 * x) i := fun i => by rw [F2.i (by omega), F1.i (by omega)]
            have k2 : (wI υ 92 2 0).1 95 x = σ.1 95 x := by rw [F2.i (by omega), F1.i (by omega)]
            have k3 : (wI υ 92 2 0).1 96 x = σ.1 96 x := by rw [F2.i (by omega), F1.i (by omega)]
            rw [k1, k1, k2, k3]
            refine ⟨y1, y2, ?_⟩
            rcases y3 with y3 | ⟨n, z1, z2, z3⟩
            · exact Or.inl y3
            · refine Or.inr ⟨n, z1, z2, fun k hk => ?_⟩
              by_cases ex : x = t
              · subst ex
                have hn : n = nt := (eq_nI (by omega) (by omega)).mp (z2.symm.trans g2)
                subst hn
                rw [F2.l (by omega), wI_2, rL_s]
                by_cases q : b ≤ k ∧ k < b + m
                · have := b3 (k - b) (by omega)
                  rw [show 60 * x + b + (k - b) = 60 * x + k by omega, F1.l (by omega)] at this
                  rw [pk_cpy_in q.1 q.2, wI_2, this, show 60 * f + a + (k - b) = 60 * f + (a + (k - b)) by omega]
                  exact e3 (a + (k - b)) (by omega)
                · rw [pk_cpy_out (by omega), F2.l (by omega), F1.l (by omega)]
                  exact g3 k hk
              · rw [F2.l (by omega), F1.l (by omega), F2.l (by omega), F1.l (by omega)]
                exact z3 k hk
          · rw [if_pos s8, if_neg q] at preC
            exact fin 3 (by omega) (by omega) preC (fun σ1 F => by have := preM σ1 F; rwa [if_pos s8, if_neg q] at this)
        · rw [if_neg s8] at preC
          exact fin 8 (by omega) (by omega) preC (fun σ1 F => by have := preM σ1 F; rwa [if_neg s8] at this)
  · refine fin 1 (by omega) (by omega) ?_ (fun σ1 F => ?_)
    · unfold RC_pourTrouble
      rw [h, bd_s, if_neg (by decide), h3, bd_s, if_neg (by decide), if_neg n2, if_neg n4, if_neg n5]; rfl
    · unfold Mo_pour
      rw [isTray_w, h, bd_s, if_neg (by decide), isTray_w, h3, bd_s, if_neg (by decide), if_neg n2, if_neg n4, if_neg n5, Mo_is_n _ (by decide), bd2_s, ckl0, chk_true]; rfl
