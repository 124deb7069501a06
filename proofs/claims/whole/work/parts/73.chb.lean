section CHQ
variable {m : Nat → Nat} {n mode L : Nat}
theorem CS.keep {σ σ2 : St} (h : CS σ m n mode L) {A : Nat → Nat → Prop} (F : Fp A σ σ2) (hA : ∀ i, ¬ A 36 i ∧ ¬ A 37 i) : CS σ2 m n mode L := ⟨(F.i (hA _).1).trans h.1, (F.i (hA _).1).trans h.2.1, (F.i (hA _).1).trans h.2.2.1, fun i hi => (F.i (hA _).2).trans (h.2.2.2 i hi)⟩
theorem CB.keep {σ σ2 : St} {r : Nat → Nat} {d : Nat} (h : CB σ m r L d) {A : Nat → Nat → Prop} (F : Fp A σ σ2) (hA : ∀ i, ¬ A (40 + d) i) : CB σ2 m r L d := fun w hw j hj => by rw [F.l (hA w)]; exact h w hw j hj
theorem CB.cong {σ : St} {r r' : Nat → Nat} {d : Nat} (h : CB σ m r L d) (e : ∀ i, i < d → r' i = r i) : CB σ m r' L d := fun w hw j hj => by rw [h w hw j hj, hit_cong e]
theorem caughtC {σ : St} {r : Nat → Nat} (hM : MO m n) (hL1 : 1 ≤ L) (hL2 : L ≤ 5040) (hS : CS σ m n mode L) (hB : CB σ m r L n) : Ch_isAllCaught σ (nI n) = some (if cov m r L n = true then 1 else 0) := by
  have hn := hM.1
  obtain ⟨W, hW⟩ : ∃ W, W = (L + 63) / 64 := ⟨_, rfl⟩
  have hwords := words_n hL1 hL2
  rw [← hW] at hwords
  have s3 := hS.2.2.1
  have key := iter_ix (body := fun s : Int32 => Ch_isAllCaught_L10 (nI n) (nI W) σ s) (fun k u => ∃ w, k = W - w ∧ w ≤ W ∧ u = nI w ∧ ∀ y, y < 64 * w → y < L → hit m r y n = true) (fun e => e = if cov m r L n = true then (1 : Int32) else 0) ?_ FUEL W 0 ⟨0, by omega, by omega, rfl, fun y hy => by omega⟩ (fuel (by omega))
  · obtain ⟨e, b1, b2⟩ := key
    unfold Ch_isAllCaught
    rw [s3, hwords, bd_s, b1, b2]
  · rintro k _ ⟨w, rfl, hw, rfl, h⟩
    by_cases z : w < W
    · have hwl : 64 * w < L := by omega
      obtain ⟨t, t1, t2⟩ := inside_n hwl hL2
      have hz : σ.2 (40 + n) w = t ↔ ∀ j, j < 64 → 64 * w + j < L → hit m r (64 * w + j) n = true := by
        constructor
        · intro e j hj hl
          have := hB w hwl j hj
          rw [e, t2 j hj, decide_eq_true hl, Bool.and_true] at this
          exact this.symm
        · intro e
          refine lb_ext (fun j hj => ?_)
          rw [hB w hwl j hj, t2 j hj]
          by_cases hl : 64 * w + j < L
          · rw [e j hj hl, Bool.true_and]
          · rw [decide_eq_false hl, Bool.and_false]
      have hpre : Ch_isAllCaught_L10 (nI n) (nI W) σ (nI w) = if σ.2 (40 + n) w = t then some (.inl (nI (w + 1))) else some (.inr 0) := by
        unfold Ch_isAllCaught_L10
        rw [if_neg (by rw [le_nI (by omega) (by omega)]; omega), ix_nI (show n < 7 by omega) (by omega), chk_true, ix_nI (show w < 79 by omega) (by omega), chk_true, s3, t1, bd_s, tn_nI (show n < 2147483648 by omega), rfs_A, tn_nI (show w < 2147483648 by omega), nI_1, bnd_x]
      by_cases c : σ.2 (40 + n) w = t
      · left
        refine ⟨nI (w + 1), W - (w + 1), ?_, ⟨w + 1, rfl, by omega, rfl, fun y hy hyl => ?_⟩, by omega⟩
        · show Ch_isAllCaught_L10 (nI n) (nI W) σ (nI w) = _
          rw [hpre, if_pos c]
        · by_cases e : y < 64 * w
          · exact h y e hyl
          · have := hz.mp c (y - 64 * w) (by omega) (by omega)
            rwa [show 64 * w + (y - 64 * w) = y by omega] at this
      · right
        refine ⟨0, ?_, ?_⟩
        · show Ch_isAllCaught_L10 (nI n) (nI W) σ (nI w) = _
          rw [hpre, if_neg c]
        · rw [if_neg (fun g => c (hz.mpr (fun j hj hl => by
            unfold cov at g
            rw [decide_eq_true_eq, fb_ct_all] at g
            exact g _ hl)))]
    · right
      refine ⟨1, ?_, ?_⟩
      · show Ch_isAllCaught_L10 (nI n) (nI W) σ (nI w) = _
        unfold Ch_isAllCaught_L10
        rw [if_pos (by rw [le_nI (by omega) (by omega)]; omega)]
      · rw [if_pos]
        unfold cov
        rw [decide_eq_true_eq, fb_ct_all]
        intro y hy
        exact h y (by omega) hy
theorem waysL {σ : St} {r : Nat → Nat} {d k f B : Nat} (hM : MO m n) (hL1 : 1 ≤ L) (hL2 : L ≤ 5040) (hmo : mode ≤ 2) (hS : CS σ m n mode L) (hd : d < n) (hB : CB σ m r L d) (hBm : B ≤ m d) (HR : ∀ r' σ1, CS σ1 m n mode L → CB σ1 m r' L (d + 1) → ∃ σ2, Ch_waysFrom f σ1 (nI (d + 1)) 0 = some (nI (CW mode m L k (d + 1) r'), σ2) ∧ Fp (fun a i => a = 38 ∨ (42 + d ≤ a ∧ a ≤ 46)) σ1 σ2) : ∃ σ', iter (fun s : (Int32 × Int32 × St) => Ch_waysFrom_L51 (Ch_waysFrom f) (nI d) 0 (nI B) s.2.2 s.1 s.2.1) FUEL (0, 0, σ) = some ((if d = 0 then nI (fb_sm (fun v => if mode = 0 ∨ lok m (fset r d v) L d = true then CW mode m L k (d + 1) (fset r d v) else 0) B * m 0) else nI (fb_sm (fun v => if mode = 0 ∨ lok m (fset r d v) L d = true then CW mode m L k (d + 1) (fset r d v) else 0) B)), σ') ∧ Fp (fun a i => a = 38 ∨ (41 + d ≤ a ∧ a ≤ 46)) σ σ' := by
  have hn := hM.1
  obtain ⟨m1, m2⟩ := hM.2.1 d hd
  obtain ⟨g, hg⟩ : ∃ g, g = fun v => if mode = 0 ∨ lok m (fset r d v) L d = true then CW mode m L k (d + 1) (fset r d v) else 0 := ⟨_, rfl⟩
  rw [← hg]
  have key := iter_cnt (body := fun s : (Int32 × Int32 × St) => Ch_waysFrom_L51 (Ch_waysFrom f) (nI d) 0 (nI B) s.2.2 s.1 s.2.1) (fun v u => u.1 = nI (fb_sm g v) ∧ u.2.1 = nI v ∧ Fp (fun a i => a = 38 ∨ (41 + d ≤ a ∧ a ≤ 46)) σ u.2.2) (fun e => e.1 = (if d = 0 then nI (fb_sm g B * m 0) else nI (fb_sm g B)) ∧ Fp (fun a i => a = 38 ∨ (41 + d ≤ a ∧ a ≤ 46)) σ e.2) (lo := 0) (hi := B) (n := FUEL) (by omega) (fuel (by omega)) (by
    rintro v ⟨_, _, u⟩ _ hv ⟨rfl, rfl, hF⟩
    have hF' : Fp (fun a i => a = 38 ∨ (41 + d ≤ a ∧ a ≤ 46)) σ u := hF
    have F6 : Fp (fun a i => a = 38) u (wI u 38 d (nI v)) := Fp.wI (A := fun a i => a = 38) (Fp.rf (A := fun a i => a = 38)) (show (38 : Nat) = 38 from rfl)
    have F6' : Fp (fun a i => a = 38 ∨ (41 + d ≤ a ∧ a ≤ 46)) σ (wI u 38 d (nI v)) := hF'.tr (F6.mono (fun a i z => Or.inl z))
    have hS6 := hS.keep F6' (fun i => by omega)
    have hB6 : CB (wI u 38 d (nI v)) m (fset r d v) L d := (hB.keep F6' (fun i => by omega)).cong (fun i hi => fset_2 _ _ (by omega))
    obtain ⟨τ, t1, t2, t3⟩ := layC hM hL1 hL2 hmo hS6 hd (r := fset r d v) (by rw [fset_1]; omega) hB6
    rw [fset_1] at t1
    have Fτ : Fp (fun a i => a = 38 ∨ (41 + d ≤ a ∧ a ≤ 46)) σ τ := F6'.tr (t2.mono (fun a i z => by omega))
    by_cases c : mode = 0 ∨ lok m (fset r d v) L d = true
    · rw [if_pos c] at t1
      obtain ⟨ω, o1, o2⟩ := HR (fset r d v) τ (hS.keep Fτ (fun i => by omega)) (t3 c)
      refine ⟨(nI (fb_sm g (v + 1)), nI (v + 1), ω), ?_, rfl, rfl, Fτ.tr (o2.mono (fun a i z => by omega))⟩
      show Ch_waysFrom_L51 (Ch_waysFrom f) (nI d) 0 (nI B) u (nI (fb_sm g v)) (nI v) = _
      unfold Ch_waysFrom_L51 Ch_waysFrom_J88_51
      rw [if_neg (by rw [le_nI (by omega) (by omega)]; omega), ix_nI (show d < 6 by omega) (by omega), chk_true, tn_nI (show d < 2147483648 by omega), bnd_x, t1, bd2_s, if_neg (by decide), nI_1, o1, bd2_s, nI_add, bnd_x, if_pos rfl, nI_1, bnd_x, fb_sm_succ, show g v = CW mode m L k (d + 1) (fset r d v) by rw [hg]; exact if_pos c]
    · rw [if_neg c] at t1
      refine ⟨(nI (fb_sm g (v + 1)), nI (v + 1), τ), ?_, rfl, rfl, Fτ⟩
      show Ch_waysFrom_L51 (Ch_waysFrom f) (nI d) 0 (nI B) u (nI (fb_sm g v)) (nI v) = _
      unfold Ch_waysFrom_L51 Ch_waysFrom_J88_51
      rw [if_neg (by rw [le_nI (by omega) (by omega)]; omega), ix_nI (show d < 6 by omega) (by omega), chk_true, tn_nI (show d < 2147483648 by omega), bnd_x, t1, bd2_s, if_pos rfl, if_pos rfl, nI_1, bnd_x, fb_sm_succ, show g v = 0 by rw [hg]; exact if_neg c]
      rfl) (by
    rintro ⟨_, _, u⟩ ⟨rfl, rfl, hF⟩
    have hF' : Fp (fun a i => a = 38 ∨ (41 + d ≤ a ∧ a ≤ 46)) σ u := hF
    refine ⟨((if d = 0 then nI (fb_sm g B * m 0) else nI (fb_sm g B)), u), ?_, rfl, hF'⟩
    show Ch_waysFrom_L51 (Ch_waysFrom f) (nI d) 0 (nI B) u (nI (fb_sm g B)) (nI B) = _
    unfold Ch_waysFrom_L51
    by_cases d0 : d = 0
    · have e37 : u.1 37 0 = nI (m 0) := (hF'.i (by omega)).trans (hS.2.2.2 0 (by omega))
      rw [if_pos (by rw [le_nI (by omega) (by omega)]; omega), if_pos (by rw [d0]; rfl), show ix 0 6 = true from by decide, chk_true, tn00, e37, pk_mul, if_pos d0]
    · rw [if_pos (by rw [le_nI (by omega) (by omega)]; omega), if_neg (by rw [show (0 : Int32) = nI 0 from rfl, eq_nI (by omega) (by omega)]; exact d0), if_neg d0]) (s := (0, 0, σ)) ⟨rfl, rfl, Fp.rf⟩
  obtain ⟨⟨v, τ⟩, b1, b2, b3⟩ := key
  have b2' : v = (if d = 0 then nI (fb_sm g B * m 0) else nI (fb_sm g B)) := b2
  rw [b2'] at b1
  exact ⟨τ, b1, b3⟩
theorem waysC (hM : MO m n) (hL1 : 1 ≤ L) (hL2 : L ≤ 5040) (hmo : mode ≤ 2) : ∀ (k f d : Nat) (r : Nat → Nat) (σ : St), d + k = n → k < f → (k = 0 ∨ 1 ≤ d) → CS σ m n mode L → CB σ m r L d → ∃ σ', Ch_waysFrom f σ (nI d) 0 = some (nI (CW mode m L k d r), σ') ∧ Fp (fun a i => a = 38 ∨ (41 + d ≤ a ∧ a ≤ 46)) σ σ'
  | _, 0, _, _, _, _, h, _, _, _ => absurd h (Nat.not_lt_zero _)
  | 0, f + 1, d, r, σ, h, _, _, hS, hB => by
    have hn := hM.1
    have e : d = n := by omega
    refine ⟨σ, ?_, Fp.rf⟩
    show Ch_waysFrom_F (Ch_waysFrom f) σ (nI d) 0 = some (nI (if mode = 2 then 1 else if cov m r L d = true then 1 else 0), σ)
    subst e
    unfold Ch_waysFrom_F
    rw [hS.1, if_neg (by rw [lt_nI (by omega) (by omega)]; omega), hS.2.1]
    by_cases z : mode = 2
    · rw [if_pos (by rw [z]; rfl), if_pos z]; rfl
    · rw [show (2 : Int32) = nI 2 from rfl, if_neg (by rw [eq_nI (by omega) (by omega)]; exact z), if_neg z, caughtC hM hL1 hL2 hS hB, bd_s]
      by_cases c : cov m r L d = true
      · rw [if_pos c, if_neg (by decide), if_pos c]; rfl
      · rw [if_neg c, if_pos rfl, if_neg c]; rfl
  | k + 1, f + 1, d, r, σ, h, hf, hd1, hS, hB => by
    have hn := hM.1
    have hd : d < n := by omega
    obtain ⟨m1, m2⟩ := hM.2.1 d hd
    obtain ⟨τ, t1, t2⟩ := waysL (k := k) (f := f) (B := m d) hM hL1 hL2 hmo hS hd hB (Nat.le_refl _) (fun r' σ1 h1 h2 => by
      obtain ⟨σ2, g1, g2⟩ := waysC hM hL1 hL2 hmo k f (d + 1) r' σ1 (by omega) (by omega) (Or.inr (by omega)) h1 h2
      exact ⟨σ2, g1, g2.mono (fun a i z => by omega)⟩)
    rw [if_neg (show ¬ d = 0 by omega)] at t1
    refine ⟨τ, ?_, t2⟩
    show Ch_waysFrom_F (Ch_waysFrom f) σ (nI d) 0 = _
    unfold Ch_waysFrom_F
    rw [hS.1, if_pos (by rw [lt_nI (by omega) (by omega)]; omega), if_neg (by rw [show (0 : Int32) = nI 0 from rfl, eq_nI (by omega) (by omega)]; omega), ix_nI (show d < 6 by omega) (by omega), chk_true, tn_nI (show d < 2147483648 by omega), hS.2.2.2 d hd, bnd_x, t1]
    rfl
end CHQ
