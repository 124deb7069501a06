section CHW
variable {m : Nat → Nat} {n mode L : Nat}
theorem FT_pre {g : (Nat → Nat) → Nat} : ∀ (k d : Nat) {r F : Nat → Nat}, FT m g k d r F → ∀ i, i < d → F i = r i
  | 0, _, _, _, h, i, _ => by rw [h.1]
  | k + 1, d, r, F, h, i, hi => by
    obtain ⟨v, _, _, h3⟩ := h
    rw [FT_pre k (d + 1) h3 i (by omega), fset_2 _ _ (by omega)]
theorem NW_prune {k d v : Nat} {r : Nat → Nat} (z : ¬ (mode = 0 ∨ lok m (fset r d v) L d = true)) : NW m (gd mode m L (d + 1 + k)) k (d + 1) (fset r d v) = 0 := by
  refine NW_zero k (d + 1) (fun r' h' => ?_)
  unfold gd good
  have z0 : ¬ mode = 0 := fun e => z (Or.inl e)
  have zl : ¬ djb m r' L (d + 1 + k) = true := fun e => by
    have e3 : (djb m r' L d && lok m r' L d) = true := djb_le (d := d + 1) (by omega) e
    rw [Bool.and_eq_true] at e3
    exact z (Or.inr ((lok_cong h').symm.trans e3.2))
  rw [decide_eq_false z0, Bool.false_or, Bool.eq_false_iff.mpr zl, Bool.false_and, if_neg (by decide)]
def WO (σ' : St) (c : Int32) (m : Nat → Nat) (mode L n k d : Nat) (r : Nat → Nat) : Prop := (c = 1 ∧ ∃ F, FT m (gd mode m L n) k d r F ∧ ∀ i, d ≤ i → i < n → σ'.1 38 i = nI (F i)) ∨ (c = 0 ∧ NW m (gd mode m L n) k d r = 0)
def Awf (d a i : Nat) : Prop := (a = 38 ∧ d ≤ i) ∨ (41 + d ≤ a ∧ a ≤ 46)
theorem waysFL {σ : St} {r : Nat → Nat} {d k f B : Nat} (hM : MO m n) (hL1 : 1 ≤ L) (hL2 : L ≤ 5040) (hmo : mode ≤ 2) (hS : CS σ m n mode L) (hd : d + 1 + k = n) (hP : mode = 0 ∨ djb m r L d = true) (hB : CB σ m r L d) (hBm : B ≤ m d) (HR : ∀ r' σ1, (mode = 0 ∨ djb m r' L (d + 1) = true) → CS σ1 m n mode L → CB σ1 m r' L (d + 1) → ∃ c σ2, Ch_waysFrom f σ1 (nI (d + 1)) 1 = some (c, σ2) ∧ Fp (Awf (d + 1)) σ1 σ2 ∧ WO σ2 c m mode L n k (d + 1) r') : ∃ c σ', iter (fun s : (Int32 × Int32 × St) => Ch_waysFrom_L51 (Ch_waysFrom f) (nI d) 1 (nI B) s.2.2 s.1 s.2.1) FUEL (0, 0, σ) = some (c, σ') ∧ Fp (Awf d) σ σ' ∧ ((c = 1 ∧ ∃ F, FT m (gd mode m L n) (k + 1) d r F ∧ ∀ i, d ≤ i → i < n → σ'.1 38 i = nI (F i)) ∨ (c = 0 ∧ ∀ v, v < B → NW m (gd mode m L n) k (d + 1) (fset r d v) = 0)) := by
  have hn := hM.1
  obtain ⟨m1, m2⟩ := hM.2.1 d (by omega)
  have key := iter_ix (body := fun s : (Int32 × Int32 × St) => Ch_waysFrom_L51 (Ch_waysFrom f) (nI d) 1 (nI B) s.2.2 s.1 s.2.1) (fun q u => ∃ v, q = B - v ∧ v ≤ B ∧ u.1 = 0 ∧ u.2.1 = nI v ∧ Fp (Awf d) σ u.2.2 ∧ ∀ v', v' < v → NW m (gd mode m L n) k (d + 1) (fset r d v') = 0) (fun e => Fp (Awf d) σ e.2 ∧ ((e.1 = 1 ∧ ∃ F, FT m (gd mode m L n) (k + 1) d r F ∧ ∀ i, d ≤ i → i < n → e.2.1 38 i = nI (F i)) ∨ (e.1 = 0 ∧ ∀ v, v < B → NW m (gd mode m L n) k (d + 1) (fset r d v) = 0))) ?_ FUEL B (0, 0, σ) ⟨0, by omega, by omega, rfl, rfl, Fp.rf, fun v' h => by omega⟩ (fuel (by omega))
  · obtain ⟨⟨c, τ⟩, b1, b2, b3⟩ := key
    exact ⟨c, τ, b1, b2, b3⟩
  · rintro q ⟨x4, x5, u⟩ ⟨v, rfl, hv, h4, h5, hF, hz⟩
    have h4' : x4 = 0 := h4
    have h5' : x5 = nI v := h5
    subst h4' h5'
    have hF' : Fp (Awf d) σ u := hF
    by_cases z : v < B
    · have F6 : Fp (Awf d) u (wI u 38 d (nI v)) := Fp.wI (A := Awf d) (Fp.rf (A := Awf d)) (by unfold Awf; omega)
      have F6' : Fp (Awf d) σ (wI u 38 d (nI v)) := hF'.tr F6
      have hS6 := hS.keep F6' (fun i => by unfold Awf; omega)
      have hB6 : CB (wI u 38 d (nI v)) m (fset r d v) L d := (hB.keep F6' (fun i => by unfold Awf; omega)).cong (fun i hi => fset_2 _ _ (by omega))
      obtain ⟨τ, t1, t2, t3⟩ := layC hM hL1 hL2 hmo hS6 (by omega) (r := fset r d v) (by rw [fset_1]; omega) hB6
      rw [fset_1] at t1
      have Fτ : Fp (Awf d) σ τ := F6'.tr (t2.mono (fun a i z => by unfold Awf; omega))
      have e38 : τ.1 38 d = nI v := (t2.i (by omega)).trans wI_s
      by_cases c : mode = 0 ∨ lok m (fset r d v) L d = true
      · rw [if_pos c] at t1
        have hP' : mode = 0 ∨ djb m (fset r d v) L (d + 1) = true := by
          rcases hP with h | h
          · exact Or.inl h
          · rcases c with c | c
            · exact Or.inl c
            · right
              show (djb m (fset r d v) L d && lok m (fset r d v) L d) = true
              rw [c, djb_cong (r := r) (fun i hi => fset_2 _ _ (by omega)), h]; rfl
        obtain ⟨cc, ω, o1, o2, o3⟩ := HR (fset r d v) τ hP' (hS.keep Fτ (fun i => by unfold Awf; omega)) (t3 c)
        have Fω : Fp (Awf d) σ ω := Fτ.tr (o2.mono (fun a i z => by unfold Awf at z; unfold Awf; omega))
        have hpre : Ch_waysFrom_L51 (Ch_waysFrom f) (nI d) 1 (nI B) u 0 (nI v) = (if cc ≤ 0 then some (.inl (cc, nI (v + 1), ω)) else some (.inr (cc, ω))) := by
          unfold Ch_waysFrom_L51 Ch_waysFrom_J88_51
          rw [if_neg (by rw [le_nI (by omega) (by omega)]; omega), ix_nI (show d < 6 by omega) (by omega), chk_true, tn_nI (show d < 2147483648 by omega), bnd_x, t1, bd2_s, if_neg (by decide), nI_1, o1, bd2_s, Int32.zero_add, bnd_x, if_neg (by decide), nI_1, bnd_x]
        rcases o3 with ⟨rfl, F, f1, f2⟩ | ⟨rfl, f0⟩
        · right
          refine ⟨(1, ω), ?_, Fω, Or.inl ⟨rfl, F, ⟨v, by omega, hz, f1⟩, fun i i1 i2 => ?_⟩⟩
          · show Ch_waysFrom_L51 (Ch_waysFrom f) (nI d) 1 (nI B) u 0 (nI v) = _
            rw [hpre, if_neg (by decide)]
          · by_cases e : i = d
            · rw [e, FT_pre k (d + 1) f1 d (by omega), fset_1]
              exact (o2.i (by unfold Awf; omega)).trans e38
            · exact f2 i (by omega) i2
        · left
          refine ⟨(0, nI (v + 1), ω), B - (v + 1), ?_, ⟨v + 1, rfl, by omega, rfl, rfl, Fω, fun v' h => ?_⟩, by omega⟩
          · show Ch_waysFrom_L51 (Ch_waysFrom f) (nI d) 1 (nI B) u 0 (nI v) = _
            rw [hpre, if_pos (by decide)]
          · by_cases e : v' = v
            · rw [e]; exact f0
            · exact hz v' (by omega)
      · rw [if_neg c] at t1
        left
        refine ⟨(0, nI (v + 1), τ), B - (v + 1), ?_, ⟨v + 1, rfl, by omega, rfl, rfl, Fτ, fun v' h => ?_⟩, by omega⟩
        · show Ch_waysFrom_L51 (Ch_waysFrom f) (nI d) 1 (nI B) u 0 (nI v) = _
          unfold Ch_waysFrom_L51 Ch_waysFrom_J88_51
          rw [if_neg (by rw [le_nI (by omega) (by omega)]; omega), ix_nI (show d < 6 by omega) (by omega), chk_true, tn_nI (show d < 2147483648 by omega), bnd_x, t1, bd2_s, if_pos rfl, if_neg (by decide), if_pos (by decide), nI_1, bnd_x]
        · by_cases e : v' = v
          · rw [e]
            have := NW_prune (k := k) c
            rwa [hd] at this
          · exact hz v' (by omega)
    · right
      have e : v = B := by omega
      refine ⟨(0, u), ?_, hF', Or.inr ⟨rfl, fun v' h => hz v' (by omega)⟩⟩
      show Ch_waysFrom_L51 (Ch_waysFrom f) (nI d) 1 (nI B) u 0 (nI v) = _
      unfold Ch_waysFrom_L51
      rw [if_pos (by rw [le_nI (by omega) (by omega)]; omega)]
      by_cases d0 : d = 0
      · rw [if_pos (by rw [d0]; rfl), show ix 0 6 = true from by decide, chk_true, Int32.zero_mul]
      · rw [if_neg (by rw [show (0 : Int32) = nI 0 from rfl, eq_nI (by omega) (by omega)]; exact d0)]
theorem waysF (hM : MO m n) (hL1 : 1 ≤ L) (hL2 : L ≤ 5040) (hmo : mode ≤ 2) (hdv : ∀ i, i < n → m i ∣ L) : ∀ (k f d : Nat) (r : Nat → Nat) (σ : St), d + k = n → k < f → (mode = 0 ∨ djb m r L d = true) → CS σ m n mode L → CB σ m r L d → ∃ c σ', Ch_waysFrom f σ (nI d) 1 = some (c, σ') ∧ Fp (Awf d) σ σ' ∧ WO σ' c m mode L n k d r
  | _, 0, _, _, _, _, h, _, _, _ => absurd h (Nat.not_lt_zero _)
  | 0, f + 1, d, r, σ, h, _, hP, hS, hB => by
    have hn := hM.1
    have e : d = n := by omega
    subst e
    have hg := CW_NW (mode := mode) (m := m) (L := L) 0 d hP
    have hg' : (if mode = 2 then 1 else if cov m r L d = true then 1 else 0) = gd mode m L d r := hg
    have hpre : Ch_waysFrom (f + 1) σ (nI d) 1 = some ((if gd mode m L d r = 1 then (1 : Int32) else 0), σ) := by
      show Ch_waysFrom_F (Ch_waysFrom f) σ (nI d) 1 = _
      unfold Ch_waysFrom_F
      rw [hS.1, if_neg (by rw [lt_nI (by omega) (by omega)]; omega), hS.2.1, ← hg']
      by_cases z : mode = 2
      · rw [if_pos (by rw [z]; rfl), if_pos z, if_pos rfl]
      · rw [show (2 : Int32) = nI 2 from rfl, if_neg (by rw [eq_nI (by omega) (by omega)]; exact z), if_neg z, caughtC hM hL1 hL2 hS hB, bd_s]
        by_cases c : cov m r L d = true
        · rw [if_pos c, if_neg (by decide), if_pos c, if_pos rfl]
        · rw [if_neg c, if_pos rfl, if_neg c, if_neg (by decide)]
    by_cases y : gd mode m L d r = 1
    · rw [if_pos y] at hpre
      exact ⟨1, σ, hpre, Fp.rf, Or.inl ⟨rfl, r, ⟨rfl, by rw [y]; omega⟩, fun i h1 h2 => by omega⟩⟩
    · rw [if_neg y] at hpre
      refine ⟨0, σ, hpre, Fp.rf, Or.inr ⟨rfl, ?_⟩⟩
      show gd mode m L d r = 0
      unfold gd at y ⊢
      by_cases w : good mode m r L d = true
      · rw [if_pos w] at y; exact absurd rfl y
      · rw [if_neg w]
  | k + 1, f + 1, d, r, σ, h, hf, hP, hS, hB => by
    have hn := hM.1
    have hd : d < n := by omega
    obtain ⟨m1, m2⟩ := hM.2.1 d hd
    have HR : ∀ r' σ1, (mode = 0 ∨ djb m r' L (d + 1) = true) → CS σ1 m n mode L → CB σ1 m r' L (d + 1) → ∃ c σ2, Ch_waysFrom f σ1 (nI (d + 1)) 1 = some (c, σ2) ∧ Fp (Awf (d + 1)) σ1 σ2 ∧ WO σ2 c m mode L n k (d + 1) r' := fun r' σ1 h0 h1 h2 => waysF hM hL1 hL2 hmo hdv k f (d + 1) r' σ1 (by omega) (by omega) h0 h1 h2
    by_cases d0 : d = 0
    · obtain ⟨c, τ, t1, t2, t3⟩ := waysFL (k := k) (f := f) (B := 1) hM hL1 hL2 hmo hS (by omega) hP hB m1 HR
      refine ⟨c, τ, ?_, t2, ?_⟩
      · show Ch_waysFrom_F (Ch_waysFrom f) σ (nI d) 1 = _
        unfold Ch_waysFrom_F
        rw [hS.1, if_pos (by rw [lt_nI (by omega) (by omega)]; omega), if_pos (by rw [d0]; rfl)]
        exact t1
      · rcases t3 with t3 | ⟨t3, t4⟩
        · exact Or.inl t3
        · right
          refine ⟨t3, ?_⟩
          subst d0
          have hk : n = k + 1 := by omega
          rw [hk] at hM hdv t4 ⊢
          rw [NW_all hM.p hdv r, t4 0 (by omega), Nat.mul_zero]
    · obtain ⟨c, τ, t1, t2, t3⟩ := waysFL (k := k) (f := f) (B := m d) hM hL1 hL2 hmo hS (by omega) hP hB (Nat.le_refl _) HR
      refine ⟨c, τ, ?_, t2, ?_⟩
      · show Ch_waysFrom_F (Ch_waysFrom f) σ (nI d) 1 = _
        unfold Ch_waysFrom_F
        rw [hS.1, if_pos (by rw [lt_nI (by omega) (by omega)]; omega), if_neg (by rw [show (0 : Int32) = nI 0 from rfl, eq_nI (by omega) (by omega)]; exact d0), ix_nI (show d < 6 by omega) (by omega), chk_true, tn_nI (show d < 2147483648 by omega), hS.2.2.2 d hd, bnd_x, t1]
      · rcases t3 with t3 | ⟨t3, t4⟩
        · exact Or.inl t3
        · right
          refine ⟨t3, ?_⟩
          show fb_sm (fun v => NW m (gd mode m L n) k (d + 1) (fset r d v)) (m d) = 0
          rw [fb_sm_cong (g := fun _ => 0) (fun v hv => t4 v hv), fb_sm_const, Nat.mul_zero]
end CHW
