section SYL
variable {n : Nat} {bt : Nat → Nat} {τ0 σ τ : St} {k : Nat} {c od on : Nat} {rs md nm : Nat → Nat}
theorem blame_r {P : St → St → Prop} (h : PK τ0 σ τ bt n k) {p : Nat} (h2 : 2 ≤ p) (h7 : p ≤ 7) : RX τ0 P (Re_blame σ (nI p)) (bd2 (Mo_fails τ (nI p)) (fun r s => chk (ckz r) (some (r, s)))) := by
  obtain ⟨σ', τ', e1, e2, e3⟩ := blame_n h h2 h7
  refine Or.inr ⟨σ', τ', e1, ?_, e3⟩
  rw [e2, bd2_s, kz0, chk_true]
theorem RX.ckr {P : St → St → Prop} {x y : Option (Int32 × St)} (h : RX τ0 P x y) : RX τ0 P x (bd2 y (fun r s => chk (ckz r) (some (r, s)))) := by
  rcases h with ⟨σ, τ, e1, e2, e3⟩ | ⟨σ, τ, e1, e2, e3⟩
  · left
    exact ⟨σ, τ, e1, by rw [e2, bd2_s, kz1, chk_true], e3⟩
  · right
    exact ⟨σ, τ, e1, by rw [e2, bd2_s, kz0, chk_true], e3⟩
noncomputable def STk (f y : Nat) (r : Int32) (s : St) : Option ((Int32 × Int32 × St) ⊕ (Int32 × St)) := if r = 0 then some (.inr (0, s)) else some (.inl (nI f, nI y, s))
theorem part_x (h : PK τ0 σ τ bt n k) (hk : ¬ kC bt n (ts bt n k) = 0) (hS : SY σ τ c od on rs md nm) {f y : Nat} (hf : f ≤ 1) (h19 : τ.1 92 19 = nI f) (hy : y ≤ k) : ∃ X f', f' ≤ 1 ∧ ST_take_L8 11 σ (nI f) (nI y) = bd2 X (STk f' (y + 1)) ∧ RX τ0 (Pt τ0 bt n k f') X (Mo_systemPart τ) := by
  have hl := h.1.lt
  have hc := hS.2.2.1.1
  have hkl := (kC_lt bt n (ts bt n k)).1
  have ht := token_n h.1
  have e900 : ¬ (900 : Int32) < nI y := by rw [show (900 : Int32) = nI 900 from rfl, lt_nI (by omega) (by omega)]; omega
  have eq : ∀ p : Nat, p < 26 → ((nI (kC bt n (ts bt n k)) = nI p) ↔ kC bt n (ts bt n k) = p) := fun p hp => by rw [eq_nI (by omega) (by omega)]
  have hW := inW h.2.1
  have k0 : ¬ nI (kC bt n (ts bt n k)) = 0 := fun q => hk ((eq 0 (by omega)).mp q)
  by_cases t10 : kC bt n (ts bt n k) = 10
  · have iw : (if 10 ≤ kC bt n (ts bt n k) then nI (kC bt n (ts bt n k) - 10) else -1) = (0 : Int32) := by rw [t10]; rfl
    have k10 : nI (kC bt n (ts bt n k)) = 10 := (eq 10 (by omega)).mpr t10
    by_cases cf : f = 0
    · refine ⟨ST_takeOdds σ 11, 1, by omega, ?_, ?_⟩
      · unfold ST_take_L8
        rw [if_neg e900, ht, bd_s, if_neg k0, bd_s, if_pos k10, cf, if_pos (show nI 0 = 0 from rfl)]
        congr 1; funext r s
        unfold ST_take_J48_8 STk
        rw [nI_1, bnd_x]; rfl
      · unfold Mo_systemPart
        rw [hW, bd_s, iw, if_neg (by decide), if_pos rfl, if_pos (by rw [h19, cf]; rfl)]
        exact odds_x h t10 hS
    · have cf1 : f = 1 := by omega
      refine ⟨Re_blame σ 5, 1, by omega, ?_, ?_⟩
      · unfold ST_take_L8
        rw [if_neg e900, ht, bd_s, if_neg k0, bd_s, if_pos k10, cf1, if_neg (by decide)]
        congr 1; funext r s
        unfold ST_take_J48_8 STk
        rw [nI_1, bnd_x]; rfl
      · unfold Mo_systemPart
        rw [hW, bd_s, iw, if_neg (by decide), if_pos rfl, if_neg (by rw [h19, cf1]; decide)]
        exact blame_r h (p := 5) (by omega) (by omega)
  · have k10 : ¬ nI (kC bt n (ts bt n k)) = 10 := fun q => t10 ((eq 10 (by omega)).mp q)
    by_cases t11 : kC bt n (ts bt n k) = 11
    · have iw : (if 10 ≤ kC bt n (ts bt n k) then nI (kC bt n (ts bt n k) - 10) else -1) = (1 : Int32) := by rw [t11]; rfl
      have k11 : nI (kC bt n (ts bt n k)) = 11 := (eq 11 (by omega)).mpr t11
      by_cases c12 : c < 12
      · refine ⟨ST_takeClass σ 11, f, hf, ?_, ?_⟩
        · unfold ST_take_L8
          rw [if_neg e900, ht, bd_s, if_neg k0, bd_s, if_neg k10, bd_s, if_pos k11, hS.1.1, if_pos (show nI c < 12 by rw [show (12 : Int32) = nI 12 from rfl, lt_nI (by omega) (by omega)]; omega)]
          congr 1; funext r s
          unfold STk
          rw [nI_1, bnd_x]
        · unfold Mo_systemPart
          rw [hW, bd_s, iw, if_pos rfl]
          exact RX.ckr (aclass_x h t11 hS c12 h19)
      · have c12' : c = 12 := by omega
        refine ⟨Re_blame σ 6, f, hf, ?_, ?_⟩
        · unfold ST_take_L8
          rw [if_neg e900, ht, bd_s, if_neg k0, bd_s, if_neg k10, bd_s, if_pos k11, hS.1.1, if_neg (show ¬ nI c < 12 by rw [show (12 : Int32) = nI 12 from rfl, lt_nI (by omega) (by omega)]; omega)]
          congr 1; funext r s
          unfold STk
          rw [nI_1, bnd_x]
        · unfold Mo_systemPart
          have hM := hS.2.1
          rw [c12'] at hM
          rw [hW, bd_s, iw, if_pos rfl, aclass_12 hM]
          exact RX.ckr (blame_r h (p := 6) (by omega) (by omega))
    · have k11 : ¬ nI (kC bt n (ts bt n k)) = 11 := fun q => t11 ((eq 11 (by omega)).mp q)
      have d : ∀ p : Nat, p ≤ 1 → ¬ (if 10 ≤ kC bt n (ts bt n k) then nI (kC bt n (ts bt n k) - 10) else -1) = nI p := fun p hp => by
        by_cases e : 10 ≤ kC bt n (ts bt n k)
        · rw [if_pos e, eq_nI (by omega) (by omega)]; omega
        · rw [if_neg e]; exact fun q => nI_m1 (k := p) (by omega) q.symm
      refine ⟨Re_blame σ 2, f, hf, ?_, ?_⟩
      · unfold ST_take_L8
        rw [if_neg e900, ht, bd_s, if_neg k0, bd_s, if_neg k10, bd_s, if_neg k11]
        congr 1; funext r s
        unfold STk
        rw [nI_1, bnd_x]
      · unfold Mo_systemPart
        rw [hW, bd_s, if_neg (show ¬ (if 10 ≤ kC bt n (ts bt n k) then nI (kC bt n (ts bt n k) - 10) else -1) = (1 : Int32) from d 1 (by omega)), if_neg (show ¬ (if 10 ≤ kC bt n (ts bt n k) then nI (kC bt n (ts bt n k) - 10) else -1) = (0 : Int32) from d 0 (by omega))]
        exact blame_r h (p := 2) (by omega) (by omega)
/-- both loops, side by side -/
theorem sysLoop : ∀ (d k : Nat) (σ τ : St) (f y F1 F2 : Nat), nT bt n - k ≤ d → PK τ0 σ τ bt n k → (∃ (c od on : Nat) (rs md nm : Nat → Nat), SY σ τ c od on rs md nm) → f ≤ 1 → τ.1 92 19 = nI f → y ≤ k → d + 2 ≤ F1 → d + 2 ≤ F2 → (∃ σ' τ', iter (fun s : (Int32 × Int32 × St) => ST_take_L8 11 s.2.2 s.1 s.2.1) F1 (nI f, nI y, σ) = some (1, σ') ∧ iter (fun s : (Int32 × St) => Mo_system_L31 s.2 s.1) F2 (1, τ) = some τ' ∧ (∃ k', PK τ0 σ' τ' bt n k') ∧ ∃ (c od on : Nat) (rs md nm : Nat → Nat), SY σ' τ' c od on rs md nm) ∨ (∃ σ' τ', iter (fun s : (Int32 × Int32 × St) => ST_take_L8 11 s.2.2 s.1 s.2.1) F1 (nI f, nI y, σ) = some (0, σ') ∧ iter (fun s : (Int32 × St) => Mo_system_L31 s.2 s.1) F2 (1, τ) = some τ' ∧ FL τ0 σ' τ')
  | d, k, σ, τ, f, y, F1, F2, hd, h, hSe, hf, h19, hy, hF1, hF2 => by
    obtain ⟨G1, rfl⟩ : ∃ G, F1 = G + 1 := ⟨F1 - 1, by omega⟩
    obtain ⟨G2, rfl⟩ : ∃ G, F2 = G + 1 := ⟨F2 - 1, by omega⟩
    by_cases z : kC bt n (ts bt n k) = 0
    · left
      refine ⟨σ, τ, ?_, ?_, ⟨k, h⟩, hSe⟩
      · refine iter_exit ?_
        show ST_take_L8 11 σ (nI f) (nI y) = _
        have hl := h.1.lt
        unfold ST_take_L8
        rw [if_neg (show ¬ (900 : Int32) < nI y by rw [show (900 : Int32) = nI 900 from rfl, lt_nI (by omega) (by omega)]; omega), token_n h.1, bd_s, z, if_pos (by rfl)]
      · refine iter_exit ?_
        show Mo_system_L31 τ 1 = _
        unfold Mo_system_L31
        rw [if_neg (by decide), if_pos (h.2.1.r.1.mpr z)]
    · have hS := hSe
      obtain ⟨c, od, on, rs, md, nm, hS⟩ := hS
      obtain ⟨X, f', f1, b1, b2⟩ := part_x h z hS hf h19 hy
      have m0 : Mo_system_L31 τ 1 = bd2 (Mo_systemPart τ) (fun r s => some (.inl (r, s))) := by
        unfold Mo_system_L31
        rw [if_neg (by decide), if_neg (fun q => z (h.2.1.r.1.mp q))]
      have hlt := h.1.go z
      rcases b2 with ⟨σ1, τ1, e1, e2, k', k1, k2, k3, k4⟩ | ⟨σ1, τ1, e1, e2, e3⟩
      · have s1 : iter (fun s : (Int32 × Int32 × St) => ST_take_L8 11 s.2.2 s.1 s.2.1) (G1 + 1) (nI f, nI y, σ) = iter (fun s : (Int32 × Int32 × St) => ST_take_L8 11 s.2.2 s.1 s.2.1) G1 (nI f', nI (y + 1), σ1) := by
          refine iter_step ?_
          show ST_take_L8 11 σ (nI f) (nI y) = _
          rw [b1, e1, bd2_s]
          unfold STk
          rw [if_neg (by decide)]
        have s2 : iter (fun s : (Int32 × St) => Mo_system_L31 s.2 s.1) (G2 + 1) (1, τ) = iter (fun s : (Int32 × St) => Mo_system_L31 s.2 s.1) G2 (1, τ1) := by
          refine iter_step ?_
          show Mo_system_L31 τ 1 = _
          rw [m0, e2, bd2_s]
        rw [s1, s2]
        exact sysLoop (d - 1) k' σ1 τ1 f' (y + 1) G1 G2 (by omega) k2 k3 f1 k4 (by omega) (by omega) (by omega)
      · right
        refine ⟨σ1, τ1, ?_, ?_, e3⟩
        · refine iter_exit ?_
          show ST_take_L8 11 σ (nI f) (nI y) = _
          rw [b1, e1, bd2_s]
          unfold STk
          rw [if_pos rfl]
        · obtain ⟨G3, rfl⟩ : ∃ G, G2 = G + 1 := ⟨G2 - 1, by omega⟩
          have s2 : iter (fun s : (Int32 × St) => Mo_system_L31 s.2 s.1) (G3 + 1 + 1) (1, τ) = iter (fun s : (Int32 × St) => Mo_system_L31 s.2 s.1) (G3 + 1) (0, τ1) := by
            refine iter_step ?_
            show Mo_system_L31 τ 1 = _
            rw [m0, e2, bd2_s]
          rw [s2]
          refine iter_exit ?_
          show Mo_system_L31 τ1 0 = _
          unfold Mo_system_L31
          rw [if_pos rfl]
  termination_by d => d
  decreasing_by omega
end SYL
