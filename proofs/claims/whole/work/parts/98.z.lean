/-! the law's loop -/
section LOP
theorem itc {c : Prop} [Decidable c] {A B : Option ((Int32 × St) ⊕ Int32)} {v : Int32} (hA : c → ∃ σ', A = some (.inl (v, σ')) ∧ Inv2 σ') (hB : ¬ c → ∃ σ', B = some (.inl (v, σ')) ∧ Inv2 σ') : ∃ σ', (if c then A else B) = some (.inl (v, σ')) ∧ Inv2 σ' := by
  by_cases h : c
  · rw [if_pos h]; exact hA h
  · rw [if_neg h]; exact hB h
theorem stc {α : Type} [DecidableEq α] {f g : St → Option (α × St)} {σ : St} {v : Int32} (C : Call2 f g σ) : ∃ σ', bd2 (f σ) (fun r s => bd2 (g s) (fun r2 s2 => if r = r2 then (bnd v (fun w => some (.inl (w, s2)))) else (some (.inr 0)))) = (some (.inl (v, σ')) : Option ((Int32 × St) ⊕ Int32)) ∧ Inv2 σ' := by
  obtain ⟨r, σ1, σ2, e1, e2, e3⟩ := C
  refine ⟨σ2, ?_, e3⟩
  rw [e1, bd2_s, e2, bd2_s, if_pos rfl, bnd_x]
theorem stq {α : Type} [DecidableEq α] {f g : Option α} {σ : St} {v : Int32} {r : α} (I : Inv2 σ) (h1 : f = some r) (h2 : g = some r) : ∃ σ', bd f (fun r => bd g (fun r2 => if r = r2 then (bnd v (fun w => some (.inl (w, σ)))) else (some (.inr 0)))) = (some (.inl (v, σ')) : Option ((Int32 × St) ⊕ Int32)) ∧ Inv2 σ' := by
  refine ⟨σ, ?_, I⟩
  rw [h1, bd_s, h2, bd_s, if_pos rfl, bnd_x]
theorem law_6 : ∀ L, L < 6 → (nI L - 6).toInt = (L : Int) - 6 := by decide
theorem law_lt {L x : Nat} (hL : L ≤ 3072) (hx : x ≤ 3100) : (Int32.ofNat L - 6 < nI x) ↔ L < x + 6 := by
  show (nI L - 6 < nI x) ↔ L < x + 6
  by_cases c : L < 6
  · rw [fa_lt, law_6 L c, nI_toInt (by omega)]; omega
  · rw [show (6 : Int32) = nI 6 from rfl, sub_nI (by omega), lt_nI (by omega) (by omega)]; omega
theorem fault_n {σ : St} (I : Inv σ) (p : Int32) : ∃ r, RC_fault σ p = some r ∧ Mo_fault σ p = some r := by
  obtain ⟨f1, f2⟩ := I.2.1
  unfold RC_fault Mo_fault
  rw [f1, f2]
  by_cases h : p = 0
  · rw [if_pos h]; exact ⟨_, rfl, rfl⟩
  · rw [if_neg h]
    by_cases h2 : p = 1
    · rw [if_pos h2]; exact ⟨_, rfl, rfl⟩
    · rw [if_neg h2]; exact ⟨_, rfl, rfl⟩
theorem law_body {Ln : Nat} {xs : Nat → Int32} (hL : Ln ≤ 3072) {σ : St} (I : Inv2 σ) {x : Nat} (hx : x + 6 ≤ Ln) : ∃ σ', LW_law_L18 Ln xs σ (nI x) = some (.inl (nI x + 6, σ')) ∧ Inv2 σ' := by
  have i0 : ix (nI x) Ln = true := ix_nI (by omega) (by omega)
  have i1 : ix (nI x + 1) Ln = true := by rw [nI_1]; exact ix_nI (by omega) (by omega)
  have i2 : ix (nI x + 2) Ln = true := by rw [show (2 : Int32) = nI 2 from rfl, nI_add]; exact ix_nI (by omega) (by omega)
  have i3 : ix (nI x + 3) Ln = true := by rw [show (3 : Int32) = nI 3 from rfl, nI_add]; exact ix_nI (by omega) (by omega)
  have i4 : ix (nI x + 4) Ln = true := by rw [show (4 : Int32) = nI 4 from rfl, nI_add]; exact ix_nI (by omega) (by omega)
  have i5 : ix (nI x + 5) Ln = true := by rw [show (5 : Int32) = nI 5 from rfl, nI_add]; exact ix_nI (by omega) (by omega)
  unfold LW_law_L18
  rw [if_neg (fun y => by have := (law_lt hL (by omega)).mp y; omega), i0, chk_true]
  refine itc (fun _ => ?_) (fun _ => ?_)
  · exact stq I rfl (by unfold Mo_status; rw [← I.1.1.1])
  refine itc (fun _ => ?_) (fun _ => ?_)
  · exact stq I rfl (by unfold Mo_top; rw [← I.1.1.2.1])
  refine itc (fun _ => ?_) (fun _ => ?_)
  · exact stq I rfl (by unfold Mo_bottom; rw [← I.1.1.2.2])
  refine itc (fun _ => ?_) (fun _ => ?_)
  · simp only [i1, i2, i3, chk_true]
    exact stc (c2_tray I _ _ _)
  refine itc (fun _ => ?_) (fun _ => ?_)
  · simp only [i1, i2, i3, i4, chk_true]
    exact stc (c2_write I _ _ _)
  refine itc (fun _ => ?_) (fun _ => ?_)
  · simp only [i1, i2, chk_true]
    exact stc (c2_read I _ _)
  refine itc (fun _ => ?_) (fun _ => ?_)
  · simp only [i1, i2, i3, i4, i5, chk_true]
    exact stc (c2_pour I _ _ _ _ _)
  refine itc (fun _ => ?_) (fun _ => ?_)
  · simp only [i1, i2, i3, i4, i5, chk_true]
    exact stc (c2_feed I _ _ _ _ _)
  refine itc (fun _ => ?_) (fun _ => ?_)
  · simp only [i1, chk_true]
    exact stc (c2_system I _)
  refine itc (fun _ => ?_) (fun _ => ?_)
  · simp only [i1, chk_true]
    exact stc (c2_days I _)
  refine itc (fun _ => ?_) (fun _ => ?_)
  · simp only [i1, chk_true]
    obtain ⟨r, r1, r2⟩ := fault_n I.1 (xs (tn (nI x + 1)))
    exact stq I r1 r2
  refine itc (fun _ => ?_) (fun _ => ?_)
  · simp only [i1, chk_true]
    exact stc (c2_told I _)
  refine itc (fun _ => ?_) (fun _ => ?_)
  · simp only [i1, i2, chk_true]
    exact stc (c2_classOf I _ _)
  refine itc (fun _ => ?_) (fun _ => ?_)
  · simp only [i1, chk_true]
    exact stc (c2_caught I _)
  refine itc (fun _ => ?_) (fun _ => ?_)
  · simp only [i1, chk_true]
    exact stc (c2_tightest I _)
  refine itc (fun _ => ?_) (fun _ => ?_)
  · simp only [i1, chk_true]
    exact stc (c2_turn I _)
  refine itc (fun _ => ?_) (fun _ => ?_)
  · simp only [i1, i2, chk_true]
    exact stc (c2_add I _ _)
  refine itc (fun _ => ?_) (fun _ => ?_)
  · simp only [i1, chk_true]
    exact stc (c2_drop I _)
  refine itc (fun _ => ?_) (fun _ => ?_)
  · simp only [i1, i2, chk_true]
    exact stc (c2_move I _ _)
  refine itc (fun _ => ?_) (fun _ => ?_)
  · simp only [i1, chk_true]
    exact stc (c2_shift I _)
  refine itc (fun _ => ?_) (fun _ => ?_)
  · simp only [i1, chk_true]
    exact stc (c2_spread I _)
  refine itc (fun _ => ?_) (fun _ => ?_)
  · simp only [i1, i2, chk_true]
    exact stc (c2_split I _ _)
  refine itc (fun _ => ?_) (fun _ => ?_)
  · simp only [i1, i2, chk_true]
    exact stc (c2_join I _ _)
  refine itc (fun _ => ?_) (fun _ => ?_)
  · simp only [i1, chk_true]
    exact stc (c2_rule I _)
  refine itc (fun _ => ?_) (fun _ => ?_)
  · simp only [i1, chk_true]
    exact stc (c2_gapAt I _)
  refine itc (fun _ => ?_) (fun _ => ?_)
  · exact stc (c2_gaps I)
  refine itc (fun _ => ?_) (fun _ => ?_)
  · exact stc (c2_weight I)
  refine itc (fun _ => ?_) (fun _ => ?_)
  · simp only [i1, chk_true]
    exact stc (c2_alone I _)
  refine itc (fun _ => ?_) (fun _ => ?_)
  · exact stc (c2_needless I)
  refine itc (fun _ => ?_) (fun _ => ?_)
  · exact stc (c2_fewest I)
  refine itc (fun _ => ?_) (fun _ => ?_)
  · exact stc (c2_fewestSet I)
  refine itc (fun _ => ?_) (fun _ => ?_)
  · simp only [i1, i2, chk_true]
    exact stc (c2_meet I _ _)
  refine itc (fun _ => ?_) (fun _ => ?_)
  · exact stc (c2_thick I)
  refine itc (fun _ => ?_) (fun _ => ?_)
  · exact stc (c2_ask I)
  refine itc (fun _ => ?_) (fun _ => ?_)
  · exact stc (c2_turnsBy I)
  refine itc (fun _ => ?_) (fun _ => ?_)
  · simp only [i1, chk_true]
    exact stc (c2_tree I _)
  refine itc (fun _ => ?_) (fun _ => ?_)
  · simp only [i1, chk_true]
    exact stc (c2_leafOf I _)
  refine itc (fun _ => ?_) (fun _ => ?_)
  · simp only [i1, i2, i3, chk_true]
    exact stc (c2_choices I _ _ _)
  refine itc (fun _ => ?_) (fun _ => ?_)
  · simp only [i1, i2, i3, i4, chk_true]
    exact stc (c2_choiceAt I _ _ _ _)
  refine itc (fun _ => ?_) (fun _ => ?_)
  · simp only [i1, chk_true]
    exact stc (c2_game I _)
  refine itc (fun _ => ?_) (fun _ => ?_)
  · simp only [i1, chk_true]
    exact stc (c2_moveOf I _)
  refine itc (fun _ => ?_) (fun _ => ?_)
  · simp only [i1, i2, chk_true]
    exact stc (c2_uncaught I _ _)
  refine itc (fun _ => ?_) (fun _ => ?_)
  · simp only [i1, chk_true]
    exact stc (c2_copySystem I _)
  refine itc (fun _ => ?_) (fun _ => ?_)
  · simp only [i1, chk_true]
    exact stc (c2_live I _)
  refine itc (fun _ => ?_) (fun _ => ?_)
  · simp only [i1, chk_true]
    exact stc (c2_lived I _)
  refine itc (fun _ => ?_) (fun _ => ?_)
  · simp only [i1, i2, chk_true]
    exact stc (c2_mean I _ _)
  refine itc (fun _ => ?_) (fun _ => ?_)
  · exact stc (c2_mark I)
  refine itc (fun _ => ?_) (fun _ => ?_)
  · exact stc (c2_undo I)
  exact ⟨σ, rfl, I⟩
theorem law_loop {Ln : Nat} {xs : Nat → Int32} (hL : Ln ≤ 3072) {σ : St} (I : Inv2 σ) : iter (fun s : (Int32 × St) => LW_law_L18 Ln xs s.2 s.1) FUEL (0, σ) = some 1 := by
  have key := iter_ix (body := fun s : (Int32 × St) => LW_law_L18 Ln xs s.2 s.1) (fun m s => ∃ x, m = 3100 - x ∧ x ≤ 3078 ∧ s.1 = nI x ∧ Inv2 s.2) (fun e => e = 1) ?_ FUEL 3100 (0, σ) ⟨0, rfl, by omega, rfl, I⟩ (fuel (by omega))
  · obtain ⟨e, b1, b2⟩ := key
    rw [b1, b2]
  · rintro m ⟨_, τ⟩ ⟨x, rfl, hx, rfl, J⟩
    have J : Inv2 τ := J
    by_cases z : Ln < x + 6
    · right
      refine ⟨1, ?_, rfl⟩
      show LW_law_L18 Ln xs τ (nI x) = _
      unfold LW_law_L18
      rw [if_pos ((law_lt hL (by omega)).mpr z)]
    · left
      obtain ⟨σ', e1, e2⟩ := law_body (xs := xs) hL J (x := x) (by omega)
      exact ⟨(nI x + 6, σ'), 3100 - (x + 6), e1, ⟨x + 6, rfl, by omega, by rw [show (6 : Int32) = nI 6 from rfl, nI_add], e2⟩, by omega⟩
theorem ini_ok : ∃ σ1, Mo_plain ini 0 = some σ1 ∧ Inv2 σ1 := by
  obtain ⟨σ1, e1, e2, e3, e4, F⟩ := plain_n (τ := ini) (o := 0) (by omega)
  have ei : ∀ a i, ¬ a = 93 → σ1.1 a i = ini.1 a i := fun a i ha => F.i (by unfold Apl; omega)
  have el : ∀ a i, ¬ a = 93 → σ1.2 a i = ini.2 a i := fun a i ha => F.l (by unfold Apl; omega)
  refine ⟨σ1, e1, ⟨⟨?_, ?_, ?_⟩, ⟨?_, ?_⟩, fun t ht => ?_, ⟨0, by omega, ?_, ?_, fun k hk => absurd hk (Nat.not_lt_zero _)⟩, ⟨0, 4, 0, fun _ => 0, fun _ => 0, fun _ => 0, ⟨?_, ?_, ?_, fun k hk => absurd hk (Nat.not_lt_zero _), fun k hk => absurd hk (Nat.not_lt_zero _), fun k hk => absurd hk (Nat.not_lt_zero _)⟩, ⟨?_, ?_, fun k hk => absurd hk (Nat.not_lt_zero _), fun k hk => absurd hk (Nat.not_lt_zero _), fun k hk => absurd hk (Nat.not_lt_zero _), fun k hk => absurd hk (Nat.not_lt_zero _)⟩, ⟨by omega, by omega, by decide, fun k hk => absurd hk (Nat.not_lt_zero _), fun k hk => absurd hk (Nat.not_lt_zero _)⟩⟩, Or.inl ⟨?_, ?_⟩, ⟨?_, fun y => ?_⟩, ⟨0, by omega, ?_, ?_, fun k hk => absurd hk (Nat.not_lt_zero _)⟩⟩, fun w hw => ?_, fun k => ?_⟩
  · rw [ei _ _ (by omega), ei _ _ (by omega)]; rfl
  · rw [el _ _ (by omega), el _ _ (by omega)]; rfl
  · rw [el _ _ (by omega), el _ _ (by omega)]; rfl
  · rw [ei _ _ (by omega), ei _ _ (by omega)]; rfl
  · rw [ei _ _ (by omega), ei _ _ (by omega)]; rfl
  · rw [ei (51 + 2 * t) 1 (by omega), ei (51 + 2 * t) 2 (by omega), ei 95 t (by omega), ei 96 t (by omega)]
    rcases (show t = 0 ∨ t = 1 ∨ t = 2 ∨ t = 3 by omega) with rfl | rfl | rfl | rfl
    · exact ⟨rfl, rfl, Or.inl rfl⟩
    · exact ⟨rfl, rfl, Or.inl rfl⟩
    · exact ⟨rfl, rfl, Or.inl rfl⟩
    · exact ⟨rfl, rfl, Or.inl rfl⟩
  · rw [ei _ _ (by omega)]; rfl
  · rw [ei _ _ (by omega)]; rfl
  · rw [ei _ _ (by omega)]; rfl
  · rw [ei _ _ (by omega)]; rfl
  · rw [ei _ _ (by omega)]; rfl
  · exact e2 0 (by omega) (by omega) (by omega)
  · exact e3
  · rw [ei _ _ (by omega)]; rfl
  · exact e4
  · rw [ei _ _ (by omega), ei _ _ (by omega)]; rfl
  · exact absurd (show σ1.1 92 37 = 0 by rw [ei _ _ (by omega)]; rfl) y
  · rw [ei _ _ (by omega)]; rfl
  · rw [ei _ _ (by omega)]; rfl
  · rw [el _ _ (by omega)]; rfl
  · rw [ei _ _ (by omega)]; rfl
theorem pure_ok (Ln : Nat) (xs : Nat → Int32) (hL : Ln ≤ 3072) : ∃ σ1, Mo_plain ini 0 = some σ1 ∧ iter (fun s : (Int32 × St) => LW_law_L18 Ln xs s.2 s.1) FUEL (0, σ1) = some 1 := by
  obtain ⟨σ1, e1, e2⟩ := ini_ok
  exact ⟨σ1, e1, law_loop hL e2⟩
theorem whole_start {p : Program} {e : Env} {s : State} {m : MethodId} {below : List Frame} {meth : Method} {c : Code} (l : Launch) (_ : l.flags = flags0) {b L : Nat} {xs : Nat → Int32} (hL : L ≤ 3072) (C0 : lw_At p s m meth c b L xs) : W p l e room_1 s m #[Value.ref b] below meth c s.heap [] 0 0 (lw_Z below #[Value.ref b] s) (entryFrame m ([Value.ref b] : List Value).toArray 4) := start_of pure_ok l hL C0
end LOP
