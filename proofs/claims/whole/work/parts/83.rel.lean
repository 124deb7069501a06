/-! class and reference side by side at the k-th token -/
def PC (σ : St) (bt : Nat → Nat) (n k : Nat) : Prop := n ≤ 900 ∧ TT σ bt n (nT bt n + 1) ∧ σ.1 2 6 = nI (nT bt n + 1) ∧ k ≤ nT bt n ∧ σ.1 2 7 = nI k ∧ σ.1 2 9 = 0 ∧ σ.1 2 10 = -1
/-- what the reference may change -/
def AM (a j : Nat) : Prop := (a = 92 ∧ (j = 2 ∨ (10 ≤ j ∧ j ≤ 36))) ∨ (98 ≤ a ∧ a ≤ 109) ∨ (a = 93 ∧ 1616 ≤ j) ∨ (a = 94 ∧ 48 ≤ j)
def PM (τ0 τ : St) (bt : Nat → Nat) (n k : Nat) : Prop := TkM τ bt n (ts bt n k) ∧ τ.1 92 18 = 0 ∧ τ.1 92 17 = -1 ∧ Fp AM τ0 τ ∧ τ.1 92 10 = 0
def PK (τ0 σ τ : St) (bt : Nat → Nat) (n k : Nat) : Prop := PC σ bt n k ∧ PM τ0 τ bt n k
def FL (τ0 σ τ : St) : Prop := ∃ e, 1 ≤ e ∧ e ≤ 7 ∧ σ.1 2 9 = nI e ∧ τ.1 92 18 = nI e ∧ σ.1 2 10 = τ.1 92 17 ∧ Fp AM τ0 τ ∧ τ.1 92 10 = 0
def RX (τ0 : St) (P : St → St → Prop) (x y : Option (Int32 × St)) : Prop := (∃ σ τ, x = some (1, σ) ∧ y = some (1, τ) ∧ P σ τ) ∨ ∃ σ τ, x = some (0, σ) ∧ y = some (0, τ) ∧ FL τ0 σ τ
theorem A4_M {a j : Nat} (h : A4 a j) : AM a j := by unfold A4 at h; unfold AM; omega
def C2 (a _ : Nat) : Prop := a = 2
theorem kz0 : ckz 0 = true := by decide
theorem kz1 : ckz 1 = true := by decide
section REL
variable {n : Nat} {bt : Nat → Nat} {τ0 σ τ : St} {k : Nat}
theorem PC.tok (h : PC σ bt n k) : σ.1 4 k = nI (kC bt n (ts bt n k)) ∧ σ.1 5 k = nI (ts bt n k) ∧ σ.2 6 k = vC bt n (ts bt n k) := h.2.1 k (by have := h.2.2.2.1; omega)
theorem PC.lt (h : PC σ bt n k) : k ≤ 900 := by
  have := (nT_p (n := n) (bt := bt)).1
  have := h.1
  have := h.2.2.2.1
  omega
theorem PC.go (h : PC σ bt n k) (hk : ¬ kC bt n (ts bt n k) = 0) : k < nT bt n := by
  have t2 := (nT_p (n := n) (bt := bt)).2.1
  have := h.2.2.2.1
  have q := (kC_r bt n (ts bt n k)).2.2.2
  rcases Nat.lt_or_eq_of_le this with c | c
  · exact c
  · rw [c, t2] at q hk
    exact absurd (q.mpr (Nat.lt_irrefl _)) hk
theorem token_n (h : PC σ bt n k) : Re_token σ = some (nI (kC bt n (ts bt n k))) := by
  have hk := h.lt
  unfold Re_token
  rw [h.2.2.2.2.1, ix_nI (by omega) (by omega), chk_true, tn_nI (by omega), h.tok.1]
theorem value_n (h : PC σ bt n k) : Re_value σ = some (vC bt n (ts bt n k)) := by
  have hk := h.lt
  unfold Re_value
  rw [h.2.2.2.2.1, ix_nI (by omega) (by omega), chk_true, tn_nI (by omega), h.tok.2.2]
theorem step_c (h : PC σ bt n k) (hk : k < nT bt n) : ∃ σ', Re_step σ = some σ' ∧ PC σ' bt n (k + 1) ∧ Fp C2 σ σ' := by
  have hl := h.lt
  have ht := (nT_p (n := n) (bt := bt)).1
  obtain ⟨h0, h1, h2, h3, h4, h5, h6⟩ := h
  refine ⟨wI σ 2 7 (nI (k + 1)), ?_, ⟨h0, fun j hj => ?_, ?_, hk, wI_s, ?_, ?_⟩, Fp.wI (A := C2) (Fp.rf (A := C2)) rfl⟩
  · unfold Re_step
    rw [h2, h4, nI_1, if_neg (by rw [le_nI (by omega) (by omega)]; omega), bnd_x]
  · rw [wI_ne (by omega), wI_ne (by omega)]; exact h1 j hj
  · rw [wI_ne (by omega)]; exact h2
  · rw [wI_ne (by omega)]; exact h5
  · rw [wI_ne (by omega)]; exact h6
theorem ahead_m (h : PM τ0 τ bt n k) : ∃ τ', Mo_ahead τ = some τ' ∧ PM τ0 τ' bt n (k + 1) ∧ Fp A4 τ τ' := by
  obtain ⟨⟨hX, hs, h12, h13, h14, h15⟩, h18, h17, hF, h10⟩ := h
  obtain ⟨ρ, r1, r2, r3⟩ := aheadN hX (tkE_le hs) h14
  exact ⟨ρ, r1, ⟨r2, (r3.i (by unfold A4; omega)).trans h18, (r3.i (by unfold A4; omega)).trans h17, hF.tr (r3.mono (fun a j q => A4_M q)), (r3.i (by unfold A4; omega)).trans h10⟩, r3⟩
theorem PC.kp {A : Nat → Nat → Prop} {σ' : St} (h : PC σ bt n k) (F : Fp A σ σ') (hA : ∀ i, ¬ A 4 i ∧ ¬ A 5 i ∧ ¬ A 6 i) (h2 : ¬ A 2 6 ∧ ¬ A 2 7 ∧ ¬ A 2 9 ∧ ¬ A 2 10) : PC σ' bt n k := by
  obtain ⟨g0, g1, g2, g3, g4, g5, g6⟩ := h
  refine ⟨g0, fun j hj => ?_, (F.i h2.1).trans g2, g3, (F.i h2.2.1).trans g4, (F.i h2.2.2.1).trans g5, (F.i h2.2.2.2).trans g6⟩
  rw [F.i (hA j).1, F.i (hA j).2.1, F.l (hA j).2.2]; exact g1 j hj
theorem PM.kp {A : Nat → Nat → Prop} {τ' : St} (h : PM τ0 τ bt n k) (F : Fp A τ τ') (hA : ∀ i, ¬ A 99 i) (h2 : ∀ i, 10 ≤ i → i ≤ 18 → ¬ A 92 i) (hS : ∀ a j, A a j → AM a j) : PM τ0 τ' bt n k := by
  obtain ⟨⟨hX, hs, h12, h13, h14, h15⟩, h18, h17, hF, h10⟩ := h
  exact ⟨⟨hX.k F ⟨h2 11 (by omega) (by omega), hA⟩, hs, (F.i (h2 12 (by omega) (by omega))).trans h12, (F.i (h2 13 (by omega) (by omega))).trans h13, (F.i (h2 14 (by omega) (by omega))).trans h14, fun q => (F.i (h2 15 (by omega) (by omega))).trans (h15 q)⟩, (F.i (h2 18 (by omega) (by omega))).trans h18, (F.i (h2 17 (by omega) (by omega))).trans h17, hF.tr (F.mono hS), (F.i (h2 10 (by omega) (by omega))).trans h10⟩
theorem blame_n (h : PK τ0 σ τ bt n k) {p : Nat} (h2 : 2 ≤ p) (h7 : p ≤ 7) : ∃ σ' τ', Re_blame σ (nI p) = some (0, σ') ∧ Mo_fails τ (nI p) = some (0, τ') ∧ FL τ0 σ' τ' := by
  obtain ⟨hc, hm, m18, m17, hF, m10⟩ := h
  have hl := hc.lt
  obtain ⟨t1, t2, t3⟩ := hc.tok
  have h27 := hc.2.2.2.2.1
  have hr := hm.r.2.1
  have h13 := hm.2.2.2.1
  have hkl := (kC_lt bt n (ts bt n k)).1
  have hJ : ∀ e : Nat, Re_blame_J19 σ (nI e) = some (0, wI (wI σ 2 9 (nI e)) 2 10 (nI (ts bt n k))) := fun e => by
    have e1 : (wI σ 2 9 (nI e)).1 2 7 = nI k := (wI_ne (by omega)).trans h27
    have e2 : (wI σ 2 9 (nI e)).1 5 k = nI (ts bt n k) := (wI_ne (by omega)).trans t2
    unfold Re_blame_J19
    rw [bnd_x, e1, ix_nI (by omega) (by omega), chk_true, tn_nI (by omega), e2, bnd_x]
  have hM : ∀ e : Nat, (wI τ 92 18 (nI e)).1 92 13 = nI (ts bt n k) := fun e => (wI_ne (by omega)).trans h13
  have key : ∀ e : Nat, 1 ≤ e → e ≤ 7 → FL τ0 (wI (wI σ 2 9 (nI e)) 2 10 (nI (ts bt n k))) (wI (wI τ 92 18 (nI e)) 92 17 (nI (ts bt n k))) := fun e e1 e2 => ⟨e, e1, e2, (wI_ne (by omega)).trans wI_s, (wI_ne (by omega)).trans wI_s, wI_s.trans wI_s.symm, Fp.wI (A := AM) (Fp.wI (A := AM) hF (by unfold AM; omega)) (by unfold AM; omega), (wI_ne (by omega)).trans ((wI_ne (by omega)).trans m10)⟩
  by_cases c : kC bt n (ts bt n k) = 1
  · refine ⟨_, _, ?_, ?_, key 1 (by omega) (by omega)⟩
    · unfold Re_blame
      rw [h27, ix_nI (by omega) (by omega), chk_true, tn_nI (by omega), t1, c, if_pos (show nI 1 = 1 from rfl)]; exact hJ 1
    · unfold Mo_fails
      rw [if_pos m18, if_pos (hr.mpr c), bnd_x, show (1 : Int32) = nI 1 from rfl, hM 1, bnd_x]
  · refine ⟨_, _, ?_, ?_, key p (by omega) (by omega)⟩
    · unfold Re_blame
      rw [h27, ix_nI (by omega) (by omega), chk_true, tn_nI (by omega), t1, if_neg (show ¬ nI (kC bt n (ts bt n k)) = 1 from fun q => c (by rw [show (1 : Int32) = nI 1 from rfl, eq_nI (by omega) (by omega)] at q; exact q)), hJ p]
    · unfold Mo_fails
      rw [if_pos m18, if_neg (fun q => c (hr.mp q)), bnd_x, hM p, bnd_x]
/-- a fault on both sides -/
theorem blame_x {P : St → St → Prop} (h : PK τ0 σ τ bt n k) {p : Nat} (h2 : 2 ≤ p) (h7 : p ≤ 7) : RX τ0 P (bd2 (Re_blame σ (nI p)) (fun r s => chk (ckz r) (some (r, s)))) (bd2 (Mo_fails τ (nI p)) (fun r s => chk (ckz r) (some (r, s)))) := by
  obtain ⟨σ', τ', e1, e2, e3⟩ := blame_n h h2 h7
  refine Or.inr ⟨σ', τ', ?_, ?_, e3⟩
  · rw [e1, bd2_s, kz0, chk_true]
  · rw [e2, bd2_s, kz0, chk_true]
theorem RX.ck {P : St → St → Prop} {x y : Option (Int32 × St)} (h : RX τ0 P x y) : RX τ0 P (bd2 x (fun r s => chk (ckz r) (some (r, s)))) (bd2 y (fun r s => chk (ckz r) (some (r, s)))) := by
  rcases h with ⟨σ, τ, e1, e2, e3⟩ | ⟨σ, τ, e1, e2, e3⟩
  · left
    exact ⟨σ, τ, by rw [e1, bd2_s, kz1, chk_true], by rw [e2, bd2_s, kz1, chk_true], e3⟩
  · right
    exact ⟨σ, τ, by rw [e1, bd2_s, kz0, chk_true], by rw [e2, bd2_s, kz0, chk_true], e3⟩
theorem RX.ckl {P : St → St → Prop} {x y : Option (Int32 × St)} (h : RX τ0 P x y) : RX τ0 P (bd2 x (fun r s => chk (ckz r) (some (r, s)))) y := by
  rcases h with ⟨σ, τ, e1, e2, e3⟩ | ⟨σ, τ, e1, e2, e3⟩
  · left
    exact ⟨σ, τ, by rw [e1, bd2_s, kz1, chk_true], e2, e3⟩
  · right
    exact ⟨σ, τ, by rw [e1, bd2_s, kz0, chk_true], e2, e3⟩
theorem RX.mono {P Q : St → St → Prop} {x y : Option (Int32 × St)} (h : RX τ0 P x y) (hPQ : ∀ σ τ, P σ τ → Q σ τ) : RX τ0 Q x y := by
  rcases h with ⟨σ, τ, e1, e2, e3⟩ | ⟨σ, τ, e1, e2, e3⟩
  · exact Or.inl ⟨σ, τ, e1, e2, hPQ _ _ e3⟩
  · exact Or.inr ⟨σ, τ, e1, e2, e3⟩
/-- one after another, each only if the one before went well -/
theorem RX.sq {P Q : St → St → Prop} {x y : Option (Int32 × St)} {f g : St → Option (Int32 × St)} (h : RX τ0 P x y) (hPQ : ∀ σ τ, P σ τ → RX τ0 Q (f σ) (g τ)) : RX τ0 Q (bd2 x (fun r s => if r = 0 then some (0, s) else f s)) (bd2 y (fun r s => if r = 0 then some (0, s) else g s)) := by
  rcases h with ⟨σ, τ, e1, e2, e3⟩ | ⟨σ, τ, e1, e2, e3⟩
  · rw [e1, e2, bd2_s, bd2_s, if_neg (by decide), if_neg (by decide)]
    exact hPQ _ _ e3
  · rw [e1, e2, bd2_s, bd2_s, if_pos rfl, if_pos rfl]
    exact Or.inr ⟨σ, τ, rfl, rfl, e3⟩
theorem RX.one {P : St → St → Prop} {σ τ : St} (h : P σ τ) : RX τ0 P (some (1, σ)) (some (1, τ)) := Or.inl ⟨σ, τ, rfl, rfl, h⟩
/-- what a step leaves: the next token, and nothing changed but the reader's own -/
def Nx (τ0 : St) (bt : Nat → Nat) (n k : Nat) (σ τ σ' τ' : St) : Prop := PK τ0 σ' τ' bt n (k + 1) ∧ Fp C2 σ σ' ∧ Fp A4 τ τ'
theorem step_n (h : PK τ0 σ τ bt n k) (hk : ¬ kC bt n (ts bt n k) = 0) : ∃ σ' τ', Re_step σ = some σ' ∧ Mo_ahead τ = some τ' ∧ Nx τ0 bt n k σ τ σ' τ' := by
  obtain ⟨σ', a1, a2, a3⟩ := step_c h.1 (h.1.go hk)
  obtain ⟨τ', b1, b2, b3⟩ := ahead_m h.2
  exact ⟨σ', τ', a1, b1, ⟨a2, b2⟩, a3, b3⟩
theorem step_x (h : PK τ0 σ τ bt n k) (hk : ¬ kC bt n (ts bt n k) = 0) : RX τ0 (Nx τ0 bt n k σ τ) (bd (Re_step σ) (fun s => some (1, s))) (bd (Mo_ahead τ) (fun s => some (1, s))) := by
  obtain ⟨σ', τ', a1, a2, a3⟩ := step_n h hk
  exact Or.inl ⟨σ', τ', by rw [a1, bd_s], by rw [a2, bd_s], a3⟩
theorem take_c (h : PC σ bt n k) {p : Nat} (hp : p < 26) : Re_take σ (nI p) = if kC bt n (ts bt n k) = p then bd (Re_step σ) (fun s => some (1, s)) else bd2 (Re_blame σ 2) (fun r s => chk (ckz r) (some (r, s))) := by
  have hl := h.lt
  have hkl := (kC_lt bt n (ts bt n k)).1
  unfold Re_take
  rw [h.2.2.2.2.1, ix_nI (by omega) (by omega), chk_true, tn_nI (by omega), h.tok.1]
  by_cases c : kC bt n (ts bt n k) = p
  · rw [if_pos c, if_pos (by rw [c])]
  · rw [if_neg c, if_neg (by rw [eq_nI (by omega) (by omega)]; exact c)]
theorem takeS (h : PK τ0 σ τ bt n k) : RX τ0 (Nx τ0 bt n k σ τ) (Re_take σ 5) (Mo_wantSign τ 59) := by
  have hc := take_c h.1 (p := 5) (by omega)
  have hm := isSign_n h.2.1 (c := 59) (d := 5) (by omega)
  rw [show (5 : Int32) = nI 5 from rfl, hc]
  unfold Mo_wantSign
  rw [show (59 : Int32) = nI 59 from rfl, hm, bd_s]
  by_cases c : kC bt n (ts bt n k) = 5
  · rw [if_pos c, if_pos c, if_neg (by decide)]
    exact step_x h (by omega)
  · rw [if_neg c, if_neg c, if_pos rfl]
    exact blame_x h (p := 2) (by omega) (by omega)
theorem takeW (h : PK τ0 σ τ bt n k) {i : Nat} (hi : i < 16) : RX τ0 (Nx τ0 bt n k σ τ) (Re_take σ (nI (10 + i))) (Mo_wantWord τ (nI i)) := by
  have hc := take_c h.1 (p := 10 + i) (by omega)
  have hm := inW h.2.1
  have hkl := (kC_lt bt n (ts bt n k)).1
  rw [hc]
  unfold Mo_wantWord
  rw [hm, bd_s]
  by_cases c : kC bt n (ts bt n k) = 10 + i
  · rw [if_pos c, if_pos (show (if 10 ≤ kC bt n (ts bt n k) then nI (kC bt n (ts bt n k) - 10) else -1) = nI i by rw [if_pos (by omega), c, Nat.add_sub_cancel_left])]
    exact step_x h (by omega)
  · have d : ¬ (if 10 ≤ kC bt n (ts bt n k) then nI (kC bt n (ts bt n k) - 10) else -1) = nI i := by
      by_cases e : 10 ≤ kC bt n (ts bt n k)
      · rw [if_pos e, eq_nI (by omega) (by omega)]; omega
      · rw [if_neg e]; exact fun q => nI_m1 (k := i) (by omega) q.symm
    rw [if_neg c, if_neg d]
    exact blame_x h (p := 2) (by omega) (by omega)
theorem within_l {v lo hi : Nat} (hv : v ≤ 9999) (hlo : lo ≤ 9999) (hhi : hi ≤ 9999) : RC_within (lN v) (nI lo).toInt64 (nI hi).toInt64 = some (if v < lo then 0 else if v ≤ hi then 1 else 0) := by
  unfold RC_within
  rw [nI_l (by omega), nI_l (by omega)]
  by_cases c : v < lo
  · rw [if_pos c, if_pos ((lN_lt (by omega) (by omega)).mpr c)]
  · rw [if_neg c, if_neg (fun q => c ((lN_lt (by omega) (by omega)).mp q))]
    by_cases d : v ≤ hi
    · rw [if_pos d, if_neg (fun q => by have := (lN_lt (by omega) (by omega)).mp q; omega)]
    · rw [if_neg d, if_pos ((lN_lt (by omega) (by omega)).mpr (by omega))]
def A5 (p a j : Nat) : Prop := A4 a j ∨ (a = 93 ∧ j = p)
theorem takeN (h : PK τ0 σ τ bt n k) {p lo hi : Nat} (hp0 : 1616 ≤ p) (hp : p < 2060) (hlo : lo ≤ 9999) (hhi : hi ≤ 9999) : RX τ0 (fun σ' τ' => PK τ0 σ' τ' bt n (k + 1) ∧ Fp C2 σ σ' ∧ Fp (A5 p) τ τ' ∧ ∃ v, lo ≤ v ∧ v ≤ hi ∧ σ'.2 2 8 = lN v ∧ τ'.1 93 p = nI v) (Re_takeNumber σ (nI lo) (nI hi)) (Mo_number τ (nI p) (nI lo) (nI hi)) := by
  have hl := h.1.lt
  have hkl := (kC_lt bt n (ts bt n k)).1
  have hr := h.2.1.r.2.2
  unfold Re_takeNumber Mo_number
  rw [h.1.2.2.2.2.1, ix_nI (by omega) (by omega), chk_true, tn_nI (by omega), h.1.tok.1]
  by_cases c : kC bt n (ts bt n k) = 2
  · obtain ⟨v, v1, v2, v3⟩ := num_n h.2.1 c
    rw [c, if_pos (show nI 2 = 2 from rfl), if_pos (hr.mpr c), chk_true, h.1.tok.2.2, v3, within_l v1 hlo hhi, bd_s, v2]
    by_cases d : v < lo
    · rw [if_pos d, if_pos rfl, if_pos (by rw [lt_nI (by omega) (by omega)]; omega)]
      exact blame_x h (p := 4) (by omega) (by omega)
    · rw [if_neg d, if_neg (show ¬ nI v < nI lo by rw [lt_nI (by omega) (by omega)]; exact d)]
      by_cases e : v ≤ hi
      · rw [if_pos e, if_neg (by decide), if_pos (show nI v ≤ nI hi by rw [le_nI (by omega) (by omega)]; exact e), chk_true, bnd_x, ix_nI hp (by omega), chk_true, tn_nI (by omega), bnd_x]
        have F1 : Fp (fun a j => a = 2 ∧ j = 8) σ (wL σ 2 8 (lN v)) := Fp.wL (A := fun a j => a = 2 ∧ j = 8) (Fp.rf (A := fun a j => a = 2 ∧ j = 8)) ⟨rfl, rfl⟩
        have F2 : Fp (fun a j => a = 93 ∧ j = p) τ (wI τ 93 p (nI v)) := Fp.wI (A := fun a j => a = 93 ∧ j = p) (Fp.rf (A := fun a j => a = 93 ∧ j = p)) ⟨rfl, rfl⟩
        have h' : PK τ0 (wL σ 2 8 (lN v)) (wI τ 93 p (nI v)) bt n k := ⟨h.1.kp F1 (fun i => by omega) (by omega), h.2.kp F2 (fun i => by omega) (fun i _ _ => by omega) (fun a j q => by unfold AM; omega)⟩
        obtain ⟨σ', a1, a2, a3⟩ := step_c h'.1 (h'.1.go (by omega))
        obtain ⟨τ', b1, b2, b3⟩ := ahead_m h'.2
        have a4 : Re_step (wL σ 2 8 (lN v)) = some (wI (wL σ 2 8 (lN v)) 2 7 (nI (k + 1))) := by
          have hlt := h'.1.go (by omega)
          have ht := (nT_p (n := n) (bt := bt)).1
          have hn := h.1.1
          unfold Re_step
          rw [h'.1.2.2.1, h'.1.2.2.2.2.1, nI_1, if_neg (by rw [le_nI (by omega) (by omega)]; omega), bnd_x]
        refine Or.inl ⟨σ', τ', by rw [a1, bd_s], by rw [b1, bd_s], ⟨a2, b2⟩, (F1.mono (fun a j q => q.1)).tr a3, (F2.mono (fun a j q => Or.inr q)).tr (b3.mono (fun a j q => Or.inl q)), v, by omega, e, ?_, ?_⟩
        · rw [a4] at a1
          have : wI (wL σ 2 8 (lN v)) 2 7 (nI (k + 1)) = σ' := Option.some.inj a1
          rw [← this]
          rw [wI_2]; exact wL_s
        · exact (b3.i (by unfold A4; omega)).trans wI_s
      · rw [if_neg e, if_pos rfl, if_neg (show ¬ nI v ≤ nI hi by rw [le_nI (by omega) (by omega)]; exact e)]
        exact blame_x h (p := 4) (by omega) (by omega)
  · rw [if_neg (show ¬ nI (kC bt n (ts bt n k)) = 2 by rw [show (2 : Int32) = nI 2 from rfl, eq_nI (by omega) (by omega)]; exact c), if_neg (fun q => c (hr.mp q))]
    exact blame_x h (p := 2) (by omega) (by omega)
end REL
