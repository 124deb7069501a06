/-! days as a text: who, sign, test -/
section WHO
variable {n : Nat} {bt : Nat → Nat} {τ0 σ τ : St} {k : Nat} {c od on : Nat} {rs md nm : Nat → Nat}
def Cr (m a j : Nat) : Prop := a = 2 ∨ (24 ≤ a ∧ a ≤ 26 ∧ j = m)
def Br (P a j : Nat) : Prop := A4 a j ∨ (a = 93 ∧ P ≤ j ∧ j < P + 6)
theorem Br_M {P a j : Nat} (hP : 1616 ≤ P) (h : Br P a j) : AM a j := by
  unfold Br A4 at h; unfold AM; omega
theorem MV.t0 {o q : Nat} (hM : MV τ0 o q c od on rs md nm) (ho : o + 404 ≤ 1616) (hq : q + 12 ≤ 48) (w : WF c od on rs md nm) (F : Fp AM τ0 τ) : MV τ o q c od on rs md nm := hM.keep2 w.1 (fun i hi => F.i (by unfold AM; omega)) (fun i hi => F.l (by unfold AM; omega))
theorem who_x (h : PK τ0 σ τ bt n k) (hC : CV σ 7 c od on rs md nm) (hM : MV τ0 0 0 c od on rs md nm) (w : WF c od on rs md nm) {m P p : Nat} (hm : m < 60) (hP : 1616 ≤ P) (hp : P ≤ p) (hp2 : p < P + 6) (hP2 : P + 6 ≤ 2060) : RX τ0 (fun σ' τ' => PK τ0 σ' τ' bt n (k + 1) ∧ Fp (Cr m) σ σ' ∧ Fp (Br P) τ τ' ∧ ∃ x, x < c ∧ σ'.1 26 m = nI x ∧ τ'.1 93 p = nI x ∧ σ'.1 24 m = σ.1 24 m ∧ τ'.1 93 P = (if p = P then nI x else τ.1 93 P)) (DT_takeWho σ 7 22 (nI m)) (Mo_classTo τ (nI p)) := by
  have hc := w.1
  have hkl := (kC_lt bt n (ts bt n k)).1
  have hMt := hM.t0 (by omega) (by omega) w h.2.2.2.2.1
  unfold DT_takeWho Mo_classTo
  rw [token_n h.1, bd_s, isName_n h.2.1, bd_s]
  by_cases t3 : kC bt n (ts bt n k) = 3
  · obtain ⟨x, x1, x2, x3⟩ := name_n h.2.1 t3
    have hfm := findMo (q := 0) hMt w (by omega) x1 x3
    have hle := fN_le nm c x
    rw [if_pos (show nI (kC bt n (ts bt n k)) = 3 by rw [t3]; rfl), if_pos t3, if_neg (by decide), value_n h.1, bd_s, x2, findCl hC w x1, bd_s, ix00, chk_true, tn00, hMt.1, show (0 : Int32) = nI 0 from rfl, hfm, bd_s, ix_nI (by omega) (by omega), chk_true, tn_nI (by omega), bnd_x, ix_nI (by omega) (by omega), chk_true, tn_nI (by omega), bnd_x, chk_true, wI_s]
    by_cases fd : fN nm c x < c
    · have F1 : Fp (fun a j => a = 26 ∧ j = m) σ (wI σ 26 m (nI (fN nm c x))) := Fp.wI (A := fun a j => a = 26 ∧ j = m) (Fp.rf (A := fun a j => a = 26 ∧ j = m)) ⟨rfl, rfl⟩
      have F2 : Fp (fun a j => a = 93 ∧ j = p) τ (wI τ 93 p (nI (fN nm c x))) := Fp.wI (A := fun a j => a = 93 ∧ j = p) (Fp.rf (A := fun a j => a = 93 ∧ j = p)) ⟨rfl, rfl⟩
      have h1 : PK τ0 (wI σ 26 m (nI (fN nm c x))) (wI τ 93 p (nI (fN nm c x))) bt n k := ⟨h.1.kp F1 (fun i => by omega) (by omega), h.2.kp F2 (fun i => by omega) (fun i _ _ => by omega) (fun a j q => by unfold AM; omega)⟩
      obtain ⟨σ1, τ1, a1, a2, a3, a4, a5⟩ := step_n h1 (by omega)
      rw [if_pos fd, if_neg (nI_m1 (by omega)), if_neg (nI_m1 (by omega)), a1, bd_s, a2, bd_s]
      refine RX.one ⟨a3, (F1.mono (fun a j q => by unfold Cr; omega)).tr (a4.mono (fun a j q => by unfold C2 at q; unfold Cr; omega)), (F2.mono (fun a j q => Or.inr (by omega))).tr (a5.mono (fun a j q => Or.inl q)), fN nm c x, fd, (a4.i (by unfold C2; omega)).trans wI_s, (a5.i (by unfold A4; omega)).trans wI_s, (a4.i (by unfold C2; omega)).trans (wI_ne (by omega)), ?_⟩
      by_cases e : p = P
      · rw [if_pos e, ← e]; exact (a5.i (by unfold A4; omega)).trans wI_s
      · rw [if_neg e]; exact (a5.i (by unfold A4; omega)).trans (wI_ne (by omega))
    · have F2 : Fp (fun a j => a = 93 ∧ j = p) τ (wI τ 93 p (-1)) := Fp.wI (A := fun a j => a = 93 ∧ j = p) (Fp.rf (A := fun a j => a = 93 ∧ j = p)) ⟨rfl, rfl⟩
      have h1 : PK τ0 σ (wI τ 93 p (-1)) bt n k := ⟨h.1, h.2.kp F2 (fun i => by omega) (fun i _ _ => by omega) (fun a j q => by unfold AM; omega)⟩
      rw [if_neg fd, if_pos rfl, if_pos rfl]
      exact blame_x h1 (p := 3) (by omega) (by omega)
  · rw [if_neg (show ¬ nI (kC bt n (ts bt n k)) = 3 by rw [show (3 : Int32) = nI 3 from rfl, eq_nI (by omega) (by omega)]; exact t3), if_neg t3, if_pos rfl]
    exact blame_x h (p := 2) (by omega) (by omega)
/-- the sign of a token -/
theorem sign_v {s : Nat} (h : TkM τ bt n s) {d : Nat} (hd : d = 6 ∨ d = 7 ∨ d = 8) (hk : kC bt n s = d) : τ.1 92 15 = nI (sgM d) := by
  obtain ⟨hX, hs, h12, h13, h14, h15⟩ := h
  rcases tk_cases bt n s with ⟨a1, a2, a3⟩ | ⟨a1, a2, a3, a4, a5⟩ | ⟨a1, a2, a3, a4, a5⟩ | ⟨a1, a2, a3, a4, a5⟩
  · omega
  · omega
  · omega
  · rw [h15 a1, a4]
    rcases hd with rfl | rfl | rfl
    · rw [show bt s = 60 by omega]; rfl
    · rw [show bt s = 62 by omega]; rfl
    · rw [show bt s = 61 by omega]; rfl
/-- sign, then number -/
theorem sgn_x (h : PK τ0 σ τ bt n k) {m P : Nat} (hm : m < 60) (hP : 1616 ≤ P) (hP2 : P + 6 ≤ 2060) : RX τ0 (fun σ' τ' => PK τ0 σ' τ' bt n (k + 2) ∧ Fp (Cr m) σ σ' ∧ Fp (Br P) τ τ' ∧ ∃ sg v, (sg = 6 ∨ sg = 7 ∨ sg = 8) ∧ v ≤ 5040 ∧ σ'.1 25 m = nI sg ∧ τ'.1 93 (P + 5) = nI (sgM sg) ∧ σ'.2 2 8 = lN v ∧ τ'.1 93 (P + 2) = nI v ∧ σ'.1 24 m = σ.1 24 m ∧ τ'.1 93 P = τ.1 93 P) (bd2 (DT_takeSign σ 22 (nI m)) (fun r18 s19 => if r18 = 0 then (some (0, s19)) else (bd2 (Re_takeNumber s19 0 5040) (fun r21 s22 => if r21 = 0 then (some (0, s22)) else (some (1, s22)))))) (bd (Mo_isSign τ 60) (fun r8 => if r8 = 0 then (bd (Mo_isSign τ 62) (fun r18 => if r18 = 0 then (bd (Mo_isSign τ 61) (fun r20 => if r20 = 0 then (bd2 (Mo_fails τ 2) (fun r22 s23 => chk (ckz r22) (some (r22, s23)))) else (Mo_test_J123 τ (nI P)))) else (Mo_test_J123 τ (nI P)))) else (Mo_test_J123 τ (nI P)))) := by
  have hkl := (kC_lt bt n (ts bt n k)).1
  have i6 := isSign_n h.2.1 (c := 60) (d := 6) (by omega)
  have i7 := isSign_n h.2.1 (c := 62) (d := 7) (by omega)
  have i8 := isSign_n h.2.1 (c := 61) (d := 8) (by omega)
  rw [show (60 : Int32) = nI 60 from rfl, show (61 : Int32) = nI 61 from rfl, show (62 : Int32) = nI 62 from rfl, i6, i7, i8, bd_s, bd_s, bd_s]
  have eq : ∀ p : Nat, p < 26 → ((nI (kC bt n (ts bt n k)) = nI p) ↔ kC bt n (ts bt n k) = p) := fun p hp => by rw [eq_nI (by omega) (by omega)]
  by_cases hs : kC bt n (ts bt n k) = 6 ∨ kC bt n (ts bt n k) = 7 ∨ kC bt n (ts bt n k) = 8
  · obtain ⟨d, hd⟩ : ∃ d, d = kC bt n (ts bt n k) := ⟨_, rfl⟩
    rw [← hd] at hs
    have hv := sign_v h.2.1 hs hd.symm
    have hC : DT_takeSign σ 22 (nI m) = bd (Re_step (wI σ 25 m (nI d))) (fun s => some (1, s)) := by
      unfold DT_takeSign
      rw [token_n h.1, bd_s, ← hd, ix_nI (by omega) (by omega), chk_true, tn_nI (by omega), bnd_x]
      rcases hs with rfl | rfl | rfl
      · rw [if_pos (by decide)]
      · rw [if_neg (by decide), if_pos (by decide)]
      · rw [if_neg (by decide), if_neg (by decide), if_pos (by decide)]
    have hMM : (if (if kC bt n (ts bt n k) = 6 then (1 : Int32) else 0) = 0 then (if (if kC bt n (ts bt n k) = 7 then (1 : Int32) else 0) = 0 then (if (if kC bt n (ts bt n k) = 8 then (1 : Int32) else 0) = 0 then (bd2 (Mo_fails τ 2) (fun r22 s23 => chk (ckz r22) (some (r22, s23)))) else (Mo_test_J123 τ (nI P))) else (Mo_test_J123 τ (nI P))) else (Mo_test_J123 τ (nI P))) = Mo_test_J123 τ (nI P) := by
      rw [← hd]
      rcases hs with rfl | rfl | rfl <;> rfl
    rw [hMM, hC]
    have F1 : Fp (fun a j => a = 25 ∧ j = m) σ (wI σ 25 m (nI d)) := Fp.wI (A := fun a j => a = 25 ∧ j = m) (Fp.rf (A := fun a j => a = 25 ∧ j = m)) ⟨rfl, rfl⟩
    have F2 : Fp (fun a j => a = 93 ∧ j = P + 5) τ (wI τ 93 (P + 5) (nI (sgM d))) := Fp.wI (A := fun a j => a = 93 ∧ j = P + 5) (Fp.rf (A := fun a j => a = 93 ∧ j = P + 5)) ⟨rfl, rfl⟩
    have h1 : PK τ0 (wI σ 25 m (nI d)) (wI τ 93 (P + 5) (nI (sgM d))) bt n k := ⟨h.1.kp F1 (fun i => by omega) (by omega), h.2.kp F2 (fun i => by omega) (fun i _ _ => by omega) (fun a j q => by unfold AM; omega)⟩
    obtain ⟨σ1, τ1, a1, a2, a3, a4, a5⟩ := step_n h1 (by omega)
    unfold Mo_test_J123
    rw [a1, bd_s, bd2_s, if_neg (by decide), show (5 : Int32) = nI 5 from rfl, nI_add, ix_nI (by omega) (by omega), chk_true, tn_nI (by omega), hv, bnd_x, a2, bd_s, show (2 : Int32) = nI 2 from rfl, nI_add]
    have hN := takeN a3 (p := P + 2) (lo := 0) (hi := 5040) (by omega) (by omega) (by omega) (by omega)
    have hN2 : RX τ0 (fun σ' τ' => PK τ0 σ' τ' bt n (k + 2) ∧ Fp (Cr m) σ σ' ∧ Fp (Br P) τ τ' ∧ ∃ sg v, (sg = 6 ∨ sg = 7 ∨ sg = 8) ∧ v ≤ 5040 ∧ σ'.1 25 m = nI sg ∧ τ'.1 93 (P + 5) = nI (sgM sg) ∧ σ'.2 2 8 = lN v ∧ τ'.1 93 (P + 2) = nI v ∧ σ'.1 24 m = σ.1 24 m ∧ τ'.1 93 P = τ.1 93 P) (Re_takeNumber σ1 (nI 0) (nI 5040)) (Mo_number τ1 (nI (P + 2)) (nI 0) (nI 5040)) := RX.mono hN (fun σ' τ' q => by
      obtain ⟨q1, q2, q3, v, v1, v2, v3, v4⟩ := q
      refine ⟨q1, ((F1.mono (fun a j q => by unfold Cr; omega)).tr (a4.mono (fun a j q => by unfold C2 at q; unfold Cr; omega))).tr (q2.mono (fun a j q => by unfold C2 at q; unfold Cr; omega)), ((F2.mono (fun a j q => Or.inr (by omega))).tr (a5.mono (fun a j q => Or.inl q))).tr (q3.mono (fun a j q => q.elim (fun y => Or.inl y) (fun y => Or.inr (by omega)))), d, v, hs, v2, ?_, ?_, v3, v4, ?_, ?_⟩
      · exact (q2.i (by unfold C2; omega)).trans ((a4.i (by unfold C2; omega)).trans wI_s)
      · exact (q3.i (by unfold A5 A4; omega)).trans ((a5.i (by unfold A4; omega)).trans wI_s)
      · exact (q2.i (by unfold C2; omega)).trans ((a4.i (by unfold C2; omega)).trans (wI_ne (by omega)))
      · exact (q3.i (by unfold A5 A4; omega)).trans ((a5.i (by unfold A4; omega)).trans (wI_ne (by omega))))
    rcases hN2 with ⟨σ', τ', e1, e2, e3⟩ | ⟨σ', τ', e1, e2, e3⟩
    · have e1' : Re_takeNumber σ1 0 5040 = some (1, σ') := e1
      have e2' : Mo_number τ1 (nI (P + 2)) 0 5040 = some (1, τ') := e2
      exact Or.inl ⟨σ', τ', by rw [e1', bd2_s, if_neg (by decide)], by rw [e2', bd2_s, kz1, chk_true], e3⟩
    · have e1' : Re_takeNumber σ1 0 5040 = some (0, σ') := e1
      have e2' : Mo_number τ1 (nI (P + 2)) 0 5040 = some (0, τ') := e2
      exact Or.inr ⟨σ', τ', by rw [e1', bd2_s, if_pos rfl], by rw [e2', bd2_s, kz0, chk_true], e3⟩
  · have s6 : ¬ kC bt n (ts bt n k) = 6 := fun q => hs (Or.inl q)
    have s7 : ¬ kC bt n (ts bt n k) = 7 := fun q => hs (Or.inr (Or.inl q))
    have s8 : ¬ kC bt n (ts bt n k) = 8 := fun q => hs (Or.inr (Or.inr q))
    have hC : DT_takeSign σ 22 (nI m) = bd2 (Re_blame σ 2) (fun r s => chk (ckz r) (some (r, s))) := by
      unfold DT_takeSign
      rw [token_n h.1, bd_s, if_neg (show ¬ nI (kC bt n (ts bt n k)) = 6 from fun q => s6 ((eq 6 (by omega)).mp q)), if_neg (show ¬ nI (kC bt n (ts bt n k)) = 7 from fun q => s7 ((eq 7 (by omega)).mp q)), if_neg (show ¬ nI (kC bt n (ts bt n k)) = 8 from fun q => s8 ((eq 8 (by omega)).mp q))]
    obtain ⟨σ', τ', e1, e2, e3⟩ := blame_n h (p := 2) (by omega) (by omega)
    rw [if_neg s6, if_neg s7, if_neg s8, if_pos rfl, if_pos rfl, if_pos rfl, hC, show (2 : Int32) = nI 2 from rfl, e1, bd2_s, kz0, chk_true, bd2_s, if_pos rfl, e2, bd2_s, kz0, chk_true]
    exact Or.inr ⟨σ', τ', rfl, rfl, e3⟩
end WHO
