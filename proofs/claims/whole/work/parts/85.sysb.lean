section SYB
variable {n : Nat} {bt : Nat → Nat} {τ0 σ τ : St} {k : Nat} {c od on : Nat} {rs md nm : Nat → Nat}
theorem MV.kq {o q : Nat} {τ' : St} (h : MV τ o q c od on rs md nm) (e : ∀ j, j < 4 + 3 * c → τ'.1 93 (o + j) = τ.1 93 (o + j)) (en : ∀ j, j < c → τ'.2 94 (q + j) = τ.2 94 (q + j)) : MV τ' o q c od on rs md nm := by
  obtain ⟨h1, h2, h3, h4, h5, h6⟩ := h
  exact ⟨(e 0 (by omega)).trans h1, (e 1 (by omega)).trans h2, fun j hj => (e _ (by omega)).trans (h3 j hj), fun j hj => (e _ (by omega)).trans (h4 j hj), fun j hj => (e _ (by omega)).trans (h5 j hj), fun j hj => (en _ hj).trans (h6 j hj)⟩
/-- a class half read: its name is w -/
def SQ (σ τ : St) (c od on : Nat) (rs md nm : Nat → Nat) (w f : Nat) : Prop := CV σ 11 c od on rs md nm ∧ MV τ 1616 48 c od on rs md nm ∧ WF c od on rs md nm ∧ τ.2 94 (48 + c) = lN (g8 w) ∧ τ.1 92 19 = nI f ∧ τ.1 93 1618 = -1
theorem SQ.kp {σ' τ' : St} {w f : Nat} (h : SQ σ τ c od on rs md nm w f) (F : Fp C2 σ σ') {B : Nat → Nat → Prop} (G : Fp B τ τ') (h1 : ∀ j, ¬ B 94 j) (h2 : ¬ B 92 19) (h3 : ∀ j, j < 4 + 3 * c → ¬ B 93 (1616 + j)) : SQ σ' τ' c od on rs md nm w f := by
  obtain ⟨g1, g2, g3, g4, g5, g6⟩ := h
  exact ⟨g1.keep (F.sm (fun b i _ _ q => by unfold C2 at q; omega)), g2.kq (fun j hj => G.i (h3 j hj)) (fun j _ => G.l (h1 _)), g3, (G.l (h1 _)).trans g4, (G.i h2).trans g5, (G.i (h3 2 (by omega))).trans g6⟩
def Acl (a _ : Nat) : Prop := 11 ≤ a ∧ a ≤ 14
theorem aclass_J (h : PK τ0 σ τ bt n k) {w f v m : Nat} {b : Bool} (hS : SQ σ τ c od on rs md nm w f) (hc : c < 12) (hw : w < 1099511627776) (hv : v ≤ 59) (hm1 : 1 ≤ m) (hm2 : m ≤ 60) (v1 : τ.1 93 (1616 + (4 + 3 * c)) = nI (v % m)) (v2 : τ.1 93 (1616 + (5 + 3 * c)) = nI m) (v3 : τ.1 93 (1616 + (6 + 3 * c)) = nI (if b then 1 else 0)) {k0 : Nat} (hk0 : k0 ≤ k) : RX τ0 (Pt τ0 bt n k0 f) (ST_takeClass_J121 σ 11 (lN w) (nI v) (nI m) (if b then 0 else 1)) (Mo_aClass_J173 τ) := by
  obtain ⟨g1, g2, g3, g4, g5, g6⟩ := hS
  obtain ⟨σ1, e1, e2⟩ := append_b g1 g3 hc (r := v) (m := m) (l := w) (by omega) hm1 hm2 b
  have F1 := fp_Cl_append (A := Acl) (Fp.rf (σ := σ)) (by unfold Acl; omega) (by unfold Acl; omega) (fun i => by unfold Acl; omega) (fun i => by unfold Acl; omega) (fun i => by unfold Acl; omega) _ e1
  have F2 : Fp (fun a j => a = 93 ∧ j = 1616) τ (wI τ 93 1616 (nI (c + 1))) := Fp.wI (A := fun a j => a = 93 ∧ j = 1616) (Fp.rf (A := fun a j => a = 93 ∧ j = 1616)) ⟨rfl, rfl⟩
  have h1 : PK τ0 σ1 (wI τ 93 1616 (nI (c + 1))) bt n k := ⟨h.1.kp F1 (fun i => by unfold Acl; omega) (by unfold Acl; omega), h.2.kp F2 (fun i => by omega) (fun i _ _ => by omega) (fun a j q => by unfold AM; omega)⟩
  have hlt : v % m < m := Nat.mod_lt _ (by omega)
  have S1 : SY σ1 (wI τ 93 1616 (nI (c + 1))) (c + 1) od (onb on c b) (fset rs c (v % m)) (fset md c m) (fset nm c w) := by
    refine ⟨e2, MVpush g2 g3.2.2.1 wI_s (fun j j1 j2 => F2.i (by omega)) (fun j hj => F2.l (by omega)) ((F2.i (by omega)).trans v1) ((F2.i (by omega)).trans v2) ((F2.i (by omega)).trans v3) ((F2.l (by omega)).trans g4), g3.push hc hlt hm2 hw (onb_lt g3.2.2.1 b), (F2.i (by omega)).trans g6⟩
  have f1 : (wI τ 93 1616 (nI (c + 1))).1 92 19 = nI f := (F2.i (by omega)).trans g5
  have hJ : ST_takeClass_J121 σ 11 (lN w) (nI v) (nI m) (if b then 0 else 1) = bd2 (Re_take σ1 5) (fun r s => chk (ckz r) (some (r, s))) := by
    unfold ST_takeClass_J121
    cases b
    · rw [if_neg (by decide)]
      rw [show (if false = true then (1 : Int32) else 0) = 0 from rfl] at e1
      rw [e1, bd_s]
    · rw [if_pos (by decide)]
      rw [show (if true = true then (1 : Int32) else 0) = 1 from rfl] at e1
      rw [e1, bd_s]
  have hM : Mo_aClass_J173 τ = bd2 (Mo_wantSign (wI τ 93 1616 (nI (c + 1))) 59) (fun r s => chk (ckz r) (some (r, s))) := by
    unfold Mo_aClass_J173
    rw [show ix 1616 2060 = true by decide, chk_true, chk_true, show tn 1616 = 1616 from rfl, g2.1, nI_1, bnd_x]
  rw [hJ, hM]
  refine RX.ck (RX.mono (takeS h1) (fun σ3 τ3 hN => ?_))
  obtain ⟨n1, n2, n3⟩ := hN
  exact ⟨_, by omega, n1, ⟨_, _, _, _, _, _, S1.kp n2 n3 (fun b i _ _ q => by unfold C2 at q; omega) (fun b i _ _ q => by unfold A4 at q; omega)⟩, (n3.i (by unfold A4; omega)).trans f1⟩
theorem aclass_T (h : PK τ0 σ τ bt n k) {w f v m : Nat} (hS : SQ σ τ c od on rs md nm w f) (hc : c < 12) (hw : w < 1099511627776) (hv : v ≤ 59) (hm1 : 1 ≤ m) (hm2 : m ≤ 60) (v1 : τ.1 93 (1616 + (4 + 3 * c)) = nI v) (v2 : τ.1 93 (1616 + (5 + 3 * c)) = nI m) {k0 : Nat} (hk0 : k0 ≤ k) : RX τ0 (Pt τ0 bt n k0 f) (bd (Re_token σ) (fun r28 => if r28 = 14 then (bd (Re_step σ) (fun s43 => ST_takeClass_J121 s43 11 (lN w) (nI v) (nI m) 1)) else (ST_takeClass_J121 σ 11 (lN w) (nI v) (nI m) 0))) (chk (ix (nI (1616 + (4 + 3 * c))) 2060) (chk (ix (nI (1616 + (4 + 3 * c)) + 1) 2060) (chk (nzI (τ.1 93 (tn (nI (1616 + (4 + 3 * c)) + 1)))) (chk (ix (nI (1616 + (4 + 3 * c))) 2060) (bnd (wI τ 93 (tn (nI (1616 + (4 + 3 * c)))) (jrem (τ.1 93 (tn (nI (1616 + (4 + 3 * c))))) (τ.1 93 (tn (nI (1616 + (4 + 3 * c)) + 1))))) (fun s34 => chk (ix (nI (1616 + (4 + 3 * c)) + 2) 2060) (bnd (wI s34 93 (tn (nI (1616 + (4 + 3 * c)) + 2)) 1) (fun s36 => bd (Mo_inWords s36) (fun r38 => if r38 = 4 then (chk (ix (nI (1616 + (4 + 3 * c)) + 2) 2060) (bnd (wI s36 93 (tn (nI (1616 + (4 + 3 * c)) + 2)) 0) (fun s47 => bd (Mo_ahead s47) (fun s49 => Mo_aClass_J173 s49)))) else (Mo_aClass_J173 s36)))))))))) := by
  rw [nI_1, show (2 : Int32) = nI 2 from rfl, nI_add, ix_nI (by omega) (by omega), chk_true, ix_nI (by omega) (by omega), chk_true, tn_nI (a := 1616 + (4 + 3 * c)) (by omega), tn_nI (a := 1616 + (4 + 3 * c) + 1) (by omega), tn_nI (a := 1616 + (4 + 3 * c) + 2) (by omega), show 1616 + (4 + 3 * c) + 1 = 1616 + (5 + 3 * c) by omega, show 1616 + (4 + 3 * c) + 2 = 1616 + (6 + 3 * c) by omega, v1, v2, nz_nI (by omega) (by omega), chk_true, ix_nI (by omega) (by omega), chk_true, rem_nI (by omega) (by omega) (by omega), bnd_x, chk_true, bnd_x]
  obtain ⟨ρ, hρ⟩ : ∃ ρ, ρ = wI (wI τ 93 (1616 + (4 + 3 * c)) (nI (v % m))) 93 (1616 + (6 + 3 * c)) 1 := ⟨_, rfl⟩
  have F1 : Fp (fun a j => a = 93 ∧ (j = 1616 + (4 + 3 * c) ∨ j = 1616 + (6 + 3 * c))) τ ρ := by
    rw [hρ]
    exact Fp.wI (A := fun a j => a = 93 ∧ (j = 1616 + (4 + 3 * c) ∨ j = 1616 + (6 + 3 * c))) (Fp.wI (A := fun a j => a = 93 ∧ (j = 1616 + (4 + 3 * c) ∨ j = 1616 + (6 + 3 * c))) (Fp.rf (A := fun a j => a = 93 ∧ (j = 1616 + (4 + 3 * c) ∨ j = 1616 + (6 + 3 * c)))) ⟨rfl, Or.inl rfl⟩) ⟨rfl, Or.inr rfl⟩
  have w1 : ρ.1 93 (1616 + (4 + 3 * c)) = nI (v % m) := by rw [hρ, wI_ne (by omega), wI_s]
  have w2 : ρ.1 93 (1616 + (5 + 3 * c)) = nI m := by rw [hρ, wI_ne (by omega), wI_ne (by omega)]; exact v2
  have w3 : ρ.1 93 (1616 + (6 + 3 * c)) = nI (if true then 1 else 0) := by rw [hρ, wI_s]; rfl
  rw [← hρ]
  have h1 : PK τ0 σ ρ bt n k := ⟨h.1, h.2.kp F1 (fun i => by omega) (fun i _ _ => by omega) (fun a j q => by unfold AM; omega)⟩
  have S1 := hS.kp (Fp.rf (A := C2)) F1 (fun j => by omega) (by omega) (fun j hj => by omega)
  have hkl := (kC_lt bt n (ts bt n k)).1
  rw [token_n h.1, bd_s, inW h1.2.1, bd_s]
  by_cases t : kC bt n (ts bt n k) = 14
  · have F2 : Fp (fun a j => a = 93 ∧ j = 1616 + (6 + 3 * c)) ρ (wI ρ 93 (1616 + (6 + 3 * c)) 0) := Fp.wI (A := fun a j => a = 93 ∧ j = 1616 + (6 + 3 * c)) (Fp.rf (A := fun a j => a = 93 ∧ j = 1616 + (6 + 3 * c))) ⟨rfl, rfl⟩
    have h2 : PK τ0 σ (wI ρ 93 (1616 + (6 + 3 * c)) 0) bt n k := ⟨h.1, h1.2.kp F2 (fun i => by omega) (fun i _ _ => by omega) (fun a j q => by unfold AM; omega)⟩
    have S2 := S1.kp (Fp.rf (A := C2)) F2 (fun j => by omega) (by omega) (fun j hj => by omega)
    obtain ⟨σ3, τ3, a1, a2, a3, a4, a5⟩ := step_n h2 (by omega)
    have S3 := S2.kp a4 a5 (fun j => by unfold A4; omega) (by unfold A4; omega) (fun j hj => by unfold A4; omega)
    rw [t, if_pos (show nI 14 = 14 by decide), if_pos (show (if 10 ≤ 14 then nI (14 - 10) else -1) = (4 : Int32) by decide), chk_true, bnd_x, a1, bd_s, a2, bd_s]
    exact aclass_J a3 (b := false) S3 hc hw hv hm1 hm2 ((a5.i (by unfold A4; omega)).trans ((F2.i (by omega)).trans w1)) ((a5.i (by unfold A4; omega)).trans ((F2.i (by omega)).trans w2)) ((a5.i (by unfold A4; omega)).trans wI_s) (by omega)
  · have d : ¬ (if 10 ≤ kC bt n (ts bt n k) then nI (kC bt n (ts bt n k) - 10) else -1) = (4 : Int32) := by
      rw [show (4 : Int32) = nI 4 from rfl]
      by_cases e : 10 ≤ kC bt n (ts bt n k)
      · rw [if_pos e, eq_nI (by omega) (by omega)]; omega
      · rw [if_neg e]; exact fun q => nI_m1 (k := 4) (by omega) q.symm
    rw [if_neg (show ¬ nI (kC bt n (ts bt n k)) = 14 by rw [show (14 : Int32) = nI 14 from rfl, eq_nI (by omega) (by omega)]; exact t), if_neg d]
    exact aclass_J h1 (b := true) S1 hc hw hv hm1 hm2 w1 w2 w3 hk0
theorem aclass_x (h : PK τ0 σ τ bt n k) (hk : kC bt n (ts bt n k) = 11) (hS : SY σ τ c od on rs md nm) (hc : c < 12) {f : Nat} (hf : τ.1 92 19 = nI f) : RX τ0 (Pt τ0 bt n k f) (ST_takeClass σ 11) (Mo_aClass τ) := by
  obtain ⟨σ1, τ1, a1, a2, a3, a4, a5⟩ := step_n h (by omega)
  have S1 := hS.kp a4 a5 (fun b i _ _ q => by unfold C2 at q; omega) (fun b i _ _ q => by unfold A4 at q; omega)
  have f1 : τ1.1 92 19 = nI f := (a5.i (by unfold A4; omega)).trans hf
  have hkl := (kC_lt bt n (ts bt n (k + 1))).1
  unfold ST_takeClass Mo_aClass
  rw [a1, bd_s, token_n a3.1, bd_s, show ix 1616 2060 = true by decide, chk_true, show tn 1616 = 1616 from rfl, hS.2.1.1, bnd_x, rowOf_n, bd_s, show (1616 : Int32) = nI 1616 from rfl, nI_add, bnd_x, if_neg (show ¬ nI c = 12 by rw [show (12 : Int32) = nI 12 from rfl, eq_nI (by omega) (by omega)]; omega), a2, bd_s, isName_n a3.2.1, bd_s]
  by_cases t3 : kC bt n (ts bt n (k + 1)) = 3
  · obtain ⟨w, w1, w2, w3⟩ := name_n a3.2.1 t3
    rw [if_pos (show nI (kC bt n (ts bt n (k + 1))) = 3 by rw [t3]; rfl), if_pos t3, if_neg (by decide), value_n a3.1, bd_s, w2, findCl S1.1 S1.2.2.1 w1, bd_s, show (48 : Int32) = nI 48 from rfl, findMo S1.2.1 S1.2.2.1 (by omega) w1 w3, bd_s]
    by_cases fd : fN nm c w < c
    · rw [if_pos fd, if_neg (nI_m1 (by omega)), if_neg (nI_m1 (by omega))]
      exact blame_x a3 (p := 3) (by omega) (by omega)
    · have F2 : Fp (fun a j => a = 94 ∧ j = 48 + c) τ1 (wL τ1 94 (48 + c) (lN (g8 w))) := Fp.wL (A := fun a j => a = 94 ∧ j = 48 + c) (Fp.rf (A := fun a j => a = 94 ∧ j = 48 + c)) ⟨rfl, rfl⟩
      have h2 : PK τ0 σ1 (wL τ1 94 (48 + c) (lN (g8 w))) bt n (k + 1) := ⟨a3.1, a3.2.kp F2 (fun i => by omega) (fun i _ _ => by omega) (fun a j q => by unfold AM; omega)⟩
      obtain ⟨σ2, τ2, b1, b2, b3, b4, b5⟩ := step_n h2 (by omega)
      rw [if_neg fd, if_pos rfl, if_pos rfl, b1, bd_s, w3, bd_s, nI_add, ix_nI (by omega) (by omega), chk_true, tn_nI (by omega), bnd_x, b2, bd_s]
      have S2 : SQ σ2 τ2 c od on rs md nm w f := by
        have s0 : SQ σ1 (wL τ1 94 (48 + c) (lN (g8 w))) c od on rs md nm w f := ⟨S1.1, S1.2.1.kq (fun j _ => F2.i (by omega)) (fun j hj => F2.l (by omega)), S1.2.2.1, wL_s, (F2.i (by omega)).trans f1, (F2.i (by omega)).trans S1.2.2.2⟩
        exact s0.kp b4 b5 (fun j => by unfold A4; omega) (by unfold A4; omega) (fun j hj => by unfold A4; omega)
      refine RX.sq (takeW b3 (i := 2) (by omega)) (fun σ3 τ3 hN => ?_)
      obtain ⟨p1, p2, p3⟩ := hN
      have S3 := S2.kp p2 p3 (fun j => by unfold A4; omega) (by unfold A4; omega) (fun j hj => by unfold A4; omega)
      refine RX.sq (takeN p1 (p := 1616 + (4 + 3 * c)) (lo := 0) (hi := 59) (by omega) (by omega) (by omega) (by omega)) (fun σ4 τ4 hP => ?_)
      obtain ⟨q1, q2, q3, v, v1, v2, v3, v4⟩ := hP
      have S4 := S3.kp q2 q3 (fun j => by unfold A5 A4; omega) (by unfold A5 A4; omega) (fun j hj => by unfold A5 A4; omega)
      have hT : Re_takenNumber σ4 = some (nI v) := by
        unfold Re_takenNumber
        rw [v3, lN_i]
      rw [hT, bd_s]
      refine RX.sq (takeW q1 (i := 3) (by omega)) (fun σ5 τ5 hN => ?_)
      obtain ⟨r1, r2, r3⟩ := hN
      have S5 := S4.kp r2 r3 (fun j => by unfold A4; omega) (by unfold A4; omega) (fun j hj => by unfold A4; omega)
      have u5 : τ5.1 93 (1616 + (4 + 3 * c)) = nI v := (r3.i (by unfold A4; omega)).trans v4
      have hx := takeN r1 (p := 1616 + (4 + 3 * c) + 1) (lo := 1) (hi := 60) (by omega) (by omega) (by omega) (by omega)
      rw [← nI_1 (1616 + (4 + 3 * c))] at hx
      refine RX.sq hx (fun σ6 τ6 hP => ?_)
      obtain ⟨s1, s2, s3, m, m1, m2, m3, m4⟩ := hP
      have S6 := S5.kp s2 s3 (fun j => by unfold A5 A4; omega) (by unfold A5 A4; omega) (fun j hj => by unfold A5 A4; omega)
      have hT6 : Re_takenNumber σ6 = some (nI m) := by
        unfold Re_takenNumber
        rw [m3, lN_i]
      rw [hT6, bd_s]
      exact aclass_T s1 S6 hc w1 v2 m1 m2 ((s3.i (by unfold A5 A4; omega)).trans u5) (by rw [show 1616 + (5 + 3 * c) = 1616 + (4 + 3 * c) + 1 by omega]; exact m4) (by omega)
  · rw [if_neg (show ¬ nI (kC bt n (ts bt n (k + 1))) = 3 by rw [show (3 : Int32) = nI 3 from rfl, eq_nI (by omega) (by omega)]; exact t3), if_neg t3, if_pos rfl]
    exact blame_x a3 (p := 2) (by omega) (by omega)
theorem aclass_12 (h : MV τ 1616 48 12 od on rs md nm) : Mo_aClass τ = bd2 (Mo_fails τ 6) (fun r s => chk (ckz r) (some (r, s))) := by
  unfold Mo_aClass
  rw [show ix 1616 2060 = true by decide, chk_true, show tn 1616 = 1616 from rfl, h.1, bnd_x, rowOf_n, bd_s, bnd_x, if_pos (by decide)]
end SYB
