/-! the system as a text -/
def SY (σ τ : St) (c od on : Nat) (rs md nm : Nat → Nat) : Prop := CV σ 11 c od on rs md nm ∧ MV τ 1616 48 c od on rs md nm ∧ WF c od on rs md nm ∧ τ.1 93 1618 = -1
theorem SY.kp {σ τ σ' τ' : St} {c od on : Nat} {rs md nm : Nat → Nat} (h : SY σ τ c od on rs md nm) {A B : Nat → Nat → Prop} (F : Fp A σ σ') (G : Fp B τ τ') (hA : ∀ b i, 11 ≤ b → b ≤ 14 → ¬ A b i) (hB : ∀ b i, 93 ≤ b → b ≤ 94 → ¬ B b i) : SY σ' τ' c od on rs md nm := ⟨h.1.keep (F.sm hA), h.2.1.keep (G.sm hB), h.2.2.1, (G.i (hB 93 1618 (by omega) (by omega))).trans h.2.2.2⟩
section SYS
variable {n : Nat} {bt : Nat → Nat} {τ0 σ τ : St} {k : Nat} {c od on : Nat} {rs md nm : Nat → Nat}
/-- behind a part of the text -/
def Pt (τ0 : St) (bt : Nat → Nat) (n k f : Nat) (σ' τ' : St) : Prop := ∃ k', k < k' ∧ PK τ0 σ' τ' bt n k' ∧ (∃ (c od on : Nat) (rs md nm : Nat → Nat), SY σ' τ' c od on rs md nm) ∧ τ'.1 92 19 = nI f
theorem RX.ifr {P : St → St → Prop} {x y : Option (Int32 × St)} (h : RX τ0 P x y) : RX τ0 P x (bd2 y (fun r s => if r = 0 then some (0, s) else some (1, s))) := by
  rcases h with ⟨σ, τ, e1, e2, e3⟩ | ⟨σ, τ, e1, e2, e3⟩
  · left
    exact ⟨σ, τ, e1, by rw [e2, bd2_s, if_neg (by decide)], e3⟩
  · right
    exact ⟨σ, τ, e1, by rw [e2, bd2_s, if_pos rfl], e3⟩
theorem odds_x (h : PK τ0 σ τ bt n k) (hk : kC bt n (ts bt n k) = 10) (hS : SY σ τ c od on rs md nm) : RX τ0 (Pt τ0 bt n k 1) (ST_takeOdds σ 11) (bnd (wI τ 92 19 1) (fun s3 => bd (Mo_ahead s3) (fun s5 => bd2 (Mo_number s5 1617 0 16) (fun r7 s8 => if r7 = 0 then (some (0, s8)) else (bd2 (Mo_wantSign s8 59) (fun r10 s11 => if r10 = 0 then (some (0, s11)) else (some (1, s11)))))))) := by
  have F0 : Fp (fun a j => a = 92 ∧ j = 19) τ (wI τ 92 19 1) := Fp.wI (A := fun a j => a = 92 ∧ j = 19) (Fp.rf (A := fun a j => a = 92 ∧ j = 19)) ⟨rfl, rfl⟩
  have h1 : PK τ0 σ (wI τ 92 19 1) bt n k := ⟨h.1, h.2.kp F0 (fun i => by omega) (fun i _ _ => by omega) (fun a j q => by unfold AM; omega)⟩
  obtain ⟨σ1, τ1, a1, a2, a3, a4, a5⟩ := step_n h1 (by omega)
  have S1 : SY σ1 τ1 c od on rs md nm := (hS.kp (A := C2) (Fp.rf (A := C2)) F0 (fun b i _ _ q => by unfold C2 at q; omega) (fun b i _ _ q => by omega)).kp a4 a5 (fun b i _ _ q => by unfold C2 at q; omega) (fun b i _ _ q => by unfold A4 at q; omega)
  have f1 : τ1.1 92 19 = nI 1 := (a5.i (by unfold A4; omega)).trans wI_s
  unfold ST_takeOdds
  rw [bnd_x, a1, a2, bd_s, bd_s]
  refine RX.sq (takeN a3 (p := 1617) (lo := 0) (hi := 16) (by omega) (by omega) (by omega) (by omega)) (fun σ2 τ2 hP => ?_)
  obtain ⟨p1, p2, p3, v, v1, v2, v3, v4⟩ := hP
  have hT : Re_takenNumber σ2 = some (nI v) := by
    unfold Re_takenNumber
    rw [v3, lN_i]
  rw [hT, bd_s, bnd_x]
  have F2 : Fp (fun a j => a = 11 ∧ j = 5) σ2 (wI σ2 11 5 (nI v)) := Fp.wI (A := fun a j => a = 11 ∧ j = 5) (Fp.rf (A := fun a j => a = 11 ∧ j = 5)) ⟨rfl, rfl⟩
  have h2 : PK τ0 (wI σ2 11 5 (nI v)) τ2 bt n (k + 1 + 1) := ⟨p1.1.kp F2 (fun i => by omega) (by omega), p1.2⟩
  have S2 : SY (wI σ2 11 5 (nI v)) τ2 c v on rs md nm := by
    obtain ⟨⟨c1, c2, c3, c4, c5, c6⟩, ⟨m1, m2, m3, m4, m5, m6⟩, w, e8⟩ := S1
    have y : ∀ b i, ¬ b = 2 → σ2.1 b i = σ1.1 b i := fun b i hb => p2.i hb
    have yl : ∀ b i, ¬ b = 2 → σ2.2 b i = σ1.2 b i := fun b i hb => p2.l hb
    have z : ∀ i, ¬ i = 1617 → τ2.1 93 i = τ1.1 93 i := fun i hi => p3.i (by unfold A5 A4; omega)
    have zl : ∀ i, τ2.2 94 i = τ1.2 94 i := fun i => p3.l (by unfold A5 A4; omega)
    refine ⟨⟨?_, ?_, wI_s, fun j hj => ?_, fun j hj => ?_, fun j hj => ?_⟩, ⟨?_, v4, fun j hj => ?_, fun j hj => ?_, fun j hj => ?_, fun j hj => ?_⟩, ⟨w.1, v2, w.2.2⟩, (z 1618 (by omega)).trans e8⟩
    · rw [wI_ne (by omega), y _ _ (by omega)]; exact c1
    · rw [wI_ne (by omega), y _ _ (by omega)]; exact c2
    · rw [wI_ne (by omega), y _ _ (by omega)]; exact c4 j hj
    · rw [wI_ne (by omega), y _ _ (by omega)]; exact c5 j hj
    · rw [wI_2, yl _ _ (by omega)]; exact c6 j hj
    · rw [z _ (by omega)]; exact m1
    · rw [z _ (by omega)]; exact m3 j hj
    · rw [z _ (by omega)]; exact m4 j hj
    · rw [z _ (by omega)]; exact m5 j hj
    · rw [zl]; exact m6 j hj
  have f2 : τ2.1 92 19 = nI 1 := (p3.i (by unfold A5 A4; omega)).trans f1
  refine RX.ckl (RX.ifr (RX.mono (takeS h2) (fun σ3 τ3 hN => ?_)))
  obtain ⟨n1, n2, n3⟩ := hN
  exact ⟨_, by omega, n1, ⟨_, _, _, _, _, _, S2.kp n2 n3 (fun b i _ _ q => by unfold C2 at q; omega) (fun b i _ _ q => by unfold A4 at q; omega)⟩, (n3.i (by unfold A4; omega)).trans f2⟩
end SYS
