def cE (σ : St) (k kd te sg wh nu pa : Nat) : Prop := σ.1 23 k = nI kd ∧ (kd = 19 → σ.1 24 k = nI te) ∧ (kd = 19 → te = 22 → σ.1 25 k = nI sg) ∧ (wantsW kd te → σ.1 26 k = nI wh) ∧ (wantsN kd te → σ.1 27 k = nI nu) ∧ (wantsP kd → pa < 100 → σ.1 28 k = nI pa)
def mE (τ : St) (k kd te sg wh nu pa : Nat) : Prop := τ.1 93 (1656 + 6 * k) = nI (if kd = 19 then 890 + te else kd - 10) ∧ (kd = 19 → te = 22 → τ.1 93 (1656 + 6 * k + 5) = nI (sgM sg)) ∧ (wantsW kd te → τ.1 93 (1656 + 6 * k + 1) = nI wh) ∧ (wantsN kd te → τ.1 93 (1656 + 6 * k + 2) = nI nu) ∧ (wantsP kd → pa < 100 → τ.1 93 (1656 + 6 * k + 4) = nI pa)
def DE (σ τ : St) (m : Nat) (kd te sg wh nu pa : Nat → Nat) : Prop := ∀ k, k < m → cE σ k (kd k) (te k) (sg k) (wh k) (nu k) (pa k) ∧ mE τ k (kd k) (te k) (sg k) (wh k) (nu k) (pa k) ∧ WE (kd k) (te k) (sg k) (wh k) (nu k)
def DQ (σ τ : St) (m st dp : Nat) (stk kd te sg wh nu pa : Nat → Nat) : Prop := σ.1 22 6 = nI m ∧ σ.1 22 7 = nI st ∧ τ.1 93 1618 = nI m ∧ τ.1 92 21 = nI dp ∧ τ.1 92 22 = nI st ∧ m + dp ≤ 2 * st ∧ st ≤ 30 ∧ dp ≤ 3 ∧ (∀ i, i < dp → σ.1 28 (stk i) = (if i = 0 then -1 else nI (stk (i - 1))) ∧ τ.1 100 i = nI (stk i)) ∧ DE σ τ m kd te sg wh nu pa ∧ SW m dp stk kd pa
def tp (dp : Nat) (stk : Nat → Nat) : Int32 := if dp = 0 then -1 else nI (stk (dp - 1))
def Cq (m a j : Nat) : Prop := a = 2 ∨ a = 22 ∨ (23 ≤ a ∧ a ≤ 28 ∧ j = m)
def Bq (m a j : Nat) : Prop := A4 a j ∨ (a = 93 ∧ (j = 1618 ∨ (1656 + 6 * m ≤ j ∧ j < 1656 + 6 * m + 6))) ∨ (a = 92 ∧ (j = 21 ∨ j = 22)) ∨ a = 100
section ENT
variable {σ τ σ' τ' : St} {m st dp : Nat} {stk kd te sg wh nu pa : Nat → Nat}
theorem cE.kp {k a b c d e f : Nat} (h : cE σ k a b c d e f) (F : Fp (Cq m) σ σ') (hk : k < m) : cE σ' k a b c d e f := by
  have y : ∀ r, 23 ≤ r → r ≤ 28 → σ'.1 r k = σ.1 r k := fun r r1 r2 => F.i (by unfold Cq; omega)
  obtain ⟨h1, h2, h3, h4, h5, h6⟩ := h
  exact ⟨(y 23 (by omega) (by omega)).trans h1, fun q => (y 24 (by omega) (by omega)).trans (h2 q), fun q r => (y 25 (by omega) (by omega)).trans (h3 q r), fun q => (y 26 (by omega) (by omega)).trans (h4 q), fun q => (y 27 (by omega) (by omega)).trans (h5 q), fun q r => (y 28 (by omega) (by omega)).trans (h6 q r)⟩
theorem mE.kp {k a b c d e f : Nat} (h : mE τ k a b c d e f) (F : Fp (Bq m) τ τ') (hk : k < m) : mE τ' k a b c d e f := by
  have y : ∀ r, r < 6 → τ'.1 93 (1656 + 6 * k + r) = τ.1 93 (1656 + 6 * k + r) := fun r r1 => F.i (by unfold Bq A4; omega)
  obtain ⟨h1, h2, h3, h4, h5⟩ := h
  exact ⟨(y 0 (by omega)).trans h1, fun q r => (y 5 (by omega)).trans (h2 q r), fun q => (y 1 (by omega)).trans (h3 q), fun q => (y 2 (by omega)).trans (h4 q), fun q r => (y 4 (by omega)).trans (h5 q r)⟩
theorem DE.kp (h : DE σ τ m kd te sg wh nu pa) (F : Fp (Cq m) σ σ') (G : Fp (Bq m) τ τ') : DE σ' τ' m kd te sg wh nu pa := fun k hk => ⟨(h k hk).1.kp F hk, (h k hk).2.1.kp G hk, (h k hk).2.2⟩
theorem DE.push (h : DE σ τ m kd te sg wh nu pa) {a b c d e f : Nat} (h1 : cE σ m a b c d e f) (h2 : mE τ m a b c d e f) (h3 : WE a b c d e) : DE σ τ (m + 1) (fset kd m a) (fset te m b) (fset sg m c) (fset wh m d) (fset nu m e) (fset pa m f) := by
  intro k hk
  by_cases z : k = m
  · rw [z, fset_1, fset_1, fset_1, fset_1, fset_1, fset_1]; exact ⟨h1, h2, h3⟩
  · rw [fset_2 _ _ z, fset_2 _ _ z, fset_2 _ _ z, fset_2 _ _ z, fset_2 _ _ z, fset_2 _ _ z]; exact h k (by omega)
theorem depth_n (hd : dp ≤ 3) (h1 : ∀ i, i < dp → stk i < 60) (h : ∀ i, i < dp → σ.1 28 (stk i) = (if i = 0 then -1 else nI (stk (i - 1)))) : DT_depthOf σ 22 (tp dp stk) = some (nI dp) := by
  have key := iter_ix (body := fun s : (Int32 × Int32 × Int32) => DT_depthOf_L7 22 σ s.1 s.2.1 s.2.2) (fun q u => ∃ i, q = dp - i ∧ i ≤ dp ∧ u = (nI i, tp (dp - i) stk, nI i)) (fun e => e = nI dp) ?_ FUEL dp (nI 0, tp dp stk, nI 0) ⟨0, rfl, by omega, rfl⟩ (fuel (by omega))
  · obtain ⟨e, b1, b2⟩ := key
    unfold DT_depthOf
    rw [show (0 : Int32) = nI 0 from rfl, b1, bd_s, b2]
  · rintro q _ ⟨i, rfl, hi, rfl⟩
    by_cases z : i = dp
    · right
      refine ⟨nI i, ?_, by rw [z]⟩
      show DT_depthOf_L7 22 σ (nI i) (tp (dp - i) stk) (nI i) = _
      unfold DT_depthOf_L7
      by_cases c : 3 ≤ i
      · rw [show (3 : Int32) = nI 3 from rfl, if_pos (by rw [le_nI (by omega) (by omega)]; omega)]
      · rw [show (3 : Int32) = nI 3 from rfl, if_neg (by rw [le_nI (by omega) (by omega)]; omega), if_pos (show tp (dp - i) stk = -1 by unfold tp; rw [if_pos (by omega)])]
    · left
      have hs := h1 (dp - i - 1) (by omega)
      have hr := h (dp - i - 1) (by omega)
      have ht : tp (dp - i) stk = nI (stk (dp - i - 1)) := by unfold tp; rw [if_neg (by omega)]
      refine ⟨(nI (i + 1), tp (dp - (i + 1)) stk, nI (i + 1)), dp - (i + 1), ?_, ⟨i + 1, rfl, by omega, rfl⟩, by omega⟩
      show DT_depthOf_L7 22 σ (nI i) (tp (dp - i) stk) (nI i) = _
      unfold DT_depthOf_L7
      rw [show (3 : Int32) = nI 3 from rfl, if_neg (by rw [le_nI (by omega) (by omega)]; omega), ht, if_neg (nI_m1 (by omega)), nI_1, bnd_x, ix_nI (by omega) (by omega), chk_true, tn_nI (by omega), hr, bnd_x, bnd_x]
      unfold tp
      by_cases c : dp - i - 1 = 0
      · rw [if_pos c, if_pos (show dp - (i + 1) = 0 by omega)]
      · rw [if_neg c, if_neg (show ¬ dp - (i + 1) = 0 by omega), show dp - i - 1 - 1 = dp - (i + 1) - 1 by omega]
theorem zero_n {τ : St} {P : Nat} (hP : P + 6 ≤ 2060) (l1 l2 l4 : Int32) : ∃ τ', iter (fun s : (Int32 × St) => Mo_dayStep_L142 l1 l2 (nI P) l4 s.2 s.1) FUEL (1, τ) = some τ' ∧ Fp (fun a j => a = 93 ∧ P + 1 ≤ j ∧ j < P + 6) τ τ' := by
  have key := iter_cnt (body := fun s : (Int32 × St) => Mo_dayStep_L142 l1 l2 (nI P) l4 s.2 s.1) (fun k s => s.1 = nI k ∧ Fp (fun a j => a = 93 ∧ P + 1 ≤ j ∧ j < P + 6) τ s.2) (fun e => Fp (fun a j => a = 93 ∧ P + 1 ≤ j ∧ j < P + 6) τ e) (lo := 1) (hi := 6) (n := FUEL) (by omega) (fuel (by omega)) ?_ ?_ (s := (1, τ)) ⟨rfl, Fp.rf (A := fun a j => a = 93 ∧ P + 1 ≤ j ∧ j < P + 6)⟩
  · exact key
  · rintro k ⟨_, u⟩ h1 h2 ⟨rfl, F⟩
    refine ⟨(nI (k + 1), wI u 93 (P + k) 0), ?_, rfl, Fp.wI (A := fun a j => a = 93 ∧ P + 1 ≤ j ∧ j < P + 6) F (by omega)⟩
    show Mo_dayStep_L142 l1 l2 (nI P) l4 u (nI k) = _
    unfold Mo_dayStep_L142
    rw [show (6 : Int32) = nI 6 from rfl, if_neg (by rw [le_nI (by omega) (by omega)]; omega), nI_add, ix_nI (by omega) (by omega), chk_true, tn_nI (by omega), bnd_x, nI_1, bnd_x]
  · rintro ⟨_, u⟩ ⟨rfl, F⟩
    refine ⟨u, ?_, F⟩
    show Mo_dayStep_L142 l1 l2 (nI P) l4 u (nI 6) = _
    unfold Mo_dayStep_L142
    rw [show (6 : Int32) = nI 6 from rfl, if_pos (by rw [le_nI (by omega) (by omega)]; omega)]
theorem append_n {σ : St} (h6 : σ.1 22 6 = nI m) (hm : m < 60) (v : Int32) : Da_append σ 22 v = some (nI m, wI (wI σ 23 m v) 22 6 (nI (m + 1))) := by
  unfold Da_append
  rw [h6, show (59 : Int32) = nI 59 from rfl, jmin_nI (by omega) (by omega), show min m 59 = m by omega, bnd_x, ix_nI (by omega) (by omega), chk_true, tn_nI (by omega), bnd_x, nI_1, bnd_x]
end ENT
