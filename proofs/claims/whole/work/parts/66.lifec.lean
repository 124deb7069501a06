section FOLc
variable {od n : Nat} {kd te sg wh nu pa : Nat → Nat} {a0 a1 : Nat} {s : Nat × Nat × (Nat → Nat) × (Nat → Nat) × (Nat → Nat)} {q R : Nat → Nat}
def CL (σ : St) (a0 a1 od n : Nat) (kd pa : Nat → Nat) (L : Nat × (Nat × Nat × (Nat → Nat) × (Nat → Nat) × (Nat → Nat)) × (Nat → Nat) × (Nat → Nat)) : Prop := CQ σ a0 a1 od L.2.1 L.2.2.1 ∧ ∀ j, j < n → opn kd pa L.1 j → kd j = 23 → σ.1 (a0 + 1) j = nI (L.2.2.2 j)
theorem DVc.keepF {σ σ2 : St} (D : DVc σ 15 n kd te sg wh nu pa) {A : Nat → Nat → Prop} (F : Fp A σ σ2) (hA : ∀ a i, A a i → a < 15 ∨ 21 < a) : DVc σ2 15 n kd te sg wh nu pa := D.keep (F.sm (fun b i z1 z2 z => by have := hA b i z; omega))
noncomputable def FWB (σ3 : St) (a0 a1 t k : Nat) : Option (Int32 × St) := if nI k = 17 then (chk true (chk true (bd2 (Li_partIfItCan σ3 a1 (σ3.1 (15 + 4) t) (σ3.1 (15 + 5) t)) (fun r7 σ8 => if r7 = 0 then (bnd (wI σ8 a0 3 ((σ3.1 a0 3) + 1)) (fun σ9 => some ((nI t + 1), σ9))) else (bnd (wI σ8 a0 3 ((σ3.1 a0 3) + 0)) (fun σ10 => some ((nI t + 1), σ10))))))) else if nI k = 18 then (bd2 (Li_chance σ3 a0 a1) (fun r14 σ15 => if r14 = 0 then (bnd (wI σ15 a0 3 ((σ3.1 a0 3) + 1)) (fun σ16 => some ((nI t + 1), σ16))) else (bnd (wI σ15 a0 3 ((σ3.1 a0 3) + 0)) (fun σ17 => some ((nI t + 1), σ17))))) else if nI k = 19 then (bd2 (Li_isSo σ3 a1 15 (nI t)) (fun r21 σ22 => if r21 = 0 then (chk true (some (((jmax (nI t) (σ22.1 (15 + 6) t)) + 1), σ22))) else (some ((nI t + 1), σ22)))) else if nI k = 20 then (bd2 (Li_act σ3 a0 a1 15 (nI t)) (fun r27 σ28 => if r27 = 0 then (bnd (wI σ28 a0 3 ((σ3.1 a0 3) + 1)) (fun σ29 => some ((nI t + 1), σ29))) else (bnd (wI σ28 a0 3 ((σ3.1 a0 3) + 0)) (fun σ30 => some ((nI t + 1), σ30))))) else if nI k = 21 then (bd2 (Li_act σ3 a0 a1 15 (nI t)) (fun r34 σ35 => if r34 = 0 then (bnd (wI σ35 a0 3 ((σ3.1 a0 3) + 1)) (fun σ36 => some ((nI t + 1), σ36))) else (bnd (wI σ35 a0 3 ((σ3.1 a0 3) + 0)) (fun σ37 => some ((nI t + 1), σ37))))) else if nI k = 22 then (bd2 (Li_act σ3 a0 a1 15 (nI t)) (fun r41 σ42 => if r41 = 0 then (bnd (wI σ42 a0 3 ((σ3.1 a0 3) + 1)) (fun σ43 => some ((nI t + 1), σ43))) else (bnd (wI σ42 a0 3 ((σ3.1 a0 3) + 0)) (fun σ44 => some ((nI t + 1), σ44))))) else if nI k = 23 then (chk true (chk true (bnd (wI σ3 (a0 + 1) t (σ3.1 (15 + 5) t)) (fun σ49 => some ((nI t + 1), σ49))))) else if nI k = 24 then (bd2 (Li_act σ3 a0 a1 15 (nI t)) (fun r52 σ53 => if r52 = 0 then (bnd (wI σ53 a0 3 ((σ3.1 a0 3) + 1)) (fun σ54 => some ((nI t + 1), σ54))) else (bnd (wI σ53 a0 3 ((σ3.1 a0 3) + 0)) (fun σ55 => some ((nI t + 1), σ55))))) else if nI k = 25 then (some ((σ3.1 15 6), σ3)) else (bd2 (Li_act σ3 a0 a1 15 (nI t)) (fun r60 σ61 => if r60 = 0 then (bnd (wI σ61 a0 3 ((σ3.1 a0 3) + 1)) (fun σ62 => some ((nI t + 1), σ62))) else (bnd (wI σ61 a0 3 ((σ3.1 a0 3) + 0)) (fun σ63 => some ((nI t + 1), σ63)))))
theorem FWB_pre {σ : St} {t k q5 : Nat} (ht : t < 60) (hk : k < 100) (d1 : σ.1 (15 + 1) t = nI k) (k24 : ¬ k = 24) (h5 : σ.1 a0 2 = nI q5) (h3 : q5 < 300) : Li_follow σ a0 a1 15 (nI t) = FWB (wI σ a0 2 (nI (q5 + 1))) a0 a1 t k := by
  have n24 : ¬ nI k = 24 := by rw [show (24 : Int32) = nI 24 from rfl, eq_nI (by omega) (by omega)]; exact k24
  unfold Li_follow FWB
  rw [ix_nI (by omega) (by omega), chk_true, tn_nI (by omega), d1, bnd_x, if_neg n24, h5, show (300 : Int32) = nI 300 from rfl, if_pos (by rw [lt_nI (by omega) (by omega)]; omega), nI_1, bnd_x]
theorem FWB_25 {σ : St} {t : Nat} : FWB σ a0 a1 t 25 = some (σ.1 15 6, σ) := by
  unfold FWB
  rw [if_neg (by decide), if_neg (by decide), if_neg (by decide), if_neg (by decide), if_neg (by decide), if_neg (by decide), if_neg (by decide), if_neg (by decide), if_pos (by decide)]
theorem FWB_19 {σ : St} {t : Nat} : FWB σ a0 a1 t 19 = (bd2 (Li_isSo σ a1 15 (nI t)) (fun r21 σ22 => if r21 = 0 then (chk true (some (((jmax (nI t) (σ22.1 (15 + 6) t)) + 1), σ22))) else (some ((nI t + 1), σ22)))) := by
  unfold FWB
  rw [if_neg (by decide), if_neg (by decide), if_pos (by decide)]
theorem FWB_23 {σ : St} {t : Nat} : FWB σ a0 a1 t 23 = some (nI t + 1, wI σ (a0 + 1) t (σ.1 (15 + 5) t)) := by
  unfold FWB
  rw [if_neg (by decide), if_neg (by decide), if_neg (by decide), if_neg (by decide), if_neg (by decide), if_neg (by decide), if_pos (by decide), chk_true, chk_true, bnd_x]
noncomputable def FWE (τ : St) (a0 t : Nat) (m r : Int32) : Option (Int32 × St) := if r = 0 then (bnd (wI τ a0 3 (m + 1)) (fun σ9 => some ((nI t + 1), σ9))) else (bnd (wI τ a0 3 (m + 0)) (fun σ10 => some ((nI t + 1), σ10)))
theorem FWB_17 {σ : St} {t : Nat} : FWB σ a0 a1 t 17 = bd2 (Li_partIfItCan σ a1 (σ.1 (15 + 4) t) (σ.1 (15 + 5) t)) (fun r τ => FWE τ a0 t (σ.1 a0 3) r) := by
  unfold FWB FWE
  rw [if_pos (by decide), chk_true, chk_true]
theorem FWB_18 {σ : St} {t : Nat} : FWB σ a0 a1 t 18 = bd2 (Li_chance σ a0 a1) (fun r τ => FWE τ a0 t (σ.1 a0 3) r) := by
  unfold FWB FWE
  rw [if_neg (by decide), if_pos (by decide)]
theorem FWB_act {σ : St} {t k : Nat} (hk : k < 17) : FWB σ a0 a1 t k = bd2 (Li_act σ a0 a1 15 (nI t)) (fun r τ => FWE τ a0 t (σ.1 a0 3) r) := by
  have nk : ∀ x : Nat, 17 ≤ x → x < 100 → ¬ nI k = nI x := fun x y1 y2 => by rw [eq_nI (by omega) (by omega)]; omega
  unfold FWB FWE
  rw [if_neg (show ¬ nI k = 17 from nk 17 (by omega) (by omega)), if_neg (show ¬ nI k = 18 from nk 18 (by omega) (by omega)), if_neg (show ¬ nI k = 19 from nk 19 (by omega) (by omega)), if_neg (show ¬ nI k = 20 from nk 20 (by omega) (by omega)), if_neg (show ¬ nI k = 21 from nk 21 (by omega) (by omega)), if_neg (show ¬ nI k = 22 from nk 22 (by omega) (by omega)), if_neg (show ¬ nI k = 23 from nk 23 (by omega) (by omega)), if_neg (show ¬ nI k = 24 from nk 24 (by omega) (by omega)), if_neg (show ¬ nI k = 25 from nk 25 (by omega) (by omega))]
end FOLc
