/-! row 3 holds bytes only -/
def ByT (σ : St) : Prop := ∀ k, vp_nar .byte (σ.1 3 k) = σ.1 3 k
theorem nar2 (x : Int32) : vp_nar .byte (vp_nar .byte x) = vp_nar .byte x := by
  show (x.toInt8.toInt32).toInt8.toInt32 = x.toInt8.toInt32
  rw [Int8.toInt8_toInt32]
theorem ByT.w {σ : St} (h : ByT σ) (i : Nat) (x : Int32) : ByT (wI σ 3 i (vp_nar .byte x)) := fun k => by
  by_cases e : k = i
  · rw [e, wI_s, nar2]
  · rw [wI_ne (by omega)]; exact h k
theorem ByT.o {σ : St} (h : ByT σ) {a i : Nat} (v : Int32) (ha : ¬ a = 3) : ByT (wI σ a i v) := fun k => by
  rw [wI_ne (by omega)]; exact h k
theorem ByT.keep {σ σ2 : St} (h : ByT σ) {A : Nat → Nat → Prop} (F : Fp A σ σ2) (hA : ∀ i, ¬ A 3 i) : ByT σ2 := fun k => by
  rw [F.i (hA k)]; exact h k
theorem by_append {σ : St} (h : ByT σ) (p : Int32) : OK ByT (Re_append σ p) := by
  unfold Re_append
  refine ok_bd (p := ByT) (ok_iter (p := fun s : (Int32 × St) => ByT s.2) (fun s hs => ?_) h) (fun r hr => ok_some hr)
  unfold Re_append_L3
  refine ok_ite (fun _ => ok_some hs) (fun _ => ok_ite (fun _ => ok_some hs) (fun _ => ok_chk (fun _ => ?_)))
  exact ok_bndS (Q := ByT) (hs.w _ _) (fun s2 h2 => ok_bndS (Q := ByT) (h2.o _ (by omega)) (fun s3 h3 => fun x e => by
    cases e
    exact h3))
