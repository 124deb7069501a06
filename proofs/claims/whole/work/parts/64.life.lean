/-! days as they are lived: a pure picture -/
def inc (q : Nat → Nat) (i : Nat) : Nat → Nat := fset q i (q i + 1)
def pflip (s : Nat × Nat × (Nat → Nat) × (Nat → Nat) × (Nat → Nat)) (k : Nat) : Nat × Nat × (Nat → Nat) × (Nat → Nat) × (Nat → Nat) := (s.1, s.2.1 ^^^ 2 ^ k, s.2.2)
def pslide (s : Nat × Nat × (Nat → Nat) × (Nat → Nat) × (Nat → Nat)) (m : Nat) : Nat × Nat × (Nat → Nat) × (Nat → Nat) × (Nat → Nat) := (s.1, s.2.1, slid s.2.2.1 s.2.2.2.1 m s.1, s.2.2.2)
def psplit (s : Nat × Nat × (Nat → Nat) × (Nat → Nat) × (Nat → Nat)) (k m : Nat) : Nat × Nat × (Nat → Nat) × (Nat → Nat) × (Nat → Nat) := (s.1 + (m - 1), sO s.1 k s.2.1 (m - 1), sR s.1 k s.2.2.1 s.2.2.2.1 (m - 1), sM s.1 k m s.2.2.2.1 (m - 1), sN s.1 s.2.2.2.2 (m - 1))
def fcnt (s : Nat × Nat × (Nat → Nat) × (Nat → Nat) × (Nat → Nat)) (k : Nat) (q : Nat → Nat) : Nat → Nat := if s.2.1.testBit k = true then inc q 2 else inc q 1
def nxs (e : Nat) : Nat := (e * 3299 + 11531) % 65536
def pany (od : Nat) (s : Nat × Nat × (Nat → Nat) × (Nat → Nat) × (Nat → Nat)) (q : Nat → Nat) : Bool × (Nat × Nat × (Nat → Nat) × (Nat → Nat) × (Nat → Nat)) × (Nat → Nat) := if s.1 = 0 then (false, s, q) else if nxs (nxs (q 6)) / 8 % 16 < od then (true, pflip s (nxs (q 6) / 8 % s.1), fcnt s (nxs (q 6) / 8 % s.1) (fset q 6 (nxs (nxs (q 6))))) else (true, pslide s 1, inc (fset q 6 (nxs (nxs (q 6)))) 3)
def pact (od kd wh nu : Nat) (s : Nat × Nat × (Nat → Nat) × (Nat → Nat) × (Nat → Nat)) (q : Nat → Nat) : Bool × (Nat × Nat × (Nat → Nat) × (Nat → Nat) × (Nat → Nat)) × (Nat → Nat) := if kd = 14 then (if s.2.1.testBit wh = true then (true, pflip s wh, fcnt s wh q) else (false, s, q)) else if kd = 15 then (if wh < s.1 ∧ ¬ s.2.1.testBit wh = true then (true, pflip s wh, fcnt s wh q) else (false, s, q)) else if kd = 16 then (if nu = 0 then (false, s, q) else (true, pslide s nu, inc q 3)) else if kd = 17 then (if wh < s.1 ∧ s.1 + nu - 1 ≤ 12 ∧ s.2.2.2.1 wh * nu ≤ 60 then (true, psplit s wh nu, q) else (false, s, q)) else if kd = 18 then pany od s q else (true, s, q)
def cmpb (G sg nu : Nat) : Bool := if sg = 6 then decide (G < nu) else if sg = 7 then decide (nu < G) else decide (G = nu)
def ptst (te sg wh nu : Nat) (s : Nat × Nat × (Nat → Nat) × (Nat → Nat) × (Nat → Nat)) : Bool := if te = 15 then s.2.1.testBit wh else if te = 20 then decide (¬ spn s.2.2.2.1 s.2.1 s.1 = 0 ∧ gpn s.1 s.2.1 s.2.2.1 s.2.2.2.1 (spn s.2.2.2.1 s.2.1 s.1) = 0) else if te = 21 then !decide (cset s.1 s.2.1 s.2.2.1 s.2.2.2.1 nu = 0) else !decide (spn s.2.2.2.1 s.2.1 s.1 = 0) && cmpb (gpn s.1 s.2.1 s.2.2.1 s.2.2.2.1 (spn s.2.2.2.1 s.2.1 s.1)) sg nu
theorem WFt.flip {od k : Nat} {s : Nat × Nat × (Nat → Nat) × (Nat → Nat) × (Nat → Nat)} (w : WFt od s) (hk : k < s.1) : WFt od (pflip s k) := WF.flip w hk
theorem WFt.slide {od m : Nat} {s : Nat × Nat × (Nat → Nat) × (Nat → Nat) × (Nat → Nat)} (w : WFt od s) : WFt od (pslide s m) := WF.rs w (slid_lt w m s.1)
theorem WFt.split {od k m : Nat} {s : Nat × Nat × (Nat → Nat) × (Nat → Nat) × (Nat → Nat)} (w : WFt od s) (hk : k < s.1) (hm : 2 ≤ m) (h12 : s.1 + m - 1 ≤ 12) (h60 : s.2.2.2.1 k * m ≤ 60) : WFt od (psplit s k m) := sWF w hk (by omega) h60 (m - 1) (by omega) (by omega)
theorem WFt.lt {od k : Nat} {s : Nat × Nat × (Nat → Nat) × (Nat → Nat) × (Nat → Nat)} (w : WFt od s) (h : s.2.1.testBit k = true) : k < s.1 := Nat.lt_of_not_le (fun z => by rw [WF.bit w z] at h; exact absurd h (by decide))
theorem nxs_lt (e : Nat) : nxs e < 65536 := Nat.mod_lt _ (by decide)
theorem pact_w {od kd wh nu : Nat} {s : Nat × Nat × (Nat → Nat) × (Nat → Nat) × (Nat → Nat)} {q : Nat → Nat} (w : WFt od s) (hq : q 6 < 65536) (h17 : kd = 17 → 2 ≤ nu) : WFt od (pact od kd wh nu s q).2.1 ∧ (pact od kd wh nu s q).2.2 6 < 65536 ∧ (pact od kd wh nu s q).2.2 5 = q 5 ∧ (pact od kd wh nu s q).2.2 4 = q 4 ∧ (pact od kd wh nu s q).2.2 0 = q 0 := by
  have fc : ∀ (s : Nat × Nat × (Nat → Nat) × (Nat → Nat) × (Nat → Nat)) k (q : Nat → Nat), fcnt s k q 6 = q 6 ∧ fcnt s k q 5 = q 5 ∧ fcnt s k q 4 = q 4 ∧ fcnt s k q 0 = q 0 := fun s k q => by
    unfold fcnt inc
    split
    · exact ⟨fset_2 _ _ (by omega), fset_2 _ _ (by omega), fset_2 _ _ (by omega), fset_2 _ _ (by omega)⟩
    · exact ⟨fset_2 _ _ (by omega), fset_2 _ _ (by omega), fset_2 _ _ (by omega), fset_2 _ _ (by omega)⟩
  have i3 : ∀ (q : Nat → Nat), inc q 3 6 = q 6 ∧ inc q 3 5 = q 5 ∧ inc q 3 4 = q 4 ∧ inc q 3 0 = q 0 := fun q => ⟨fset_2 _ _ (by omega), fset_2 _ _ (by omega), fset_2 _ _ (by omega), fset_2 _ _ (by omega)⟩
  unfold pact
  by_cases k14 : kd = 14
  · rw [if_pos k14]
    by_cases z : s.2.1.testBit wh = true
    · rw [if_pos z]
      obtain ⟨f1, f2, f3, f4⟩ := fc s wh q
      exact ⟨w.flip (w.lt z), by show fcnt s wh q 6 < 65536; omega, f2, f3, f4⟩
    · rw [if_neg z]; exact ⟨w, hq, rfl, rfl, rfl⟩
  · rw [if_neg k14]
    by_cases k15 : kd = 15
    · rw [if_pos k15]
      by_cases z : wh < s.1 ∧ ¬ s.2.1.testBit wh = true
      · rw [if_pos z]
        obtain ⟨f1, f2, f3, f4⟩ := fc s wh q
        exact ⟨w.flip z.1, by show fcnt s wh q 6 < 65536; omega, f2, f3, f4⟩
      · rw [if_neg z]; exact ⟨w, hq, rfl, rfl, rfl⟩
    · rw [if_neg k15]
      by_cases k16 : kd = 16
      · rw [if_pos k16]
        by_cases z : nu = 0
        · rw [if_pos z]; exact ⟨w, hq, rfl, rfl, rfl⟩
        · rw [if_neg z]
          obtain ⟨f1, f2, f3, f4⟩ := i3 q
          exact ⟨w.slide, by show inc q 3 6 < 65536; omega, f2, f3, f4⟩
      · rw [if_neg k16]
        by_cases k17 : kd = 17
        · rw [if_pos k17]
          by_cases z : wh < s.1 ∧ s.1 + nu - 1 ≤ 12 ∧ s.2.2.2.1 wh * nu ≤ 60
          · rw [if_pos z]; exact ⟨w.split z.1 (h17 k17) z.2.1 z.2.2, hq, rfl, rfl, rfl⟩
          · rw [if_neg z]; exact ⟨w, hq, rfl, rfl, rfl⟩
        · rw [if_neg k17]
          by_cases k18 : kd = 18
          · rw [if_pos k18]
            unfold pany
            by_cases z : s.1 = 0
            · rw [if_pos z]; exact ⟨w, hq, rfl, rfl, rfl⟩
            · rw [if_neg z]
              have hl := nxs_lt (nxs (q 6))
              by_cases y : nxs (nxs (q 6)) / 8 % 16 < od
              · rw [if_pos y]
                obtain ⟨f1, f2, f3, f4⟩ := fc s (nxs (q 6) / 8 % s.1) (fset q 6 (nxs (nxs (q 6))))
                refine ⟨w.flip (Nat.mod_lt _ (by omega)), ?_, f2.trans (fset_2 _ _ (by omega)), f3.trans (fset_2 _ _ (by omega)), f4.trans (fset_2 _ _ (by omega))⟩
                show fcnt s (nxs (q 6) / 8 % s.1) (fset q 6 (nxs (nxs (q 6)))) 6 < 65536
                rw [f1, fset_1]; exact hl
              · rw [if_neg y]
                obtain ⟨f1, f2, f3, f4⟩ := i3 (fset q 6 (nxs (nxs (q 6))))
                refine ⟨w.slide, ?_, f2.trans (fset_2 _ _ (by omega)), f3.trans (fset_2 _ _ (by omega)), f4.trans (fset_2 _ _ (by omega))⟩
                show inc (fset q 6 (nxs (nxs (q 6)))) 3 6 < 65536
                rw [f1, fset_1]; exact hl
          · rw [if_neg k18]; exact ⟨w, hq, rfl, rfl, rfl⟩
/-! the class's -/
def LA (a0 a1 : Nat) : Prop := (a0 = 47 ∧ a1 = 7) ∨ (a0 = 49 ∧ a1 = 11)
def CQ (σ : St) (a0 a1 od : Nat) (s : Nat × Nat × (Nat → Nat) × (Nat → Nat) × (Nat → Nat)) (q : Nat → Nat) : Prop := CV σ a1 s.1 od s.2.1 s.2.2.1 s.2.2.2.1 s.2.2.2.2 ∧ σ.1 a0 2 = nI (q 5) ∧ σ.1 a0 3 = nI (q 0) ∧ σ.1 a0 4 = nI (q 1) ∧ σ.1 a0 5 = nI (q 2) ∧ σ.1 a0 6 = nI (q 3) ∧ σ.1 a0 7 = nI (q 4) ∧ σ.1 a0 8 = nI (q 6)
section LIC
variable {σ : St} {a0 a1 od : Nat} {s : Nat × Nat × (Nat → Nat) × (Nat → Nat) × (Nat → Nat)} {q : Nat → Nat}
theorem CQ.c2 (h : CQ σ a0 a1 od s q) (hA : LA a0 a1) (x : Nat) : CQ (wI σ a0 2 (nI x)) a0 a1 od s (fset q 5 x) := ⟨h.1.keep ((Fp.wI (A := fun a i => a = a0) Fp.rf rfl).sm (fun b i z1 z2 z => by unfold LA at hA; omega)), by rw [fset_1]; exact wI_s, by rw [fset_2 _ _ (by omega)]; exact (wI_ne (by omega)).trans h.2.2.1, by rw [fset_2 _ _ (by omega)]; exact (wI_ne (by omega)).trans h.2.2.2.1, by rw [fset_2 _ _ (by omega)]; exact (wI_ne (by omega)).trans h.2.2.2.2.1, by rw [fset_2 _ _ (by omega)]; exact (wI_ne (by omega)).trans h.2.2.2.2.2.1, by rw [fset_2 _ _ (by omega)]; exact (wI_ne (by omega)).trans h.2.2.2.2.2.2.1, by rw [fset_2 _ _ (by omega)]; exact (wI_ne (by omega)).trans h.2.2.2.2.2.2.2⟩
theorem CQ.c3 (h : CQ σ a0 a1 od s q) (hA : LA a0 a1) (x : Nat) : CQ (wI σ a0 3 (nI x)) a0 a1 od s (fset q 0 x) := ⟨h.1.keep ((Fp.wI (A := fun a i => a = a0) Fp.rf rfl).sm (fun b i z1 z2 z => by unfold LA at hA; omega)), by rw [fset_2 _ _ (by omega)]; exact (wI_ne (by omega)).trans h.2.1, by rw [fset_1]; exact wI_s, by rw [fset_2 _ _ (by omega)]; exact (wI_ne (by omega)).trans h.2.2.2.1, by rw [fset_2 _ _ (by omega)]; exact (wI_ne (by omega)).trans h.2.2.2.2.1, by rw [fset_2 _ _ (by omega)]; exact (wI_ne (by omega)).trans h.2.2.2.2.2.1, by rw [fset_2 _ _ (by omega)]; exact (wI_ne (by omega)).trans h.2.2.2.2.2.2.1, by rw [fset_2 _ _ (by omega)]; exact (wI_ne (by omega)).trans h.2.2.2.2.2.2.2⟩
theorem CQ.c4 (h : CQ σ a0 a1 od s q) (hA : LA a0 a1) (x : Nat) : CQ (wI σ a0 4 (nI x)) a0 a1 od s (fset q 1 x) := ⟨h.1.keep ((Fp.wI (A := fun a i => a = a0) Fp.rf rfl).sm (fun b i z1 z2 z => by unfold LA at hA; omega)), by rw [fset_2 _ _ (by omega)]; exact (wI_ne (by omega)).trans h.2.1, by rw [fset_2 _ _ (by omega)]; exact (wI_ne (by omega)).trans h.2.2.1, by rw [fset_1]; exact wI_s, by rw [fset_2 _ _ (by omega)]; exact (wI_ne (by omega)).trans h.2.2.2.2.1, by rw [fset_2 _ _ (by omega)]; exact (wI_ne (by omega)).trans h.2.2.2.2.2.1, by rw [fset_2 _ _ (by omega)]; exact (wI_ne (by omega)).trans h.2.2.2.2.2.2.1, by rw [fset_2 _ _ (by omega)]; exact (wI_ne (by omega)).trans h.2.2.2.2.2.2.2⟩
theorem CQ.c5 (h : CQ σ a0 a1 od s q) (hA : LA a0 a1) (x : Nat) : CQ (wI σ a0 5 (nI x)) a0 a1 od s (fset q 2 x) := ⟨h.1.keep ((Fp.wI (A := fun a i => a = a0) Fp.rf rfl).sm (fun b i z1 z2 z => by unfold LA at hA; omega)), by rw [fset_2 _ _ (by omega)]; exact (wI_ne (by omega)).trans h.2.1, by rw [fset_2 _ _ (by omega)]; exact (wI_ne (by omega)).trans h.2.2.1, by rw [fset_2 _ _ (by omega)]; exact (wI_ne (by omega)).trans h.2.2.2.1, by rw [fset_1]; exact wI_s, by rw [fset_2 _ _ (by omega)]; exact (wI_ne (by omega)).trans h.2.2.2.2.2.1, by rw [fset_2 _ _ (by omega)]; exact (wI_ne (by omega)).trans h.2.2.2.2.2.2.1, by rw [fset_2 _ _ (by omega)]; exact (wI_ne (by omega)).trans h.2.2.2.2.2.2.2⟩
theorem CQ.c6 (h : CQ σ a0 a1 od s q) (hA : LA a0 a1) (x : Nat) : CQ (wI σ a0 6 (nI x)) a0 a1 od s (fset q 3 x) := ⟨h.1.keep ((Fp.wI (A := fun a i => a = a0) Fp.rf rfl).sm (fun b i z1 z2 z => by unfold LA at hA; omega)), by rw [fset_2 _ _ (by omega)]; exact (wI_ne (by omega)).trans h.2.1, by rw [fset_2 _ _ (by omega)]; exact (wI_ne (by omega)).trans h.2.2.1, by rw [fset_2 _ _ (by omega)]; exact (wI_ne (by omega)).trans h.2.2.2.1, by rw [fset_2 _ _ (by omega)]; exact (wI_ne (by omega)).trans h.2.2.2.2.1, by rw [fset_1]; exact wI_s, by rw [fset_2 _ _ (by omega)]; exact (wI_ne (by omega)).trans h.2.2.2.2.2.2.1, by rw [fset_2 _ _ (by omega)]; exact (wI_ne (by omega)).trans h.2.2.2.2.2.2.2⟩
theorem CQ.c7 (h : CQ σ a0 a1 od s q) (hA : LA a0 a1) (x : Nat) : CQ (wI σ a0 7 (nI x)) a0 a1 od s (fset q 4 x) := ⟨h.1.keep ((Fp.wI (A := fun a i => a = a0) Fp.rf rfl).sm (fun b i z1 z2 z => by unfold LA at hA; omega)), by rw [fset_2 _ _ (by omega)]; exact (wI_ne (by omega)).trans h.2.1, by rw [fset_2 _ _ (by omega)]; exact (wI_ne (by omega)).trans h.2.2.1, by rw [fset_2 _ _ (by omega)]; exact (wI_ne (by omega)).trans h.2.2.2.1, by rw [fset_2 _ _ (by omega)]; exact (wI_ne (by omega)).trans h.2.2.2.2.1, by rw [fset_2 _ _ (by omega)]; exact (wI_ne (by omega)).trans h.2.2.2.2.2.1, by rw [fset_1]; exact wI_s, by rw [fset_2 _ _ (by omega)]; exact (wI_ne (by omega)).trans h.2.2.2.2.2.2.2⟩
theorem CQ.c8 (h : CQ σ a0 a1 od s q) (hA : LA a0 a1) (x : Nat) : CQ (wI σ a0 8 (nI x)) a0 a1 od s (fset q 6 x) := ⟨h.1.keep ((Fp.wI (A := fun a i => a = a0) Fp.rf rfl).sm (fun b i z1 z2 z => by unfold LA at hA; omega)), by rw [fset_2 _ _ (by omega)]; exact (wI_ne (by omega)).trans h.2.1, by rw [fset_2 _ _ (by omega)]; exact (wI_ne (by omega)).trans h.2.2.1, by rw [fset_2 _ _ (by omega)]; exact (wI_ne (by omega)).trans h.2.2.2.1, by rw [fset_2 _ _ (by omega)]; exact (wI_ne (by omega)).trans h.2.2.2.2.1, by rw [fset_2 _ _ (by omega)]; exact (wI_ne (by omega)).trans h.2.2.2.2.2.1, by rw [fset_2 _ _ (by omega)]; exact (wI_ne (by omega)).trans h.2.2.2.2.2.2.1, by rw [fset_1]; exact wI_s⟩
theorem CQ.keep (h : CQ σ a0 a1 od s q) {σ2 : St} {s2 : Nat × Nat × (Nat → Nat) × (Nat → Nat) × (Nat → Nat)} (hv : CV σ2 a1 s2.1 od s2.2.1 s2.2.2.1 s2.2.2.2.1 s2.2.2.2.2) (F : ∀ i, σ2.1 a0 i = σ.1 a0 i) : CQ σ2 a0 a1 od s2 q := ⟨hv, (F 2).trans h.2.1, (F 3).trans h.2.2.1, (F 4).trans h.2.2.2.1, (F 5).trans h.2.2.2.2.1, (F 6).trans h.2.2.2.2.2.1, (F 7).trans h.2.2.2.2.2.2.1, (F 8).trans h.2.2.2.2.2.2.2⟩
theorem flipC (h : CQ σ a0 a1 od s q) (hA : LA a0 a1) (w : WFt od s) {k : Nat} (hk : k < s.1) : ∃ σ', Li_flip σ a0 a1 (nI k) = some (1, σ') ∧ CQ σ' a0 a1 od (pflip s k) (fcnt s k q) := by
  have hc : s.1 ≤ 12 := w.1
  have h1 : CQ (wI σ a1 4 (nI (s.2.1 ^^^ 2 ^ k))) a0 a1 od (pflip s k) q := h.keep (h.1.on' _) (fun i => wI_ne (by unfold LA at hA; omega))
  have hb : (s.2.1 ^^^ 2 ^ k).testBit k = !s.2.1.testBit k := by rw [xor_bit]; simp
  have hon := isOn_n h1.1 (w.flip hk) (k := k) (by omega)
  rw [show (pflip s k).2.1 = s.2.1 ^^^ 2 ^ k from rfl, hb] at hon
  unfold fcnt
  by_cases z : s.2.1.testBit k = true
  · rw [z] at hon
    refine ⟨_, ?_, by rw [if_pos z]; exact h1.c5 hA _⟩
    unfold Li_flip
    rw [flip_n h.1 w hk, bd_s, hon, bd_s, if_pos (by decide), h1.2.2.2.2.1, nI_1, bnd_x]
  · have z' : s.2.1.testBit k = false := by simpa using z
    rw [z'] at hon
    refine ⟨_, ?_, by rw [if_neg z]; exact h1.c4 hA _⟩
    unfold Li_flip
    rw [flip_n h.1 w hk, bd_s, hon, bd_s, if_neg (by decide), h1.2.2.2.1, nI_1, bnd_x]
theorem slideC (h : CQ σ a0 a1 od s q) (hA : LA a0 a1) (w : WFt od s) {m : Nat} (hm : m ≤ 59) : ∃ σ', Li_slide σ a0 a1 (nI m) = some (1, σ') ∧ CQ σ' a0 a1 od (pslide s m) (inc q 3) := by
  obtain ⟨τ, t1, t2⟩ := slide_n h.1 w hm
  have F : Fp (fun a i => a = a1 + 1) σ τ := fp_Cl_slide Fp.rf (fun _ => rfl) _ t1
  have h1 : CQ τ a0 a1 od (pslide s m) q := h.keep t2 (fun i => F.i (by unfold LA at hA; omega))
  refine ⟨_, ?_, h1.c6 hA _⟩
  unfold Li_slide
  rw [t1, bd_s, h1.2.2.2.2.2.1, nI_1, bnd_x]
theorem drawC (h : CQ σ a0 a1 od s q) (hA : LA a0 a1) (hq : q 6 < 65536) {m : Nat} (hm1 : 1 ≤ m) (hm : m ≤ 60) : Li_draw σ a0 (nI m) = some (nI (nxs (q 6) / 8 % m), wI σ a0 8 (nI (nxs (q 6)))) := by
  have hl := nxs_lt (q 6)
  unfold Li_draw
  rw [show nzI 65536 = true from by decide, chk_true, h.2.2.2.2.2.2.2, show (3299 : Int32) = nI 3299 from rfl, show (11531 : Int32) = nI 11531 from rfl, show (65536 : Int32) = nI 65536 from rfl, pk_mul, nI_add, rem_nI (by omega) (by omega) (by omega), show (q 6 * 3299 + 11531) % 65536 = nxs (q 6) from rfl, bnd_x, show nzI 8 = true from by decide, chk_true, wI_s, show (8 : Int32) = nI 8 from rfl, div_nI (by omega) (by omega) (by omega), leftBy_n (by omega) (by omega) (by omega), bd_s]
theorem chanceC (h : CQ σ a0 a1 od s q) (hA : LA a0 a1) (w : WFt od s) (hq : q 6 < 65536) : ∃ σ', Li_chance σ a0 a1 = some ((if (pany od s q).1 = true then 1 else 0), σ') ∧ CQ σ' a0 a1 od (pany od s q).2.1 (pany od s q).2.2 := by
  have hc : s.1 ≤ 12 := w.1
  have hod : od ≤ 16 := w.2.1
  unfold pany
  by_cases z : s.1 = 0
  · rw [if_pos z]
    refine ⟨σ, ?_, h⟩
    unfold Li_chance
    rw [h.1.1, if_pos (by rw [z]; rfl)]
    rfl
  · have h1 := h.c8 hA (nxs (q 6))
    have h2 := h1.c8 hA (nxs (nxs (q 6)))
    have d1 := drawC h hA hq (m := s.1) (by omega) (by omega)
    have d2 := drawC h1 hA (by rw [fset_1]; exact nxs_lt _) (m := 16) (by omega) (by omega)
    rw [fset_1] at d2
    have hqq : fset (fset q 6 (nxs (q 6))) 6 (nxs (nxs (q 6))) = fset q 6 (nxs (nxs (q 6))) := by
      funext j
      unfold fset
      by_cases e : j = 6
      · rw [if_pos e, if_pos e]
      · rw [if_neg e, if_neg e, if_neg e]
    rw [hqq] at h2
    have d2' : Li_draw (wI σ a0 8 (nI (nxs (q 6)))) a0 16 = some (nI (nxs (nxs (q 6)) / 8 % 16), wI (wI σ a0 8 (nI (nxs (q 6)))) a0 8 (nI (nxs (nxs (q 6))))) := d2
    have hpre : Li_chance σ a0 a1 = if nI od ≤ nI (nxs (nxs (q 6)) / 8 % 16) then (bd2 (Li_slide (wI (wI σ a0 8 (nI (nxs (q 6)))) a0 8 (nI (nxs (nxs (q 6))))) a0 a1 1) (fun r8 σ9 => chk (ckz r8) (some (r8, σ9)))) else (bd2 (Li_flip (wI (wI σ a0 8 (nI (nxs (q 6)))) a0 8 (nI (nxs (nxs (q 6))))) a0 a1 (nI (nxs (q 6) / 8 % s.1))) (fun r12 σ13 => chk (ckz r12) (some (r12, σ13)))) := by
      unfold Li_chance
      rw [h.1.1, if_neg (by rw [show (0 : Int32) = nI 0 from rfl, eq_nI (by omega) (by omega)]; exact z), d1, bd2_s, d2', bd2_s, h2.1.2.2.1]
    have hm16 : nxs (nxs (q 6)) / 8 % 16 < 16 := Nat.mod_lt _ (by omega)
    rw [if_neg z]
    by_cases y : nxs (nxs (q 6)) / 8 % 16 < od
    · rw [if_pos y]
      obtain ⟨τ, t1, t2⟩ := flipC h2 hA w (k := nxs (q 6) / 8 % s.1) (Nat.mod_lt _ (by omega))
      refine ⟨τ, ?_, t2⟩
      rw [hpre, if_neg (by rw [le_nI (by omega) (by omega)]; omega), t1, bd2_s, ckl1, chk_true]
      rfl
    · rw [if_neg y]
      obtain ⟨τ, t1, t2⟩ := slideC h2 hA w (m := 1) (by omega)
      have t1' : Li_slide (wI (wI σ a0 8 (nI (nxs (q 6)))) a0 8 (nI (nxs (nxs (q 6))))) a0 a1 1 = some (1, τ) := t1
      refine ⟨τ, ?_, t2⟩
      rw [hpre, if_pos (by rw [le_nI (by omega) (by omega)]; omega), t1', bd2_s, ckl1, chk_true]
      rfl
theorem partC (h : CQ σ a0 a1 od s q) (hA : LA a0 a1) (w : WFt od s) {k m : Nat} (hk : k < 12) (hm : 2 ≤ m) (hm7 : m ≤ 7) : ∃ σ', Li_partIfItCan σ a1 (nI k) (nI m) = some ((if (pact od 17 k m s q).1 = true then 1 else 0), σ') ∧ CQ σ' a0 a1 od (pact od 17 k m s q).2.1 (pact od 17 k m s q).2.2 := by
  have hc : s.1 ≤ 12 := w.1
  have ep : pact od 17 k m s q = if k < s.1 ∧ s.1 + m - 1 ≤ 12 ∧ s.2.2.2.1 k * m ≤ 60 then (true, psplit s k m, q) else (false, s, q) := rfl
  rw [ep]
  have hth := isThere_g h.1.1 (by omega) (nI k)
  by_cases z1 : k < s.1
  · rw [if_pos (by rw [ix_nI z1 (by omega)])] at hth
    have htb := partT_n h.1 w z1 (show 1 ≤ m by omega) hm7
    by_cases z2 : s.1 + m - 1 ≤ 12
    · by_cases z3 : s.2.2.2.1 k * m ≤ 60
      · rw [if_pos (show (k < s.1 ∧ s.1 + m - 1 ≤ 12 ∧ s.2.2.2.1 k * m ≤ 60) from ⟨z1, z2, z3⟩)]
        rw [if_pos z2, if_pos z3] at htb
        obtain ⟨τ, t1, t2⟩ := part_n h.1 w z1 hm hm7 z2 z3
        have F : Fp (fun a i => a1 ≤ a ∧ a ≤ a1 + 3) σ τ := fp_Cl_part Fp.rf (by omega) (by omega) (fun i => by omega) (fun i => by omega) (fun i => by omega) _ t1
        refine ⟨τ, ?_, h.keep t2 (fun i => F.i (by unfold LA at hA; omega))⟩
        unfold Li_partIfItCan
        rw [hth, bd_s, if_neg (by decide), htb, bd_s, if_pos rfl, t1, bd_s]
        rfl
      · rw [if_neg (show ¬ (k < s.1 ∧ s.1 + m - 1 ≤ 12 ∧ s.2.2.2.1 k * m ≤ 60) from fun y => z3 y.2.2)]
        rw [if_pos z2, if_neg z3] at htb
        refine ⟨σ, ?_, h⟩
        unfold Li_partIfItCan
        rw [hth, bd_s, if_neg (by decide), htb, bd_s, if_neg (by decide)]
        rfl
    · rw [if_neg (show ¬ (k < s.1 ∧ s.1 + m - 1 ≤ 12 ∧ s.2.2.2.1 k * m ≤ 60) from fun y => z2 y.2.1)]
      rw [if_neg z2] at htb
      refine ⟨σ, ?_, h⟩
      unfold Li_partIfItCan
      rw [hth, bd_s, if_neg (by decide), htb, bd_s, if_neg (by decide)]
      rfl
  · rw [if_neg (show ¬ (k < s.1 ∧ s.1 + m - 1 ≤ 12 ∧ s.2.2.2.1 k * m ≤ 60) from fun y => z1 y.1)]
    have hnx : ¬ ix (nI k) s.1 = true := fun e => by
      obtain ⟨j, j1, j2, j3⟩ := ix_ex e
      have := (eq_nI (by omega) (by omega)).mp j2
      omega
    rw [if_neg hnx] at hth
    refine ⟨σ, ?_, h⟩
    unfold Li_partIfItCan
    rw [hth, bd_s, if_pos rfl]
    rfl
end LIC
