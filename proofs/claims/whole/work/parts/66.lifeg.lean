section FOLg
variable {od n : Nat} {kd te sg wh nu pa : Nat → Nat} {a0 a1 : Nat} {s : Nat × Nat × (Nat → Nat) × (Nat → Nat) × (Nat → Nat)} {q R : Nat → Nat}
theorem followC {σ : St} {L : Nat × (Nat × Nat × (Nat → Nat) × (Nat → Nat) × (Nat → Nat)) × (Nat → Nat) × (Nat → Nat)} (h : CL σ a0 a1 od n kd pa L) (hA : LA a0 a1) (hI : PI od n kd pa L) (D : DVc σ 15 n kd te sg wh nu pa) (wd : WD n kd te sg wh nu pa) (ht : L.1 < n) : ∃ σ', Li_follow σ a0 a1 15 (nI L.1) = some (nI (stp od n kd te sg wh nu pa L).1, σ') ∧ CL σ' a0 a1 od n kd pa (stp od n kd te sg wh nu pa L) := by
  obtain ⟨t, s, q, R⟩ := L
  obtain ⟨i1, i2, i3, i4, i5⟩ := hI
  obtain ⟨hq, hr⟩ := h
  by_cases k24 : kd t = 24
  · exact folEnd hq hA i1 hr D wd ht i5 k24
  · by_cases k300 : 300 ≤ q 5
    · exact folCut hq hA i1 hr D wd ht k24 k300 i3
    · have z : q 5 < 300 := by omega
      by_cases k25 : kd t = 25
      · exact fol25 hq hA i1 hr D wd ht k24 z k25
      · by_cases k19 : kd t = 19
        · exact fol19 hq hA i1 hr D wd ht k24 z k19
        · by_cases k23 : kd t = 23
          · exact fol23 hq hA i1 hr D wd ht k24 z k23
          · exact folAct hq hA i1 hr D wd ht k24 z i2 k25 k19 k23
end FOLg
