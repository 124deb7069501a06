section PUR
variable {od n : Nat} {kd te sg wh nu pa : Nat → Nat}
def stp (od n : Nat) (kd te sg wh nu pa : Nat → Nat) (L : Nat × (Nat × Nat × (Nat → Nat) × (Nat → Nat) × (Nat → Nat)) × (Nat → Nat) × (Nat → Nat)) : Nat × (Nat × Nat × (Nat → Nat) × (Nat → Nat) × (Nat → Nat)) × (Nat → Nat) × (Nat → Nat) :=
  if kd L.1 = 24 then (if kd (pa L.1) = 23 then ((if 1 < L.2.2.2 (pa L.1) then pa L.1 + 1 else L.1 + 1), L.2.1, L.2.2.1, fset L.2.2.2 (pa L.1) (L.2.2.2 (pa L.1) - 1)) else (L.1 + 1, L.2))
  else if 300 ≤ L.2.2.1 5 then (n, L.2.1, fset L.2.2.1 4 1, L.2.2.2)
  else if kd L.1 = 25 then (n, L.2.1, inc L.2.2.1 5, L.2.2.2)
  else if kd L.1 = 19 then ((if ptst (te L.1) (sg L.1) (wh L.1) (nu L.1) L.2.1 = true then L.1 + 1 else pa L.1 + 1), L.2.1, inc L.2.2.1 5, L.2.2.2)
  else if kd L.1 = 23 then (L.1 + 1, L.2.1, inc L.2.2.1 5, fset L.2.2.2 L.1 (nu L.1))
  else (L.1 + 1, (pact od (kd L.1) (wh L.1) (nu L.1) L.2.1 (inc L.2.2.1 5)).2.1, (if (pact od (kd L.1) (wh L.1) (nu L.1) L.2.1 (inc L.2.2.1 5)).1 = true then (pact od (kd L.1) (wh L.1) (nu L.1) L.2.1 (inc L.2.2.1 5)).2.2 else inc (pact od (kd L.1) (wh L.1) (nu L.1) L.2.1 (inc L.2.2.1 5)).2.2 0), L.2.2.2)
def opn (kd pa : Nat → Nat) (t j : Nat) : Prop := j < t ∧ t ≤ pa j ∧ (kd j = 19 ∨ kd j = 23)
theorem o_plain (wd : WD n kd te sg wh nu pa) {t : Nat} (ht : t < n) (h1 : ¬ kd t = 19) (h2 : ¬ kd t = 23) (h3 : ¬ kd t = 24) {j : Nat} (hj : j < n) : opn kd pa (t + 1) j ↔ opn kd pa t j := by
  unfold opn
  constructor
  · rintro ⟨a, b, c⟩
    have : ¬ j = t := fun e => by rw [e] at c; omega
    exact ⟨by omega, by omega, c⟩
  · rintro ⟨a, b, c⟩
    obtain ⟨p1, p2, p3, p4⟩ := (wd.2 j hj).2.2.2.2.2.2.2.2.1 c
    have : ¬ pa j = t := fun e => by rw [e] at p3; omega
    exact ⟨by omega, by omega, c⟩
theorem o_open (wd : WD n kd te sg wh nu pa) {t : Nat} (ht : t < n) (h1 : kd t = 19 ∨ kd t = 23) {j : Nat} (hj : j < n) : opn kd pa (t + 1) j ↔ opn kd pa t j ∨ j = t := by
  obtain ⟨q1, q2, q3, q4⟩ := (wd.2 t ht).2.2.2.2.2.2.2.2.1 h1
  unfold opn
  constructor
  · rintro ⟨a, b, c⟩
    by_cases e : j = t
    · exact Or.inr e
    · exact Or.inl ⟨by omega, by omega, c⟩
  · rintro (⟨a, b, c⟩ | e)
    · obtain ⟨p1, p2, p3, p4⟩ := (wd.2 j hj).2.2.2.2.2.2.2.2.1 c
      have : ¬ pa j = t := fun e => by rw [e] at p3; omega
      exact ⟨by omega, by omega, c⟩
    · rw [e]; exact ⟨by omega, by omega, h1⟩
theorem o_in (wd : WD n kd te sg wh nu pa) {k j : Nat} (hk : k < n) (h : kd k = 24) (hj : j < n) (hop : kd j = 19 ∨ kd j = 23) (hjk : ¬ j = pa k) : (j < pa k ∧ (pa j < pa k ∨ k < pa j)) ∨ (pa k < j ∧ j < k ∧ pa j < k) ∨ k < j := by
  obtain ⟨e1, e2, e3, e4⟩ := (wd.2 k hk).2.2.2.2.2.2.2.2.2 h
  obtain ⟨p1, p2, p3, p4⟩ := (wd.2 j hj).2.2.2.2.2.2.2.2.1 hop
  have hjk2 : ¬ j = k := fun e => by rw [e] at hop; omega
  have hne : ¬ pa j = k := fun e => hjk (by rw [← e, p4])
  rcases Nat.lt_or_ge j (pa k) with z | z
  · left
    refine ⟨z, ?_⟩
    have hne2 : ¬ pa j = pa k := fun e => by rw [e] at p3; omega
    rcases Nat.lt_or_ge (pa j) (pa k) with y | y
    · exact Or.inl y
    · right
      apply Nat.lt_of_not_le
      intro x
      have := (e4 (pa j) (by omega) (by omega) (by unfold wantsP; omega)).1
      rw [p4] at this
      omega
  · rcases Nat.lt_or_ge j k with y | y
    · right; left
      exact ⟨by omega, y, (e4 j (by omega) y (by unfold wantsP; omega)).2⟩
    · right; right; omega
theorem o_end (wd : WD n kd te sg wh nu pa) {k : Nat} (hk : k < n) (h : kd k = 24) {j : Nat} (hj : j < n) : (opn kd pa (k + 1) j ↔ opn kd pa k j ∧ ¬ j = pa k) ∧ (opn kd pa (pa k + 1) j ↔ opn kd pa k j) ∧ (j = pa k → opn kd pa k j) := by
  obtain ⟨e1, e2, e3, e4⟩ := (wd.2 k hk).2.2.2.2.2.2.2.2.2 h
  by_cases e : j = pa k
  · subst e
    have ho : opn kd pa k (pa k) := ⟨by omega, by omega, e2⟩
    refine ⟨⟨fun z => ?_, fun z => absurd rfl z.2⟩, ⟨fun _ => ho, fun _ => ⟨by omega, by omega, e2⟩⟩, fun _ => ho⟩
    unfold opn at z; omega
  · refine ⟨?_, ?_, fun z => absurd z e⟩
    · constructor
      · rintro ⟨a, b, c⟩
        have := o_in wd hk h hj c e
        have hjk2 : ¬ j = k := fun z => by rw [z] at c; omega
        exact ⟨⟨by omega, by omega, c⟩, e⟩
      · rintro ⟨⟨a, b, c⟩, _⟩
        have := o_in wd hk h hj c e
        obtain ⟨p1, p2, p3, p4⟩ := (wd.2 j hj).2.2.2.2.2.2.2.2.1 c
        have hne : ¬ pa j = k := fun z => e (by rw [← z, p4])
        exact ⟨by omega, by omega, c⟩
    · constructor
      · rintro ⟨a, b, c⟩
        have := o_in wd hk h hj c e
        exact ⟨by omega, by omega, c⟩
      · rintro ⟨a, b, c⟩
        have := o_in wd hk h hj c e
        exact ⟨by omega, by omega, c⟩
theorem o_skip (wd : WD n kd te sg wh nu pa) {t : Nat} (ht : t < n) (h : kd t = 19 ∨ kd t = 23) {j : Nat} (hj : j < n) : opn kd pa (pa t + 1) j ↔ opn kd pa t j := by
  obtain ⟨q1, q2, q3, q4⟩ := (wd.2 t ht).2.2.2.2.2.2.2.2.1 h
  have o1 := (o_end wd q2 q3 hj).1
  have o2 := (o_end wd q2 q3 hj).2.1
  rw [q4] at o1 o2
  rw [o1, ← o2, o_open wd ht h hj]
  constructor
  · rintro ⟨z | z, y⟩
    · exact z
    · exact absurd z y
  · intro z
    refine ⟨Or.inl z, fun y => ?_⟩
    rw [y] at z
    unfold opn at z
    omega
def PI (od n : Nat) (kd pa : Nat → Nat) (L : Nat × (Nat × Nat × (Nat → Nat) × (Nat → Nat) × (Nat → Nat)) × (Nat → Nat) × (Nat → Nat)) : Prop := WFt od L.2.1 ∧ L.2.2.1 6 < 65536 ∧ L.2.2.1 5 ≤ 300 ∧ L.1 ≤ n ∧ ∀ j, j < n → opn kd pa L.1 j → kd j = 23 → 1 ≤ L.2.2.2 j ∧ L.2.2.2 j ≤ 99
theorem inc5 (q : Nat → Nat) : inc q 5 5 = q 5 + 1 ∧ inc q 5 6 = q 6 ∧ inc q 5 4 = q 4 ∧ inc q 5 0 = q 0 := ⟨fset_1 .., fset_2 _ _ (by omega), fset_2 _ _ (by omega), fset_2 _ _ (by omega)⟩
theorem inc0 (q : Nat → Nat) : inc q 0 5 = q 5 ∧ inc q 0 6 = q 6 ∧ inc q 0 4 = q 4 := ⟨fset_2 _ _ (by omega), fset_2 _ _ (by omega), fset_2 _ _ (by omega)⟩
/-- what a step keeps, and what falls -/
def opb (kd pa : Nat → Nat) (t j : Nat) : Bool := decide (j < t) && (decide (t ≤ pa j) && (decide (kd j = 19) || decide (kd j = 23)))
theorem opb_n (kd pa : Nat → Nat) (t j : Nat) : opb kd pa t j = true ↔ opn kd pa t j := by
  unfold opb opn
  rw [Bool.and_eq_true, Bool.and_eq_true, Bool.or_eq_true, decide_eq_true_iff, decide_eq_true_iff, decide_eq_true_iff, decide_eq_true_iff]
def pot (kd pa : Nat → Nat) (R : Nat → Nat) (t j : Nat) : Nat := if opb kd pa t j = true then (if kd j = 23 then R j else 1) else 0
def Mp (n : Nat) (kd pa : Nat → Nat) (L : Nat × (Nat × Nat × (Nat → Nat) × (Nat → Nat) × (Nat → Nat)) × (Nat → Nat) × (Nat → Nat)) : Nat := (300 - L.2.2.1 5) * 100 + fb_sm (pot kd pa L.2.2.2 L.1) n
theorem pot_eq {R R' : Nat → Nat} {t t' : Nat} (h : ∀ j, j < n → (opn kd pa t' j ↔ opn kd pa t j)) (hR : ∀ j, j < n → opn kd pa t j → kd j = 23 → R' j = R j) : fb_sm (pot kd pa R' t') n = fb_sm (pot kd pa R t) n := fb_sm_cong (fun j hj => by
  unfold pot
  by_cases z : opn kd pa t j
  · rw [if_pos ((opb_n kd pa t' j).mpr ((h j hj).mpr z)), if_pos ((opb_n kd pa t j).mpr z)]
    by_cases y : kd j = 23
    · rw [if_pos y, if_pos y, hR j hj z y]
    · rw [if_neg y, if_neg y]
  · rw [if_neg (fun y => z ((h j hj).mp ((opb_n kd pa t' j).mp y))), if_neg (fun y => z ((opb_n kd pa t j).mp y))])
theorem pot_one {R R' : Nat → Nat} {t t' i v : Nat} (hi : i < n) (h : ∀ j, j < n → ¬ j = i → (opn kd pa t' j ↔ opn kd pa t j)) (hR : ∀ j, j < n → ¬ j = i → R' j = R j) (hv : pot kd pa R' t' i = v) : fb_sm (pot kd pa R' t') n + pot kd pa R t i = fb_sm (pot kd pa R t) n + v := by
  have e : fb_sm (pot kd pa R' t') n = fb_sm (fun k => if k = i then v else pot kd pa R t k) n := fb_sm_cong (fun j hj => by
    by_cases z : j = i
    · rw [if_pos z, z, hv]
    · rw [if_neg z]
      unfold pot
      by_cases y : opn kd pa t j
      · rw [if_pos ((opb_n kd pa t' j).mpr ((h j hj z).mpr y)), if_pos ((opb_n kd pa t j).mpr y), hR j hj z]
      · rw [if_neg (fun x => y ((h j hj z).mp ((opb_n kd pa t' j).mp x))), if_neg (fun x => y ((opb_n kd pa t j).mp x))])
  rw [e]
  exact fb_sm_upd (pot kd pa R t) v hi
theorem stp_n (wd : WD n kd te sg wh nu pa) {L : Nat × (Nat × Nat × (Nat → Nat) × (Nat → Nat) × (Nat → Nat)) × (Nat → Nat) × (Nat → Nat)} (hI : PI od n kd pa L) (ht : L.1 < n) : PI od n kd pa (stp od n kd te sg wh nu pa L) ∧ ((stp od n kd te sg wh nu pa L).1 < n → Mp n kd pa (stp od n kd te sg wh nu pa L) < Mp n kd pa L) := by
  obtain ⟨t, s, q, R⟩ := L
  obtain ⟨i1, i2, i3, i4, i5⟩ := hI
  have i2' : q 6 < 65536 := i2
  have i3' : q 5 ≤ 300 := i3
  have ht' : t < n := ht
  have i5' : ∀ j, j < n → opn kd pa t j → kd j = 23 → 1 ≤ R j ∧ R j ≤ 99 := i5
  have hw := wd.2 t ht'
  unfold stp
  by_cases k24 : kd t = 24
  · rw [if_pos k24]
    obtain ⟨e1, e2, e3, e4⟩ := hw.2.2.2.2.2.2.2.2.2 k24
    have hpn : pa t < n := by omega
    have hop : opn kd pa t (pa t) := (o_end wd ht' k24 hpn).2.2 rfl
    by_cases k23 : kd (pa t) = 23
    · rw [if_pos k23]
      obtain ⟨r1, r2⟩ := i5' (pa t) hpn hop k23
      have hold : pot kd pa R t (pa t) = R (pa t) := by unfold pot; rw [if_pos ((opb_n kd pa t (pa t)).mpr hop), if_pos k23]
      by_cases z : 1 < R (pa t)
      · refine ⟨⟨i1, i2', i3', ?_, fun j hj ho hk => ?_⟩, fun _ => ?_⟩
        · show (if 1 < R (pa t) then pa t + 1 else t + 1) ≤ n
          rw [if_pos z]; omega
        · have ho' : opn kd pa (if 1 < R (pa t) then pa t + 1 else t + 1) j := ho
          rw [if_pos z] at ho'
          show 1 ≤ fset R (pa t) (R (pa t) - 1) j ∧ fset R (pa t) (R (pa t) - 1) j ≤ 99
          by_cases e : j = pa t
          · rw [e, fset_1]; omega
          · rw [fset_2 _ _ e]; exact i5' j hj ((o_end wd ht' k24 hj).2.1.mp ho') hk
        · show (300 - q 5) * 100 + fb_sm (pot kd pa (fset R (pa t) (R (pa t) - 1)) (if 1 < R (pa t) then pa t + 1 else t + 1)) n < (300 - q 5) * 100 + fb_sm (pot kd pa R t) n
          rw [if_pos z]
          have := pot_one (R := R) (R' := fset R (pa t) (R (pa t) - 1)) (t := t) (t' := pa t + 1) (v := R (pa t) - 1) hpn (fun j hj _ => (o_end wd ht' k24 hj).2.1) (fun j hj e => fset_2 _ _ e) (by
            unfold pot
            rw [if_pos ((opb_n kd pa (pa t + 1) (pa t)).mpr ((o_end wd ht' k24 hpn).2.1.mpr hop)), if_pos k23, fset_1])
          rw [hold] at this
          omega
      · refine ⟨⟨i1, i2', i3', ?_, fun j hj ho hk => ?_⟩, fun _ => ?_⟩
        · show (if 1 < R (pa t) then pa t + 1 else t + 1) ≤ n
          rw [if_neg z]; omega
        · have ho' : opn kd pa (if 1 < R (pa t) then pa t + 1 else t + 1) j := ho
          rw [if_neg z] at ho'
          obtain ⟨y1, y2⟩ := (o_end wd ht' k24 hj).1.mp ho'
          show 1 ≤ fset R (pa t) (R (pa t) - 1) j ∧ fset R (pa t) (R (pa t) - 1) j ≤ 99
          rw [fset_2 _ _ y2]; exact i5' j hj y1 hk
        · show (300 - q 5) * 100 + fb_sm (pot kd pa (fset R (pa t) (R (pa t) - 1)) (if 1 < R (pa t) then pa t + 1 else t + 1)) n < (300 - q 5) * 100 + fb_sm (pot kd pa R t) n
          rw [if_neg z]
          have := pot_one (R := R) (R' := fset R (pa t) (R (pa t) - 1)) (t := t) (t' := t + 1) (v := 0) hpn (fun j hj e => ⟨fun y => ((o_end wd ht' k24 hj).1.mp y).1, fun y => (o_end wd ht' k24 hj).1.mpr ⟨y, e⟩⟩) (fun j hj e => fset_2 _ _ e) (by
            unfold pot
            rw [if_neg (fun y => ((o_end wd ht' k24 hpn).1.mp ((opb_n kd pa (t + 1) (pa t)).mp y)).2 rfl)])
          rw [hold] at this
          omega
    · rw [if_neg k23]
      have hold : pot kd pa R t (pa t) = 1 := by unfold pot; rw [if_pos ((opb_n kd pa t (pa t)).mpr hop), if_neg k23]
      refine ⟨⟨i1, i2', i3', by show t + 1 ≤ n; omega, fun j hj ho hk => i5' j hj ((o_end wd ht' k24 hj).1.mp ho).1 hk⟩, fun _ => ?_⟩
      show (300 - q 5) * 100 + fb_sm (pot kd pa R (t + 1)) n < (300 - q 5) * 100 + fb_sm (pot kd pa R t) n
      have := pot_one (R := R) (R' := R) (t := t) (t' := t + 1) (v := 0) hpn (fun j hj e => ⟨fun y => ((o_end wd ht' k24 hj).1.mp y).1, fun y => (o_end wd ht' k24 hj).1.mpr ⟨y, e⟩⟩) (fun j hj e => rfl) (by
        unfold pot
        rw [if_neg (fun y => ((o_end wd ht' k24 hpn).1.mp ((opb_n kd pa (t + 1) (pa t)).mp y)).2 rfl)])
      rw [hold] at this
      omega
  · rw [if_neg k24]
    have clo : ∀ (q' : Nat → Nat) (s' : Nat × Nat × (Nat → Nat) × (Nat → Nat) × (Nat → Nat)), WFt od s' → q' 6 < 65536 → q' 5 ≤ 300 → PI od n kd pa (n, s', q', R) := fun q' s' y0 y1 y2 => ⟨y0, y1, y2, Nat.le_refl _, fun j hj ho hk => by
      have ho' : opn kd pa n j := ho
      obtain ⟨p1, p2, p3, p4⟩ := (wd.2 j hj).2.2.2.2.2.2.2.2.1 ho'.2.2
      unfold opn at ho'; omega⟩
    by_cases k300 : 300 ≤ q 5
    · rw [if_pos k300]
      exact ⟨clo _ _ i1 (by rw [fset_2 _ _ (by omega)]; exact i2') (by rw [fset_2 _ _ (by omega)]; exact i3'), fun z => absurd z (by show ¬ n < n; omega)⟩
    · rw [if_neg k300]
      obtain ⟨c1, c2, c3, c4⟩ := inc5 q
      by_cases k25 : kd t = 25
      · rw [if_pos k25]
        exact ⟨clo (inc q 5) s i1 (by omega) (by omega), fun z => absurd z (by show ¬ n < n; omega)⟩
      · rw [if_neg k25]
        by_cases k19 : kd t = 19
        · rw [if_pos k19]
          obtain ⟨p1, p2, p3, p4⟩ := hw.2.2.2.2.2.2.2.2.1 (Or.inl k19)
          by_cases z : ptst (te t) (sg t) (wh t) (nu t) s = true
          · refine ⟨⟨i1, by show inc q 5 6 < 65536; omega, by show inc q 5 5 ≤ 300; omega, ?_, fun j hj ho hk => ?_⟩, fun _ => ?_⟩
            · show (if ptst (te t) (sg t) (wh t) (nu t) s = true then t + 1 else pa t + 1) ≤ n
              rw [if_pos z]; omega
            · have ho' : opn kd pa (if ptst (te t) (sg t) (wh t) (nu t) s = true then t + 1 else pa t + 1) j := ho
              rw [if_pos z] at ho'
              rcases (o_open wd ht' (Or.inl k19) hj).mp ho' with y | y
              · exact i5' j hj y hk
              · rw [y] at hk; omega
            · show (300 - inc q 5 5) * 100 + fb_sm (pot kd pa R (if ptst (te t) (sg t) (wh t) (nu t) s = true then t + 1 else pa t + 1)) n < (300 - q 5) * 100 + fb_sm (pot kd pa R t) n
              rw [if_pos z, c1]
              have hnot : ¬ opn kd pa t t := fun y => by unfold opn at y; omega
              have := pot_one (R := R) (R' := R) (t := t) (t' := t + 1) (v := 1) ht' (fun j hj e => ⟨fun y => ((o_open wd ht' (Or.inl k19) hj).mp y).resolve_right e, fun y => (o_open wd ht' (Or.inl k19) hj).mpr (Or.inl y)⟩) (fun j hj e => rfl) (by
                unfold pot
                rw [if_pos ((opb_n kd pa (t + 1) t).mpr ((o_open wd ht' (Or.inl k19) ht').mpr (Or.inr rfl))), if_neg (by omega)])
              omega
          · refine ⟨⟨i1, by show inc q 5 6 < 65536; omega, by show inc q 5 5 ≤ 300; omega, ?_, fun j hj ho hk => ?_⟩, fun _ => ?_⟩
            · show (if ptst (te t) (sg t) (wh t) (nu t) s = true then t + 1 else pa t + 1) ≤ n
              rw [if_neg z]; omega
            · have ho' : opn kd pa (if ptst (te t) (sg t) (wh t) (nu t) s = true then t + 1 else pa t + 1) j := ho
              rw [if_neg z] at ho'
              exact i5' j hj ((o_skip wd ht' (Or.inl k19) hj).mp ho') hk
            · show (300 - inc q 5 5) * 100 + fb_sm (pot kd pa R (if ptst (te t) (sg t) (wh t) (nu t) s = true then t + 1 else pa t + 1)) n < (300 - q 5) * 100 + fb_sm (pot kd pa R t) n
              rw [if_neg z, c1, pot_eq (R := R) (R' := R) (t := t) (fun j hj => o_skip wd ht' (Or.inl k19) hj) (fun _ _ _ _ => rfl)]
              omega
        · rw [if_neg k19]
          by_cases k23 : kd t = 23
          · rw [if_pos k23]
            obtain ⟨u1, u2⟩ := hw.2.2.2.2.2.2.2.1 k23
            refine ⟨⟨i1, by show inc q 5 6 < 65536; omega, by show inc q 5 5 ≤ 300; omega, by show t + 1 ≤ n; omega, fun j hj ho hk => ?_⟩, fun _ => ?_⟩
            · show 1 ≤ fset R t (nu t) j ∧ fset R t (nu t) j ≤ 99
              by_cases e : j = t
              · rw [e, fset_1]; omega
              · rw [fset_2 _ _ e]
                exact i5' j hj (((o_open wd ht' (Or.inr k23) hj).mp ho).resolve_right e) hk
            · show (300 - inc q 5 5) * 100 + fb_sm (pot kd pa (fset R t (nu t)) (t + 1)) n < (300 - q 5) * 100 + fb_sm (pot kd pa R t) n
              rw [c1]
              have := pot_one (R := R) (R' := fset R t (nu t)) (t := t) (t' := t + 1) (v := nu t) ht' (fun j hj e => ⟨fun y => ((o_open wd ht' (Or.inr k23) hj).mp y).resolve_right e, fun y => (o_open wd ht' (Or.inr k23) hj).mpr (Or.inl y)⟩) (fun j hj e => fset_2 _ _ e) (by
                unfold pot
                rw [if_pos ((opb_n kd pa (t + 1) t).mpr ((o_open wd ht' (Or.inr k23) ht').mpr (Or.inr rfl))), if_pos k23, fset_1])
              omega
          · rw [if_neg k23]
            obtain ⟨w1, w2, w3, w4, w5⟩ := pact_w (od := od) (kd := kd t) (wh := wh t) (nu := nu t) (s := s) (q := inc q 5) i1 (by omega) (fun e => (hw.2.2.2.2.2.2.1 e).1)
            obtain ⟨P, hP⟩ : ∃ P, P = pact od (kd t) (wh t) (nu t) s (inc q 5) := ⟨_, rfl⟩
            have e0 : (t, s, q, R).1 = t := rfl
            show PI od n kd pa (t + 1, (pact od (kd t) (wh t) (nu t) s (inc q 5)).2.1, (if (pact od (kd t) (wh t) (nu t) s (inc q 5)).1 = true then (pact od (kd t) (wh t) (nu t) s (inc q 5)).2.2 else inc (pact od (kd t) (wh t) (nu t) s (inc q 5)).2.2 0), R) ∧ (t + 1 < n → (300 - (if (pact od (kd t) (wh t) (nu t) s (inc q 5)).1 = true then (pact od (kd t) (wh t) (nu t) s (inc q 5)).2.2 else inc (pact od (kd t) (wh t) (nu t) s (inc q 5)).2.2 0) 5) * 100 + fb_sm (pot kd pa R (t + 1)) n < (300 - q 5) * 100 + fb_sm (pot kd pa R t) n)
            rw [← hP] at w1 w2 w3 w4 w5 ⊢
            obtain ⟨d1, d2, d3⟩ := inc0 P.2.2
            have f5 : (if P.1 = true then P.2.2 else inc P.2.2 0) 5 = q 5 + 1 := by split <;> omega
            have f6 : (if P.1 = true then P.2.2 else inc P.2.2 0) 6 < 65536 := by split <;> omega
            refine ⟨⟨w1, f6, by show (if P.1 = true then P.2.2 else inc P.2.2 0) 5 ≤ 300; omega, by show t + 1 ≤ n; omega, fun j hj ho hk => i5' j hj ((o_plain wd ht' k19 k23 k24 hj).mp ho) hk⟩, fun _ => ?_⟩
            rw [f5, pot_eq (R := R) (R' := R) (t := t) (fun j hj => o_plain wd ht' k19 k23 k24 hj) (fun _ _ _ _ => rfl)]
            omega
def runL (od n : Nat) (kd te sg wh nu pa : Nat → Nat) : Nat → (Nat × (Nat × Nat × (Nat → Nat) × (Nat → Nat) × (Nat → Nat)) × (Nat → Nat) × (Nat → Nat)) → Nat × (Nat × Nat × (Nat → Nat) × (Nat → Nat) × (Nat → Nat)) × (Nat → Nat) × (Nat → Nat)
  | 0, L => L
  | f + 1, L => if L.1 < n then runL od n kd te sg wh nu pa f (stp od n kd te sg wh nu pa L) else L
theorem runL_st (wd : WD n kd te sg wh nu pa) : ∀ (f g : Nat) {L : Nat × (Nat × Nat × (Nat → Nat) × (Nat → Nat) × (Nat → Nat)) × (Nat → Nat) × (Nat → Nat)}, PI od n kd pa L → (L.1 < n → Mp n kd pa L < f) → (L.1 < n → Mp n kd pa L < g) → runL od n kd te sg wh nu pa f L = runL od n kd te sg wh nu pa g L
  | 0, 0, _, _, _, _ => rfl
  | 0, g + 1, L, hI, h1, h2 => by
    have hn : ¬ L.1 < n := fun z => by have := h1 z; omega
    show L = if L.1 < n then _ else L
    rw [if_neg hn]
  | f + 1, 0, L, hI, h1, h2 => by
    have hn : ¬ L.1 < n := fun z => by have := h2 z; omega
    show (if L.1 < n then _ else L) = L
    rw [if_neg hn]
  | f + 1, g + 1, L, hI, h1, h2 => by
    show (if L.1 < n then runL od n kd te sg wh nu pa f (stp od n kd te sg wh nu pa L) else L) = if L.1 < n then runL od n kd te sg wh nu pa g (stp od n kd te sg wh nu pa L) else L
    by_cases z : L.1 < n
    · rw [if_pos z, if_pos z]
      obtain ⟨s1, s2⟩ := stp_n wd hI z
      have := h1 z
      have := h2 z
      exact runL_st wd f g s1 (fun y => by have := s2 y; omega) (fun y => by have := s2 y; omega)
    · rw [if_neg z, if_neg z]
theorem runL_go (wd : WD n kd te sg wh nu pa) {f : Nat} {L : Nat × (Nat × Nat × (Nat → Nat) × (Nat → Nat) × (Nat → Nat)) × (Nat → Nat) × (Nat → Nat)} (hI : PI od n kd pa L) (h : L.1 < n) (hf : Mp n kd pa L < f) : runL od n kd te sg wh nu pa f (stp od n kd te sg wh nu pa L) = runL od n kd te sg wh nu pa f L := by
  obtain ⟨s1, s2⟩ := stp_n wd hI h
  obtain ⟨g, rfl⟩ : ∃ g, f = g + 1 := ⟨f - 1, by omega⟩
  have e : runL od n kd te sg wh nu pa (g + 1) L = runL od n kd te sg wh nu pa g (stp od n kd te sg wh nu pa L) := by
    show (if L.1 < n then _ else L) = _
    rw [if_pos h]
  rw [e]
  exact runL_st wd (g + 1) g s1 (fun y => by have := s2 y; omega) (fun y => by have := s2 y; omega)
theorem runL_end {f : Nat} {L : Nat × (Nat × Nat × (Nat → Nat) × (Nat → Nat) × (Nat → Nat)) × (Nat → Nat) × (Nat → Nat)} (h : ¬ L.1 < n) : runL od n kd te sg wh nu pa f L = L := by
  cases f with
  | zero => rfl
  | succ f =>
    show (if L.1 < n then _ else L) = L
    rw [if_neg h]
end PUR
