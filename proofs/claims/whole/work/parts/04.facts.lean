/-! The plain functions' own words: a check, a name, a step that may fail, a loop. -/
noncomputable def FUEL : Nat := Classical.choose (p := fun n : Nat => 1099511627776 ≤ n) ⟨1099511627776, Nat.le_refl _⟩
theorem FUEL_ge : 1099511627776 ≤ FUEL := Classical.choose_spec (p := fun n : Nat => 1099511627776 ≤ n) ⟨1099511627776, Nat.le_refl _⟩
def chk {α : Type} (b : Bool) (k : Option α) : Option α := if b = true then k else none
theorem chk_e {α : Type} {b : Bool} {k : Option α} {r : α} (h : chk b k = some r) : b = true ∧ k = some r := by
  unfold chk at h
  by_cases hb : b = true
  · rw [if_pos hb] at h; exact ⟨hb, h⟩
  · rw [if_neg hb] at h; cases h
def bnd {α β : Type} (x : α) (k : α → β) : β := k x
theorem bnd_e {α β : Type} {x : α} {k : α → β} {r : β} (h : bnd x k = r) : ∃ y, y = x ∧ k y = r := ⟨x, rfl, h⟩
def bd {α β : Type} (x : Option α) (k : α → Option β) : Option β := match x with
  | none => none
  | some a => k a
theorem bd_e {α β : Type} {x : Option α} {k : α → Option β} {r : β} (h : bd x k = some r) : ∃ a, x = some a ∧ k a = some r := by
  cases x with
  | none => cases h
  | some a => exact ⟨a, rfl, h⟩
def iter {S E : Type} (body : S → Option (S ⊕ E)) : Nat → S → Option E
  | 0, _ => none
  | n + 1, s => match body s with
    | none => none
    | some (.inl s') => iter body n s'
    | some (.inr e) => some e
theorem iter_go {S E : Type} {body : S → Option (S ⊕ E)} {G : S → Prop} {e : E} (step : ∀ s o, body s = some o → Sum.elim G (fun e' => e' = e) o → G s) : ∀ (n : Nat) (s : S), iter body n s = some e → G s := by
  intro n
  induction n with
  | zero => intro s h; cases h
  | succ n ih =>
    intro s h
    unfold iter at h
    cases hb : body s with
    | none => rw [hb] at h; cases h
    | some o =>
      rw [hb] at h
      cases o with
      | inl s' => exact step s _ hb (ih s' h)
      | inr e' => exact step s _ hb (Option.some.inj h)
theorem if_t {α : Type} {c : Prop} {d : Decidable c} {a b : α} {r : α} (hc : c) (h : @ite α c d a b = r) : a = r := by rw [if_pos hc] at h; exact h
theorem if_f {α : Type} {c : Prop} {d : Decidable c} {a b : α} {r : α} (hc : ¬ c) (h : @ite α c d a b = r) : b = r := by rw [if_neg hc] at h; exact h
def nzI (y : Int32) : Bool := decide (¬ y = 0)
theorem nzI_e {y : Int32} (h : nzI y = true) : ¬ y = 0 := of_decide_eq_true h
def nzL (y : Int64) : Bool := decide (¬ y = 0)
theorem nzL_e {y : Int64} (h : nzL y = true) : ¬ y = 0 := of_decide_eq_true h
theorem nz0 : narrow .boolean (.int 0) = .int 0 ∧ fits .boolean (.int 0) = true := by decide +kernel
theorem nz1 : narrow .boolean (.int 1) = .int 1 ∧ fits .boolean (.int 1) = true := by decide +kernel
def ckz (x : Int32) : Bool := decide (x = 0 ∨ x = 1)
theorem ckz_e {x : Int32} (h : ckz x = true) : narrow .boolean (.int x) = .int x ∧ fits .boolean (.int x) = true := by
  rcases of_decide_eq_true h with h | h
  · subst h; exact nz0
  · subst h; exact nz1
theorem room_ok {d' d mL : Nat} (h : d' + 1 ≤ d) (hm : mL ≤ 80) : d' + 1 ≤ (rm d).frames ∧ 8 + (mL + 11) + 100 * d' ≤ (rm d).locals := by
  refine ⟨h, ?_⟩
  show 8 + (mL + 11) + 100 * d' ≤ 100 * d
  omega
def bd2 {α0 α1 β : Type} (x : Option (α0 × α1)) (k : α0 → α1 → Option β) : Option β := match x with
  | none => none
  | some e => k e.1 e.2
theorem bd2_e {α0 α1 β : Type} {x : Option (α0 × α1)} {k : α0 → α1 → Option β} {r : β} (h : bd2 x k = some r) : ∃ x0 x1, x = some (x0, x1) ∧ k x0 x1 = some r := by
  cases x with
  | none => cases h
  | some e => exact ⟨e.1, e.2, rfl, h⟩
def bd3 {α0 α1 α2 β : Type} (x : Option (α0 × α1 × α2)) (k : α0 → α1 → α2 → Option β) : Option β := match x with
  | none => none
  | some e => k e.1 e.2.1 e.2.2
theorem bd3_e {α0 α1 α2 β : Type} {x : Option (α0 × α1 × α2)} {k : α0 → α1 → α2 → Option β} {r : β} (h : bd3 x k = some r) : ∃ x0 x1 x2, x = some (x0, x1, x2) ∧ k x0 x1 x2 = some r := by
  cases x with
  | none => cases h
  | some e => exact ⟨e.1, e.2.1, e.2.2, rfl, h⟩
def bd4 {α0 α1 α2 α3 β : Type} (x : Option (α0 × α1 × α2 × α3)) (k : α0 → α1 → α2 → α3 → Option β) : Option β := match x with
  | none => none
  | some e => k e.1 e.2.1 e.2.2.1 e.2.2.2
theorem bd4_e {α0 α1 α2 α3 β : Type} {x : Option (α0 × α1 × α2 × α3)} {k : α0 → α1 → α2 → α3 → Option β} {r : β} (h : bd4 x k = some r) : ∃ x0 x1 x2 x3, x = some (x0, x1, x2, x3) ∧ k x0 x1 x2 x3 = some r := by
  cases x with
  | none => cases h
  | some e => exact ⟨e.1, e.2.1, e.2.2.1, e.2.2.2, rfl, h⟩
def bd5 {α0 α1 α2 α3 α4 β : Type} (x : Option (α0 × α1 × α2 × α3 × α4)) (k : α0 → α1 → α2 → α3 → α4 → Option β) : Option β := match x with
  | none => none
  | some e => k e.1 e.2.1 e.2.2.1 e.2.2.2.1 e.2.2.2.2
theorem bd5_e {α0 α1 α2 α3 α4 β : Type} {x : Option (α0 × α1 × α2 × α3 × α4)} {k : α0 → α1 → α2 → α3 → α4 → Option β} {r : β} (h : bd5 x k = some r) : ∃ x0 x1 x2 x3 x4, x = some (x0, x1, x2, x3, x4) ∧ k x0 x1 x2 x3 x4 = some r := by
  cases x with
  | none => cases h
  | some e => exact ⟨e.1, e.2.1, e.2.2.1, e.2.2.2.1, e.2.2.2.2, rfl, h⟩
def bd6 {α0 α1 α2 α3 α4 α5 β : Type} (x : Option (α0 × α1 × α2 × α3 × α4 × α5)) (k : α0 → α1 → α2 → α3 → α4 → α5 → Option β) : Option β := match x with
  | none => none
  | some e => k e.1 e.2.1 e.2.2.1 e.2.2.2.1 e.2.2.2.2.1 e.2.2.2.2.2
theorem bd6_e {α0 α1 α2 α3 α4 α5 β : Type} {x : Option (α0 × α1 × α2 × α3 × α4 × α5)} {k : α0 → α1 → α2 → α3 → α4 → α5 → Option β} {r : β} (h : bd6 x k = some r) : ∃ x0 x1 x2 x3 x4 x5, x = some (x0, x1, x2, x3, x4, x5) ∧ k x0 x1 x2 x3 x4 x5 = some r := by
  cases x with
  | none => cases h
  | some e => exact ⟨e.1, e.2.1, e.2.2.1, e.2.2.2.1, e.2.2.2.2.1, e.2.2.2.2.2, rfl, h⟩
def bd7 {α0 α1 α2 α3 α4 α5 α6 β : Type} (x : Option (α0 × α1 × α2 × α3 × α4 × α5 × α6)) (k : α0 → α1 → α2 → α3 → α4 → α5 → α6 → Option β) : Option β := match x with
  | none => none
  | some e => k e.1 e.2.1 e.2.2.1 e.2.2.2.1 e.2.2.2.2.1 e.2.2.2.2.2.1 e.2.2.2.2.2.2
theorem bd7_e {α0 α1 α2 α3 α4 α5 α6 β : Type} {x : Option (α0 × α1 × α2 × α3 × α4 × α5 × α6)} {k : α0 → α1 → α2 → α3 → α4 → α5 → α6 → Option β} {r : β} (h : bd7 x k = some r) : ∃ x0 x1 x2 x3 x4 x5 x6, x = some (x0, x1, x2, x3, x4, x5, x6) ∧ k x0 x1 x2 x3 x4 x5 x6 = some r := by
  cases x with
  | none => cases h
  | some e => exact ⟨e.1, e.2.1, e.2.2.1, e.2.2.2.1, e.2.2.2.2.1, e.2.2.2.2.2.1, e.2.2.2.2.2.2, rfl, h⟩
def bd8 {α0 α1 α2 α3 α4 α5 α6 α7 β : Type} (x : Option (α0 × α1 × α2 × α3 × α4 × α5 × α6 × α7)) (k : α0 → α1 → α2 → α3 → α4 → α5 → α6 → α7 → Option β) : Option β := match x with
  | none => none
  | some e => k e.1 e.2.1 e.2.2.1 e.2.2.2.1 e.2.2.2.2.1 e.2.2.2.2.2.1 e.2.2.2.2.2.2.1 e.2.2.2.2.2.2.2
theorem bd8_e {α0 α1 α2 α3 α4 α5 α6 α7 β : Type} {x : Option (α0 × α1 × α2 × α3 × α4 × α5 × α6 × α7)} {k : α0 → α1 → α2 → α3 → α4 → α5 → α6 → α7 → Option β} {r : β} (h : bd8 x k = some r) : ∃ x0 x1 x2 x3 x4 x5 x6 x7, x = some (x0, x1, x2, x3, x4, x5, x6, x7) ∧ k x0 x1 x2 x3 x4 x5 x6 x7 = some r := by
  cases x with
  | none => cases h
  | some e => exact ⟨e.1, e.2.1, e.2.2.1, e.2.2.2.1, e.2.2.2.2.1, e.2.2.2.2.2.1, e.2.2.2.2.2.2.1, e.2.2.2.2.2.2.2, rfl, h⟩
def bd9 {α0 α1 α2 α3 α4 α5 α6 α7 α8 β : Type} (x : Option (α0 × α1 × α2 × α3 × α4 × α5 × α6 × α7 × α8)) (k : α0 → α1 → α2 → α3 → α4 → α5 → α6 → α7 → α8 → Option β) : Option β := match x with
  | none => none
  | some e => k e.1 e.2.1 e.2.2.1 e.2.2.2.1 e.2.2.2.2.1 e.2.2.2.2.2.1 e.2.2.2.2.2.2.1 e.2.2.2.2.2.2.2.1 e.2.2.2.2.2.2.2.2
theorem bd9_e {α0 α1 α2 α3 α4 α5 α6 α7 α8 β : Type} {x : Option (α0 × α1 × α2 × α3 × α4 × α5 × α6 × α7 × α8)} {k : α0 → α1 → α2 → α3 → α4 → α5 → α6 → α7 → α8 → Option β} {r : β} (h : bd9 x k = some r) : ∃ x0 x1 x2 x3 x4 x5 x6 x7 x8, x = some (x0, x1, x2, x3, x4, x5, x6, x7, x8) ∧ k x0 x1 x2 x3 x4 x5 x6 x7 x8 = some r := by
  cases x with
  | none => cases h
  | some e => exact ⟨e.1, e.2.1, e.2.2.1, e.2.2.2.1, e.2.2.2.2.1, e.2.2.2.2.2.1, e.2.2.2.2.2.2.1, e.2.2.2.2.2.2.2.1, e.2.2.2.2.2.2.2.2, rfl, h⟩
def bd10 {α0 α1 α2 α3 α4 α5 α6 α7 α8 α9 β : Type} (x : Option (α0 × α1 × α2 × α3 × α4 × α5 × α6 × α7 × α8 × α9)) (k : α0 → α1 → α2 → α3 → α4 → α5 → α6 → α7 → α8 → α9 → Option β) : Option β := match x with
  | none => none
  | some e => k e.1 e.2.1 e.2.2.1 e.2.2.2.1 e.2.2.2.2.1 e.2.2.2.2.2.1 e.2.2.2.2.2.2.1 e.2.2.2.2.2.2.2.1 e.2.2.2.2.2.2.2.2.1 e.2.2.2.2.2.2.2.2.2
theorem bd10_e {α0 α1 α2 α3 α4 α5 α6 α7 α8 α9 β : Type} {x : Option (α0 × α1 × α2 × α3 × α4 × α5 × α6 × α7 × α8 × α9)} {k : α0 → α1 → α2 → α3 → α4 → α5 → α6 → α7 → α8 → α9 → Option β} {r : β} (h : bd10 x k = some r) : ∃ x0 x1 x2 x3 x4 x5 x6 x7 x8 x9, x = some (x0, x1, x2, x3, x4, x5, x6, x7, x8, x9) ∧ k x0 x1 x2 x3 x4 x5 x6 x7 x8 x9 = some r := by
  cases x with
  | none => cases h
  | some e => exact ⟨e.1, e.2.1, e.2.2.1, e.2.2.2.1, e.2.2.2.2.1, e.2.2.2.2.2.1, e.2.2.2.2.2.2.1, e.2.2.2.2.2.2.2.1, e.2.2.2.2.2.2.2.2.1, e.2.2.2.2.2.2.2.2.2, rfl, h⟩
def bs0 { β : Type} (x : Option (β ⊕ Unit)) (k : Unit → Option β) : Option β := match x with
  | none => none
  | some (.inl t) => some t
  | some (.inr e) => k ()
theorem bs0_e { β : Type} {x : Option (β ⊕ Unit)} {k : Unit → Option β} {r : β} (h : bs0 x k = some r) : ∃ e, x = some e ∧ (∀ t, e = .inl t → r = t) ∧ (∀ (u : Unit), e = .inr u → k u = some r) := by
  cases x with
  | none => cases h
  | some e =>
    refine ⟨e, rfl, fun t ht => ?_, ?_⟩
    · subst ht; exact (Option.some.inj h).symm
    · intros; subst_vars; exact h
def bs1 {α0 β : Type} (x : Option (β ⊕ α0)) (k : α0 → Option β) : Option β := match x with
  | none => none
  | some (.inl t) => some t
  | some (.inr e) => k e
theorem bs1_e {α0 β : Type} {x : Option (β ⊕ α0)} {k : α0 → Option β} {r : β} (h : bs1 x k = some r) : ∃ e, x = some e ∧ (∀ t, e = .inl t → r = t) ∧ (∀ x0, e = .inr x0 → k x0 = some r) := by
  cases x with
  | none => cases h
  | some e =>
    refine ⟨e, rfl, fun t ht => ?_, ?_⟩
    · subst ht; exact (Option.some.inj h).symm
    · intros; subst_vars; exact h
def bs2 {α0 α1 β : Type} (x : Option (β ⊕ (α0 × α1))) (k : α0 → α1 → Option β) : Option β := match x with
  | none => none
  | some (.inl t) => some t
  | some (.inr e) => k e.1 e.2
theorem bs2_e {α0 α1 β : Type} {x : Option (β ⊕ (α0 × α1))} {k : α0 → α1 → Option β} {r : β} (h : bs2 x k = some r) : ∃ e, x = some e ∧ (∀ t, e = .inl t → r = t) ∧ (∀ x0 x1, e = .inr (x0, x1) → k x0 x1 = some r) := by
  cases x with
  | none => cases h
  | some e =>
    refine ⟨e, rfl, fun t ht => ?_, ?_⟩
    · subst ht; exact (Option.some.inj h).symm
    · intros; subst_vars; exact h
def bs3 {α0 α1 α2 β : Type} (x : Option (β ⊕ (α0 × α1 × α2))) (k : α0 → α1 → α2 → Option β) : Option β := match x with
  | none => none
  | some (.inl t) => some t
  | some (.inr e) => k e.1 e.2.1 e.2.2
theorem bs3_e {α0 α1 α2 β : Type} {x : Option (β ⊕ (α0 × α1 × α2))} {k : α0 → α1 → α2 → Option β} {r : β} (h : bs3 x k = some r) : ∃ e, x = some e ∧ (∀ t, e = .inl t → r = t) ∧ (∀ x0 x1 x2, e = .inr (x0, x1, x2) → k x0 x1 x2 = some r) := by
  cases x with
  | none => cases h
  | some e =>
    refine ⟨e, rfl, fun t ht => ?_, ?_⟩
    · subst ht; exact (Option.some.inj h).symm
    · intros; subst_vars; exact h
def bs4 {α0 α1 α2 α3 β : Type} (x : Option (β ⊕ (α0 × α1 × α2 × α3))) (k : α0 → α1 → α2 → α3 → Option β) : Option β := match x with
  | none => none
  | some (.inl t) => some t
  | some (.inr e) => k e.1 e.2.1 e.2.2.1 e.2.2.2
theorem bs4_e {α0 α1 α2 α3 β : Type} {x : Option (β ⊕ (α0 × α1 × α2 × α3))} {k : α0 → α1 → α2 → α3 → Option β} {r : β} (h : bs4 x k = some r) : ∃ e, x = some e ∧ (∀ t, e = .inl t → r = t) ∧ (∀ x0 x1 x2 x3, e = .inr (x0, x1, x2, x3) → k x0 x1 x2 x3 = some r) := by
  cases x with
  | none => cases h
  | some e =>
    refine ⟨e, rfl, fun t ht => ?_, ?_⟩
    · subst ht; exact (Option.some.inj h).symm
    · intros; subst_vars; exact h
def bs5 {α0 α1 α2 α3 α4 β : Type} (x : Option (β ⊕ (α0 × α1 × α2 × α3 × α4))) (k : α0 → α1 → α2 → α3 → α4 → Option β) : Option β := match x with
  | none => none
  | some (.inl t) => some t
  | some (.inr e) => k e.1 e.2.1 e.2.2.1 e.2.2.2.1 e.2.2.2.2
theorem bs5_e {α0 α1 α2 α3 α4 β : Type} {x : Option (β ⊕ (α0 × α1 × α2 × α3 × α4))} {k : α0 → α1 → α2 → α3 → α4 → Option β} {r : β} (h : bs5 x k = some r) : ∃ e, x = some e ∧ (∀ t, e = .inl t → r = t) ∧ (∀ x0 x1 x2 x3 x4, e = .inr (x0, x1, x2, x3, x4) → k x0 x1 x2 x3 x4 = some r) := by
  cases x with
  | none => cases h
  | some e =>
    refine ⟨e, rfl, fun t ht => ?_, ?_⟩
    · subst ht; exact (Option.some.inj h).symm
    · intros; subst_vars; exact h
def bs6 {α0 α1 α2 α3 α4 α5 β : Type} (x : Option (β ⊕ (α0 × α1 × α2 × α3 × α4 × α5))) (k : α0 → α1 → α2 → α3 → α4 → α5 → Option β) : Option β := match x with
  | none => none
  | some (.inl t) => some t
  | some (.inr e) => k e.1 e.2.1 e.2.2.1 e.2.2.2.1 e.2.2.2.2.1 e.2.2.2.2.2
theorem bs6_e {α0 α1 α2 α3 α4 α5 β : Type} {x : Option (β ⊕ (α0 × α1 × α2 × α3 × α4 × α5))} {k : α0 → α1 → α2 → α3 → α4 → α5 → Option β} {r : β} (h : bs6 x k = some r) : ∃ e, x = some e ∧ (∀ t, e = .inl t → r = t) ∧ (∀ x0 x1 x2 x3 x4 x5, e = .inr (x0, x1, x2, x3, x4, x5) → k x0 x1 x2 x3 x4 x5 = some r) := by
  cases x with
  | none => cases h
  | some e =>
    refine ⟨e, rfl, fun t ht => ?_, ?_⟩
    · subst ht; exact (Option.some.inj h).symm
    · intros; subst_vars; exact h
def bs7 {α0 α1 α2 α3 α4 α5 α6 β : Type} (x : Option (β ⊕ (α0 × α1 × α2 × α3 × α4 × α5 × α6))) (k : α0 → α1 → α2 → α3 → α4 → α5 → α6 → Option β) : Option β := match x with
  | none => none
  | some (.inl t) => some t
  | some (.inr e) => k e.1 e.2.1 e.2.2.1 e.2.2.2.1 e.2.2.2.2.1 e.2.2.2.2.2.1 e.2.2.2.2.2.2
theorem bs7_e {α0 α1 α2 α3 α4 α5 α6 β : Type} {x : Option (β ⊕ (α0 × α1 × α2 × α3 × α4 × α5 × α6))} {k : α0 → α1 → α2 → α3 → α4 → α5 → α6 → Option β} {r : β} (h : bs7 x k = some r) : ∃ e, x = some e ∧ (∀ t, e = .inl t → r = t) ∧ (∀ x0 x1 x2 x3 x4 x5 x6, e = .inr (x0, x1, x2, x3, x4, x5, x6) → k x0 x1 x2 x3 x4 x5 x6 = some r) := by
  cases x with
  | none => cases h
  | some e =>
    refine ⟨e, rfl, fun t ht => ?_, ?_⟩
    · subst ht; exact (Option.some.inj h).symm
    · intros; subst_vars; exact h
def bs8 {α0 α1 α2 α3 α4 α5 α6 α7 β : Type} (x : Option (β ⊕ (α0 × α1 × α2 × α3 × α4 × α5 × α6 × α7))) (k : α0 → α1 → α2 → α3 → α4 → α5 → α6 → α7 → Option β) : Option β := match x with
  | none => none
  | some (.inl t) => some t
  | some (.inr e) => k e.1 e.2.1 e.2.2.1 e.2.2.2.1 e.2.2.2.2.1 e.2.2.2.2.2.1 e.2.2.2.2.2.2.1 e.2.2.2.2.2.2.2
theorem bs8_e {α0 α1 α2 α3 α4 α5 α6 α7 β : Type} {x : Option (β ⊕ (α0 × α1 × α2 × α3 × α4 × α5 × α6 × α7))} {k : α0 → α1 → α2 → α3 → α4 → α5 → α6 → α7 → Option β} {r : β} (h : bs8 x k = some r) : ∃ e, x = some e ∧ (∀ t, e = .inl t → r = t) ∧ (∀ x0 x1 x2 x3 x4 x5 x6 x7, e = .inr (x0, x1, x2, x3, x4, x5, x6, x7) → k x0 x1 x2 x3 x4 x5 x6 x7 = some r) := by
  cases x with
  | none => cases h
  | some e =>
    refine ⟨e, rfl, fun t ht => ?_, ?_⟩
    · subst ht; exact (Option.some.inj h).symm
    · intros; subst_vars; exact h
theorem s_0 : shp[0]? = some (.inl (8, [0, 1, 1, 3, 4, 9, 13, 17, 24, 31, 32, 0, 33, 37, 38, 49, 51])) := rfl
theorem s_1 : shp[1]? = some (.inr (4, 4)) := rfl
theorem s_2 : shp[2]? = some (.inl (4, [5, 0, 0, 6, 7, 8, 0, 0, 1, 0, 0])) := rfl
theorem s_3 : shp[3]? = some (.inr (2, 900)) := rfl
theorem s_4 : shp[4]? = some (.inr (0, 901)) := rfl
theorem s_5 : shp[5]? = some (.inr (0, 901)) := rfl
theorem s_6 : shp[6]? = some (.inr (1, 901)) := rfl
theorem s_7 : shp[7]? = some (.inl (1, [10, 11, 12, 0, 0, 0])) := rfl
theorem s_8 : shp[8]? = some (.inr (0, 12)) := rfl
theorem s_9 : shp[9]? = some (.inr (0, 12)) := rfl
theorem s_10 : shp[10]? = some (.inr (1, 12)) := rfl
theorem s_11 : shp[11]? = some (.inl (1, [14, 15, 16, 0, 0, 0])) := rfl
theorem s_12 : shp[12]? = some (.inr (0, 12)) := rfl
theorem s_13 : shp[13]? = some (.inr (0, 12)) := rfl
theorem s_14 : shp[14]? = some (.inr (1, 12)) := rfl
theorem s_15 : shp[15]? = some (.inl (2, [18, 19, 20, 21, 22, 23, 0, 0, 0])) := rfl
theorem s_16 : shp[16]? = some (.inr (0, 60)) := rfl
theorem s_17 : shp[17]? = some (.inr (0, 60)) := rfl
theorem s_18 : shp[18]? = some (.inr (0, 60)) := rfl
theorem s_19 : shp[19]? = some (.inr (0, 60)) := rfl
theorem s_20 : shp[20]? = some (.inr (0, 60)) := rfl
theorem s_21 : shp[21]? = some (.inr (0, 60)) := rfl
theorem s_22 : shp[22]? = some (.inl (2, [25, 26, 27, 28, 29, 30, 0, 0, 0])) := rfl
theorem s_23 : shp[23]? = some (.inr (0, 60)) := rfl
theorem s_24 : shp[24]? = some (.inr (0, 60)) := rfl
theorem s_25 : shp[25]? = some (.inr (0, 60)) := rfl
theorem s_26 : shp[26]? = some (.inr (0, 60)) := rfl
theorem s_27 : shp[27]? = some (.inr (0, 60)) := rfl
theorem s_28 : shp[28]? = some (.inr (0, 60)) := rfl
theorem s_29 : shp[29]? = some (.inr (5, 3)) := rfl
theorem s_30 : shp[30]? = some (.inr (6, 3)) := rfl
theorem s_31 : shp[31]? = some (.inl (5, [34, 35, 36, 0, 0])) := rfl
theorem s_32 : shp[32]? = some (.inr (1, 79)) := rfl
theorem s_33 : shp[33]? = some (.inr (1, 79)) := rfl
theorem s_34 : shp[34]? = some (.inr (1, 64)) := rfl
theorem s_35 : shp[35]? = some (.inl (7, [0, 0, 0, 0])) := rfl
theorem s_36 : shp[36]? = some (.inl (0, [39, 40, 41, 0, 0, 0])) := rfl
theorem s_37 : shp[37]? = some (.inr (0, 6)) := rfl
theorem s_38 : shp[38]? = some (.inr (0, 6)) := rfl
theorem s_39 : shp[39]? = some (.inr (7, 7)) := rfl
theorem s_40 : shp[40]? = some (.inr (1, 79)) := rfl
theorem s_41 : shp[41]? = some (.inr (1, 79)) := rfl
theorem s_42 : shp[42]? = some (.inr (1, 79)) := rfl
theorem s_43 : shp[43]? = some (.inr (1, 79)) := rfl
theorem s_44 : shp[44]? = some (.inr (1, 79)) := rfl
theorem s_45 : shp[45]? = some (.inr (1, 79)) := rfl
theorem s_46 : shp[46]? = some (.inr (1, 79)) := rfl
theorem s_47 : shp[47]? = some (.inl (3, [50, 0, 0, 0, 0, 0, 0, 0, 0])) := rfl
theorem s_48 : shp[48]? = some (.inr (0, 60)) := rfl
theorem s_49 : shp[49]? = some (.inl (3, [52, 0, 0, 0, 0, 0, 0, 0, 0])) := rfl
theorem s_50 : shp[50]? = some (.inr (0, 60)) := rfl
theorem s_51 : shp[51]? = some (.inl (6, [54, 0, 0])) := rfl
theorem s_52 : shp[52]? = some (.inr (1, 60)) := rfl
theorem s_53 : shp[53]? = some (.inl (6, [56, 0, 0])) := rfl
theorem s_54 : shp[54]? = some (.inr (1, 60)) := rfl
theorem s_55 : shp[55]? = some (.inl (6, [58, 0, 0])) := rfl
theorem s_56 : shp[56]? = some (.inr (1, 60)) := rfl
theorem s_57 : shp[57]? = some (.inl (6, [60, 0, 0])) := rfl
theorem s_58 : shp[58]? = some (.inr (1, 60)) := rfl
theorem s_59 : shp[59]? = some (.inl (1, [62, 63, 64, 0, 0, 0])) := rfl
theorem s_60 : shp[60]? = some (.inr (0, 12)) := rfl
theorem s_61 : shp[61]? = some (.inr (0, 12)) := rfl
theorem s_62 : shp[62]? = some (.inr (1, 12)) := rfl
theorem s_63 : shp[63]? = some (.inl (2, [66, 67, 68, 69, 70, 71, 0, 0, 0])) := rfl
theorem s_64 : shp[64]? = some (.inr (0, 60)) := rfl
theorem s_65 : shp[65]? = some (.inr (0, 60)) := rfl
theorem s_66 : shp[66]? = some (.inr (0, 60)) := rfl
theorem s_67 : shp[67]? = some (.inr (0, 60)) := rfl
theorem s_68 : shp[68]? = some (.inr (0, 60)) := rfl
theorem s_69 : shp[69]? = some (.inr (0, 60)) := rfl
theorem s_70 : shp[70]? = some (.inl (1, [73, 74, 75, 0, 0, 0])) := rfl
theorem s_71 : shp[71]? = some (.inr (0, 12)) := rfl
theorem s_72 : shp[72]? = some (.inr (0, 12)) := rfl
theorem s_73 : shp[73]? = some (.inr (1, 12)) := rfl
theorem s_74 : shp[74]? = some (.inl (2, [77, 78, 79, 80, 81, 82, 0, 0, 0])) := rfl
theorem s_75 : shp[75]? = some (.inr (0, 60)) := rfl
theorem s_76 : shp[76]? = some (.inr (0, 60)) := rfl
theorem s_77 : shp[77]? = some (.inr (0, 60)) := rfl
theorem s_78 : shp[78]? = some (.inr (0, 60)) := rfl
theorem s_79 : shp[79]? = some (.inr (0, 60)) := rfl
theorem s_80 : shp[80]? = some (.inr (0, 60)) := rfl
theorem s_81 : shp[81]? = some (.inl (1, [84, 85, 86, 0, 0, 0])) := rfl
theorem s_82 : shp[82]? = some (.inr (0, 12)) := rfl
theorem s_83 : shp[83]? = some (.inr (0, 12)) := rfl
theorem s_84 : shp[84]? = some (.inr (1, 12)) := rfl
theorem s_85 : shp[85]? = some (.inl (2, [88, 89, 90, 91, 92, 93, 0, 0, 0])) := rfl
theorem s_86 : shp[86]? = some (.inr (0, 60)) := rfl
theorem s_87 : shp[87]? = some (.inr (0, 60)) := rfl
theorem s_88 : shp[88]? = some (.inr (0, 60)) := rfl
theorem s_89 : shp[89]? = some (.inr (0, 60)) := rfl
theorem s_90 : shp[90]? = some (.inr (0, 60)) := rfl
theorem s_91 : shp[91]? = some (.inr (0, 60)) := rfl
theorem s_92 : shp[92]? = some (.inl (9, [95, 96, 0, 1, 1, 97, 98, 99, 100, 101, 0, 0, 0, 0, 0, 0, 0, 0, 0, 0, 102, 0, 0, 0, 103, 104, 105, 106, 107, 108, 0, 109, 0, 0, 110, 111, 112, 0, 0])) := rfl
theorem s_93 : shp[93]? = some (.inr (0, 2060)) := rfl
theorem s_94 : shp[94]? = some (.inr (1, 60)) := rfl
theorem s_95 : shp[95]? = some (.inr (0, 4)) := rfl
theorem s_96 : shp[96]? = some (.inr (0, 4)) := rfl
theorem s_97 : shp[97]? = some (.inr (1, 240)) := rfl
theorem s_98 : shp[98]? = some (.inr (2, 900)) := rfl
theorem s_99 : shp[99]? = some (.inr (2, 900)) := rfl
theorem s_100 : shp[100]? = some (.inr (0, 3)) := rfl
theorem s_101 : shp[101]? = some (.inr (0, 5040)) := rfl
theorem s_102 : shp[102]? = some (.inr (3, 4096)) := rfl
theorem s_103 : shp[103]? = some (.inr (3, 5040)) := rfl
theorem s_104 : shp[104]? = some (.inr (0, 4)) := rfl
theorem s_105 : shp[105]? = some (.inr (0, 6)) := rfl
theorem s_106 : shp[106]? = some (.inr (0, 6)) := rfl
theorem s_107 : shp[107]? = some (.inr (1, 6)) := rfl
theorem s_108 : shp[108]? = some (.inr (0, 60)) := rfl
theorem s_109 : shp[109]? = some (.inr (0, 5)) := rfl
theorem s_110 : shp[110]? = some (.inr (0, 5)) := rfl
def okCl (a : Nat) : Prop := a = 7 ∨ a = 11 ∨ a = 59 ∨ a = 70 ∨ a = 81
theorem sCl_0 {a : Nat} (h : okCl a) : shp[a]? = some (.inl (1, [a + 1 + 2, a + 2 + 2, a + 3 + 2, 0, 0, 0])) := by
  rcases h with rfl | rfl | rfl | rfl | rfl <;> rfl
theorem sCl_1 {a : Nat} (h : okCl a) : shp[a + 1]? = some (.inr (0, 12)) := by
  rcases h with rfl | rfl | rfl | rfl | rfl <;> rfl
theorem sCl_2 {a : Nat} (h : okCl a) : shp[a + 2]? = some (.inr (0, 12)) := by
  rcases h with rfl | rfl | rfl | rfl | rfl <;> rfl
theorem sCl_3 {a : Nat} (h : okCl a) : shp[a + 3]? = some (.inr (1, 12)) := by
  rcases h with rfl | rfl | rfl | rfl | rfl <;> rfl
theorem oknCl_7 : okCl 7 := by unfold okCl; decide
theorem oknCl_11 : okCl 11 := by unfold okCl; decide
theorem oknCl_59 : okCl 59 := by unfold okCl; decide
theorem oknCl_70 : okCl 70 := by unfold okCl; decide
theorem oknCl_81 : okCl 81 := by unfold okCl; decide
def okDa (a : Nat) : Prop := a = 15 ∨ a = 22 ∨ a = 63 ∨ a = 74 ∨ a = 85
theorem sDa_0 {a : Nat} (h : okDa a) : shp[a]? = some (.inl (2, [a + 1 + 2, a + 2 + 2, a + 3 + 2, a + 4 + 2, a + 5 + 2, a + 6 + 2, 0, 0, 0])) := by
  rcases h with rfl | rfl | rfl | rfl | rfl <;> rfl
theorem sDa_1 {a : Nat} (h : okDa a) : shp[a + 1]? = some (.inr (0, 60)) := by
  rcases h with rfl | rfl | rfl | rfl | rfl <;> rfl
theorem sDa_2 {a : Nat} (h : okDa a) : shp[a + 2]? = some (.inr (0, 60)) := by
  rcases h with rfl | rfl | rfl | rfl | rfl <;> rfl
theorem sDa_3 {a : Nat} (h : okDa a) : shp[a + 3]? = some (.inr (0, 60)) := by
  rcases h with rfl | rfl | rfl | rfl | rfl <;> rfl
theorem sDa_4 {a : Nat} (h : okDa a) : shp[a + 4]? = some (.inr (0, 60)) := by
  rcases h with rfl | rfl | rfl | rfl | rfl <;> rfl
theorem sDa_5 {a : Nat} (h : okDa a) : shp[a + 5]? = some (.inr (0, 60)) := by
  rcases h with rfl | rfl | rfl | rfl | rfl <;> rfl
theorem sDa_6 {a : Nat} (h : okDa a) : shp[a + 6]? = some (.inr (0, 60)) := by
  rcases h with rfl | rfl | rfl | rfl | rfl <;> rfl
theorem oknDa_15 : okDa 15 := by unfold okDa; decide
theorem oknDa_22 : okDa 22 := by unfold okDa; decide
theorem oknDa_63 : okDa 63 := by unfold okDa; decide
theorem oknDa_74 : okDa 74 := by unfold okDa; decide
theorem oknDa_85 : okDa 85 := by unfold okDa; decide
def okLi (a : Nat) : Prop := a = 47 ∨ a = 49
theorem sLi_0 {a : Nat} (h : okLi a) : shp[a]? = some (.inl (3, [a + 1 + 2, 0, 0, 0, 0, 0, 0, 0, 0])) := by
  rcases h with rfl | rfl <;> rfl
theorem sLi_1 {a : Nat} (h : okLi a) : shp[a + 1]? = some (.inr (0, 60)) := by
  rcases h with rfl | rfl <;> rfl
theorem oknLi_47 : okLi 47 := by unfold okLi; decide
theorem oknLi_49 : okLi 49 := by unfold okLi; decide
def okTy (a : Nat) : Prop := a = 51 ∨ a = 53 ∨ a = 55 ∨ a = 57
theorem sTy_0 {a : Nat} (h : okTy a) : shp[a]? = some (.inl (6, [a + 1 + 2, 0, 0])) := by
  rcases h with rfl | rfl | rfl | rfl <;> rfl
theorem sTy_1 {a : Nat} (h : okTy a) : shp[a + 1]? = some (.inr (1, 60)) := by
  rcases h with rfl | rfl | rfl | rfl <;> rfl
theorem oknTy_51 : okTy 51 := by unfold okTy; decide
theorem oknTy_53 : okTy 53 := by unfold okTy; decide
theorem oknTy_55 : okTy 55 := by unfold okTy; decide
theorem oknTy_57 : okTy 57 := by unfold okTy; decide
theorem ix_tn {j : Int32} {n : Nat} (h : ix j n = true) : tn j < n := Nat.not_le.mp fun q => (ix_in h) (Or.inr q)
theorem rfs_T (j : Nat) : rfs 1 j = 51 + 2 * j := rfl
theorem rfs_C (j : Nat) : rfs 29 j = 59 + 11 * j := rfl
theorem rfs_D (j : Nat) : rfs 30 j = 63 + 11 * j := rfl
theorem rfs_A (j : Nat) : rfs 39 j = 40 + j := rfl
theorem okTy_of {j : Int32} (h : ix j 4 = true) : okTy (rfs 1 (tn j)) := by
  have := ix_tn h
  rw [rfs_T]; unfold okTy; omega
theorem okCl_of {j : Int32} (h : ix j 3 = true) : okCl (rfs 29 (tn j)) := by
  have := ix_tn h
  rw [rfs_C]; unfold okCl; omega
theorem okDa_of {j : Int32} (h : ix j 3 = true) : okDa (rfs 30 (tn j)) := by
  have := ix_tn h
  rw [rfs_D]; unfold okDa; omega
theorem sCA_of {j : Int32} (h : ix j 7 = true) : shp[rfs 39 (tn j)]? = some (.inr (1, 79)) := by
  have := ix_tn h
  rw [rfs_A]
  have : tn j = 0 ∨ tn j = 1 ∨ tn j = 2 ∨ tn j = 3 ∨ tn j = 4 ∨ tn j = 5 ∨ tn j = 6 := by omega
  rcases this with h | h | h | h | h | h | h <;> rw [h] <;> rfl
theorem in_t1 {w : Cond} (h : w ∈ tables_1_1) : w ∈ tables_1 := List.mem_append_left _ h
theorem gt1 {w : Cond} (i : Nat) (h : tables_1_1[i]? = some w) (hg : goodWord w = true) : w ∈ lw_good := good_mem (tbl_mem (in_t1 (List.mem_of_getElem? h))) hg
theorem gn1 {w : Cond} (i : Nat) (h : tables_1_1[i]? = some w) (hg : isNest w = true) : w ∈ lw_nest := nest_mem (in_t1 (List.mem_of_getElem? h)) hg
theorem in_t2 {w : Cond} (h : w ∈ tables_1_2) : w ∈ tables_1 := List.mem_append_right _ (List.mem_append_left _ h)
theorem gt2 {w : Cond} (i : Nat) (h : tables_1_2[i]? = some w) (hg : goodWord w = true) : w ∈ lw_good := good_mem (tbl_mem (in_t2 (List.mem_of_getElem? h))) hg
theorem gn2 {w : Cond} (i : Nat) (h : tables_1_2[i]? = some w) (hg : isNest w = true) : w ∈ lw_nest := nest_mem (in_t2 (List.mem_of_getElem? h)) hg
theorem in_t3 {w : Cond} (h : w ∈ tables_1_3) : w ∈ tables_1 := List.mem_append_right _ (List.mem_append_right _ (List.mem_append_left _ h))
theorem gt3 {w : Cond} (i : Nat) (h : tables_1_3[i]? = some w) (hg : goodWord w = true) : w ∈ lw_good := good_mem (tbl_mem (in_t3 (List.mem_of_getElem? h))) hg
theorem gn3 {w : Cond} (i : Nat) (h : tables_1_3[i]? = some w) (hg : isNest w = true) : w ∈ lw_nest := nest_mem (in_t3 (List.mem_of_getElem? h)) hg
theorem in_t4 {w : Cond} (h : w ∈ tables_1_4) : w ∈ tables_1 := List.mem_append_right _ (List.mem_append_right _ (List.mem_append_right _ (List.mem_append_left _ h)))
theorem gt4 {w : Cond} (i : Nat) (h : tables_1_4[i]? = some w) (hg : goodWord w = true) : w ∈ lw_good := good_mem (tbl_mem (in_t4 (List.mem_of_getElem? h))) hg
theorem gn4 {w : Cond} (i : Nat) (h : tables_1_4[i]? = some w) (hg : isNest w = true) : w ∈ lw_nest := nest_mem (in_t4 (List.mem_of_getElem? h)) hg
theorem in_t5 {w : Cond} (h : w ∈ tables_1_5) : w ∈ tables_1 := List.mem_append_right _ (List.mem_append_right _ (List.mem_append_right _ (List.mem_append_right _ (List.mem_append_left _ h))))
theorem gt5 {w : Cond} (i : Nat) (h : tables_1_5[i]? = some w) (hg : goodWord w = true) : w ∈ lw_good := good_mem (tbl_mem (in_t5 (List.mem_of_getElem? h))) hg
theorem gn5 {w : Cond} (i : Nat) (h : tables_1_5[i]? = some w) (hg : isNest w = true) : w ∈ lw_nest := nest_mem (in_t5 (List.mem_of_getElem? h)) hg
theorem in_t6 {w : Cond} (h : w ∈ tables_1_6) : w ∈ tables_1 := List.mem_append_right _ (List.mem_append_right _ (List.mem_append_right _ (List.mem_append_right _ (List.mem_append_right _ (List.mem_append_left _ h)))))
theorem gt6 {w : Cond} (i : Nat) (h : tables_1_6[i]? = some w) (hg : goodWord w = true) : w ∈ lw_good := good_mem (tbl_mem (in_t6 (List.mem_of_getElem? h))) hg
theorem gn6 {w : Cond} (i : Nat) (h : tables_1_6[i]? = some w) (hg : isNest w = true) : w ∈ lw_nest := nest_mem (in_t6 (List.mem_of_getElem? h)) hg
theorem in_t7 {w : Cond} (h : w ∈ tables_1_7) : w ∈ tables_1 := List.mem_append_right _ (List.mem_append_right _ (List.mem_append_right _ (List.mem_append_right _ (List.mem_append_right _ (List.mem_append_right _ (List.mem_append_left _ h))))))
theorem gt7 {w : Cond} (i : Nat) (h : tables_1_7[i]? = some w) (hg : goodWord w = true) : w ∈ lw_good := good_mem (tbl_mem (in_t7 (List.mem_of_getElem? h))) hg
theorem gn7 {w : Cond} (i : Nat) (h : tables_1_7[i]? = some w) (hg : isNest w = true) : w ∈ lw_nest := nest_mem (in_t7 (List.mem_of_getElem? h)) hg
theorem in_t8 {w : Cond} (h : w ∈ tables_1_8) : w ∈ tables_1 := List.mem_append_right _ (List.mem_append_right _ (List.mem_append_right _ (List.mem_append_right _ (List.mem_append_right _ (List.mem_append_right _ (List.mem_append_right _ (h)))))))
theorem gt8 {w : Cond} (i : Nat) (h : tables_1_8[i]? = some w) (hg : goodWord w = true) : w ∈ lw_good := good_mem (tbl_mem (in_t8 (List.mem_of_getElem? h))) hg
theorem gn8 {w : Cond} (i : Nat) (h : tables_1_8[i]? = some w) (hg : isNest w = true) : w ∈ lw_nest := nest_mem (in_t8 (List.mem_of_getElem? h)) hg
theorem gsel {q : MethodName × Nat} (i : Nat) (h : lw_privs[i]? = some q) : Cond.selects q.1.cls q.1 q.1 ∈ lw_good := good_mem (List.mem_append_left _ (List.mem_map.mpr ⟨q, List.mem_of_getElem? h, rfl⟩)) rfl
theorem goodmem {ws : List Cond} {big : List Cond} (hb : ∀ w ∈ big, w ∈ tables_1) (ps : List Nat) (hp : ws = ps.filterMap (fun i => big[i]?)) (h : ws.all goodWord = true) : ∀ w ∈ ws, w ∈ lw_good := by
  intro w hw
  have h1 := List.all_eq_true.mp h w hw
  rw [hp] at hw
  obtain ⟨i, -, hi⟩ := List.mem_filterMap.mp hw
  exact good_mem (tbl_mem (hb w (List.mem_of_getElem? hi))) h1
theorem inF0 : ∀ w ∈ u_ws RX0 TX0 6, w ∈ lw_good := by
  intro w hw
  obtain ⟨k, hk, rfl⟩ := List.mem_map.mp hw
  have hk := List.mem_range.mp hk
  match k, hk with
  | 0, _ => exact (gt1 236 rfl rfl)
  | 1, _ => exact (gt1 238 rfl rfl)
  | 2, _ => exact (gt2 0 rfl rfl)
  | 3, _ => exact (gt2 2 rfl rfl)
  | 4, _ => exact (gt2 4 rfl rfl)
  | 5, _ => exact (gt2 6 rfl rfl)
  | k + 6, hk => exact absurd hk (by omega)
theorem inF1 : ∀ w ∈ u_ws RX1 TX1 6, w ∈ lw_good := by
  intro w hw
  obtain ⟨k, hk, rfl⟩ := List.mem_map.mp hw
  have hk := List.mem_range.mp hk
  match k, hk with
  | 0, _ => exact (gt1 108 rfl rfl)
  | 1, _ => exact (gt1 110 rfl rfl)
  | 2, _ => exact (gt1 112 rfl rfl)
  | 3, _ => exact (gt1 114 rfl rfl)
  | 4, _ => exact (gt1 116 rfl rfl)
  | 5, _ => exact (gt1 118 rfl rfl)
  | k + 6, hk => exact absurd hk (by omega)
theorem inF2 : ∀ w ∈ u_ws RX2 TX2 9, w ∈ lw_good := by
  intro w hw
  obtain ⟨k, hk, rfl⟩ := List.mem_map.mp hw
  have hk := List.mem_range.mp hk
  match k, hk with
  | 0, _ => exact (gt1 154 rfl rfl)
  | 1, _ => exact (gt1 156 rfl rfl)
  | 2, _ => exact (gt1 158 rfl rfl)
  | 3, _ => exact (gt1 160 rfl rfl)
  | 4, _ => exact (gt1 162 rfl rfl)
  | 5, _ => exact (gt1 164 rfl rfl)
  | 6, _ => exact (gt1 166 rfl rfl)
  | 7, _ => exact (gt1 168 rfl rfl)
  | 8, _ => exact (gt1 170 rfl rfl)
  | k + 9, hk => exact absurd hk (by omega)
theorem inF3 : ∀ w ∈ u_ws RX5 TX5 9, w ∈ lw_good := by
  intro w hw
  obtain ⟨k, hk, rfl⟩ := List.mem_map.mp hw
  have hk := List.mem_range.mp hk
  match k, hk with
  | 0, _ => exact (gt2 31 rfl rfl)
  | 1, _ => exact (gt2 33 rfl rfl)
  | 2, _ => exact (gt2 35 rfl rfl)
  | 3, _ => exact (gt2 37 rfl rfl)
  | 4, _ => exact (gt2 39 rfl rfl)
  | 5, _ => exact (gt2 41 rfl rfl)
  | 6, _ => exact (gt2 43 rfl rfl)
  | 7, _ => exact (gt2 45 rfl rfl)
  | 8, _ => exact (gt2 47 rfl rfl)
  | k + 9, hk => exact absurd hk (by omega)
theorem inF4 : ∀ w ∈ u_ws RX6 TX6 11, w ∈ lw_good := by
  intro w hw
  obtain ⟨k, hk, rfl⟩ := List.mem_map.mp hw
  have hk := List.mem_range.mp hk
  match k, hk with
  | 0, _ => exact (gt1 53 rfl rfl)
  | 1, _ => exact (gt1 55 rfl rfl)
  | 2, _ => exact (gt1 57 rfl rfl)
  | 3, _ => exact (gt1 59 rfl rfl)
  | 4, _ => exact (gt1 61 rfl rfl)
  | 5, _ => exact (gt1 63 rfl rfl)
  | 6, _ => exact (gt1 65 rfl rfl)
  | 7, _ => exact (gt1 67 rfl rfl)
  | 8, _ => exact (gt1 69 rfl rfl)
  | 9, _ => exact (gt1 71 rfl rfl)
  | 10, _ => exact (gt1 73 rfl rfl)
  | k + 11, hk => exact absurd hk (by omega)
theorem inF5 : ∀ w ∈ u_ws RX7 TX7 5, w ∈ lw_good := by
  intro w hw
  obtain ⟨k, hk, rfl⟩ := List.mem_map.mp hw
  have hk := List.mem_range.mp hk
  match k, hk with
  | 0, _ => exact (gt1 188 rfl rfl)
  | 1, _ => exact (gt1 190 rfl rfl)
  | 2, _ => exact (gt1 192 rfl rfl)
  | 3, _ => exact (gt1 194 rfl rfl)
  | 4, _ => exact (gt1 196 rfl rfl)
  | k + 5, hk => exact absurd hk (by omega)
theorem inF6 : ∀ w ∈ u_ws RX9 TX9 3, w ∈ lw_good := by
  intro w hw
  obtain ⟨k, hk, rfl⟩ := List.mem_map.mp hw
  have hk := List.mem_range.mp hk
  match k, hk with
  | 0, _ => exact (gt2 60 rfl rfl)
  | 1, _ => exact (gt2 62 rfl rfl)
  | 2, _ => exact (gt2 64 rfl rfl)
  | k + 3, hk => exact absurd hk (by omega)
theorem inF7 : ∀ w ∈ u_ws RX10 TX10 4, w ∈ lw_good := by
  intro w hw
  obtain ⟨k, hk, rfl⟩ := List.mem_map.mp hw
  have hk := List.mem_range.mp hk
  match k, hk with
  | 0, _ => exact (gt1 213 rfl rfl)
  | 1, _ => exact (gt1 215 rfl rfl)
  | 2, _ => exact (gt1 217 rfl rfl)
  | 3, _ => exact (gt1 219 rfl rfl)
  | k + 4, hk => exact absurd hk (by omega)
theorem inF8 : ∀ w ∈ u_ws RX11 TX11 17, w ∈ lw_good := by
  intro w hw
  obtain ⟨k, hk, rfl⟩ := List.mem_map.mp hw
  have hk := List.mem_range.mp hk
  match k, hk with
  | 0, _ => exact (gt2 84 rfl rfl)
  | 1, _ => exact (gt2 86 rfl rfl)
  | 2, _ => exact (gt2 88 rfl rfl)
  | 3, _ => exact (gt2 90 rfl rfl)
  | 4, _ => exact (gt2 92 rfl rfl)
  | 5, _ => exact (gt2 94 rfl rfl)
  | 6, _ => exact (gt2 96 rfl rfl)
  | 7, _ => exact (gt2 98 rfl rfl)
  | 8, _ => exact (gt2 100 rfl rfl)
  | 9, _ => exact (gt2 102 rfl rfl)
  | 10, _ => exact (gt2 104 rfl rfl)
  | 11, _ => exact (gt2 106 rfl rfl)
  | 12, _ => exact (gt2 108 rfl rfl)
  | 13, _ => exact (gt2 110 rfl rfl)
  | 14, _ => exact (gt2 112 rfl rfl)
  | 15, _ => exact (gt2 114 rfl rfl)
  | 16, _ => exact (gt2 116 rfl rfl)
  | k + 17, hk => exact absurd hk (by omega)
theorem inF9 : ∀ w ∈ u_ws RX12 TX12 39, w ∈ lw_good := by
  intro w hw
  obtain ⟨k, hk, rfl⟩ := List.mem_map.mp hw
  have hk := List.mem_range.mp hk
  match k, hk with
  | 0, _ => exact (gt6 59 rfl rfl)
  | 1, _ => exact (gt6 61 rfl rfl)
  | 2, _ => exact (gt6 63 rfl rfl)
  | 3, _ => exact (gt6 65 rfl rfl)
  | 4, _ => exact (gt6 67 rfl rfl)
  | 5, _ => exact (gt6 69 rfl rfl)
  | 6, _ => exact (gt6 71 rfl rfl)
  | 7, _ => exact (gt6 73 rfl rfl)
  | 8, _ => exact (gt6 75 rfl rfl)
  | 9, _ => exact (gt6 77 rfl rfl)
  | 10, _ => exact (gt6 79 rfl rfl)
  | 11, _ => exact (gt6 81 rfl rfl)
  | 12, _ => exact (gt6 83 rfl rfl)
  | 13, _ => exact (gt6 85 rfl rfl)
  | 14, _ => exact (gt6 87 rfl rfl)
  | 15, _ => exact (gt6 89 rfl rfl)
  | 16, _ => exact (gt6 91 rfl rfl)
  | 17, _ => exact (gt6 93 rfl rfl)
  | 18, _ => exact (gt6 95 rfl rfl)
  | 19, _ => exact (gt6 97 rfl rfl)
  | 20, _ => exact (gt6 99 rfl rfl)
  | 21, _ => exact (gt6 101 rfl rfl)
  | 22, _ => exact (gt6 103 rfl rfl)
  | 23, _ => exact (gt6 105 rfl rfl)
  | 24, _ => exact (gt6 107 rfl rfl)
  | 25, _ => exact (gt6 109 rfl rfl)
  | 26, _ => exact (gt6 111 rfl rfl)
  | 27, _ => exact (gt6 113 rfl rfl)
  | 28, _ => exact (gt6 115 rfl rfl)
  | 29, _ => exact (gt6 117 rfl rfl)
  | 30, _ => exact (gt6 119 rfl rfl)
  | 31, _ => exact (gt6 121 rfl rfl)
  | 32, _ => exact (gt6 123 rfl rfl)
  | 33, _ => exact (gt6 125 rfl rfl)
  | 34, _ => exact (gt6 127 rfl rfl)
  | 35, _ => exact (gt6 129 rfl rfl)
  | 36, _ => exact (gt6 131 rfl rfl)
  | 37, _ => exact (gt6 133 rfl rfl)
  | 38, _ => exact (gt6 135 rfl rfl)
  | k + 39, hk => exact absurd hk (by omega)
def M_X0_takeModuli : Mi := (yX0_takeModuli, cX0_takeModuli, 6, (some .boolean))
def M_X0_product : Mi := (yX0_product, cX0_product, 4, (some .long))
def M_X0_countWays : Mi := (yX0_countWays, cX0_countWays, 2, (some .int))
def M_X0_findFirst : Mi := (yX0_findFirst, cX0_findFirst, 2, (some .boolean))
def M_X0_restAt : Mi := (yX0_restAt, cX0_restAt, 2, (some .int))
def M_X0_begin : Mi := (yX0_begin, cX0_begin, 3, none)
def M_X0_waysFrom : Mi := (yX0_waysFrom, cX0_waysFrom, 6, (some .int))
def M_X0_lay : Mi := (yX0_lay, cX0_lay, 11, (some .boolean))
def M_X0_isAllCaught : Mi := (yX0_isAllCaught, cX0_isAllCaught, 4, (some .boolean))
def M_X1_clear : Mi := (yX1_clear, cX1_clear, 1, none)
def M_X1_copyFrom : Mi := (yX1_copyFrom, cX1_copyFrom, 2, none)
def M_X1_isThere : Mi := (yX1_isThere, cX1_isThere, 2, (some .boolean))
def M_X1_isOn : Mi := (yX1_isOn, cX1_isOn, 2, (some .boolean))
def M_X1_find : Mi := (yX1_find, cX1_find, 4, (some .int))
def M_X1_append : Mi := (yX1_append, cX1_append, 6, none)
def M_X1_remove : Mi := (yX1_remove, cX1_remove, 4, none)
def M_X1_flip : Mi := (yX1_flip, cX1_flip, 2, none)
def M_X1_slide : Mi := (yX1_slide, cX1_slide, 3, none)
def M_X1_stretch : Mi := (yX1_stretch, cX1_stretch, 3, none)
def M_X1_partTrouble : Mi := (yX1_partTrouble, cX1_partTrouble, 3, (some .int))
def M_X1_part : Mi := (yX1_part, cX1_part, 5, none)
def M_X1_partsWith : Mi := (yX1_partsWith, cX1_partsWith, 8, (some .int))
def M_X1_firstLike : Mi := (yX1_firstLike, cX1_firstLike, 4, (some .int))
def M_X1_merge : Mi := (yX1_merge, cX1_merge, 5, none)
def M_X1_greatestModulus : Mi := (yX1_greatestModulus, cX1_greatestModulus, 3, (some .int))
def M_X1_spanOf : Mi := (yX1_spanOf, cX1_spanOf, 4, (some .int))
def M_X1_takes : Mi := (yX1_takes, cX1_takes, 3, (some .boolean))
def M_X1_catchers : Mi := (yX1_catchers, cX1_catchers, 4, (some .int))
def M_X1_leastModulusOf : Mi := (yX1_leastModulusOf, cX1_leastModulusOf, 4, (some .int))
def M_X1_touches : Mi := (yX1_touches, cX1_touches, 4, (some .boolean))
def M_X1_touching : Mi := (yX1_touching, cX1_touching, 6, (some .int))
def M_X1_anyModulusDivides : Mi := (yX1_anyModulusDivides, cX1_anyModulusDivides, 4, (some .boolean))
def M_X1_leastOfBoth : Mi := (yX1_leastOfBoth, cX1_leastOfBoth, 5, (some .int))
def M_X1_couples : Mi := (yX1_couples, cX1_couples, 4, (some .int))
def M_X1_allUnlike : Mi := (yX1_allUnlike, cX1_allUnlike, 6, (some .boolean))
def M_X1_caughtTimes : Mi := (yX1_caughtTimes, cX1_caughtTimes, 4, (some .int))
def M_X2_clear : Mi := (yX2_clear, cX2_clear, 1, none)
def M_X2_copyFrom : Mi := (yX2_copyFrom, cX2_copyFrom, 2, none)
def M_X2_append : Mi := (yX2_append, cX2_append, 3, (some .int))
def M_X2_pair : Mi := (yX2_pair, cX2_pair, 3, none)
def M_X3_take : Mi := (yX3_take, cX3_take, 6, (some .boolean))
def M_X3_innermostBehind : Mi := (yX3_innermostBehind, cX3_innermostBehind, 5, (some .int))
def M_X3_depthOf : Mi := (yX3_depthOf, cX3_depthOf, 5, (some .int))
def M_X3_isOpener : Mi := (yX3_isOpener, cX3_isOpener, 1, (some .boolean))
def M_X3_isStep : Mi := (yX3_isStep, cX3_isStep, 1, (some .boolean))
def M_X3_takeOne : Mi := (yX3_takeOne, cX3_takeOne, 6, (some .boolean))
def M_X3_takeRest : Mi := (yX3_takeRest, cX3_takeRest, 4, (some .boolean))
def M_X3_takeTest : Mi := (yX3_takeTest, cX3_takeTest, 5, (some .boolean))
def M_X3_takeSign : Mi := (yX3_takeSign, cX3_takeSign, 4, (some .boolean))
def M_X3_takeWho : Mi := (yX3_takeWho, cX3_takeWho, 5, (some .boolean))
def M_X4_worth : Mi := (yX4_worth, cX4_worth, 9, (some .int))
def M_X4_bestSwitch : Mi := (yX4_bestSwitch, cX4_bestSwitch, 6, (some .int))
def M_X5_run : Mi := (yX5_run, cX5_run, 7, none)
def M_X5_follow : Mi := (yX5_follow, cX5_follow, 6, (some .int))
def M_X5_behindEnd : Mi := (yX5_behindEnd, cX5_behindEnd, 4, (some .int))
def M_X5_isSo : Mi := (yX5_isSo, cX5_isSo, 5, (some .boolean))
def M_X5_compares : Mi := (yX5_compares, cX5_compares, 3, (some .boolean))
def M_X5_act : Mi := (yX5_act, cX5_act, 5, (some .boolean))
def M_X5_flip : Mi := (yX5_flip, cX5_flip, 3, (some .boolean))
def M_X5_slide : Mi := (yX5_slide, cX5_slide, 3, (some .boolean))
def M_X5_partIfItCan : Mi := (yX5_partIfItCan, cX5_partIfItCan, 3, (some .boolean))
def M_X5_chance : Mi := (yX5_chance, cX5_chance, 3, (some .boolean))
def M_X5_draw : Mi := (yX5_draw, cX5_draw, 2, (some .int))
def M_X6_append : Mi := (yX6_append, cX6_append, 3, none)
def M_X6_begin : Mi := (yX6_begin, cX6_begin, 4, none)
def M_X6_keep : Mi := (yX6_keep, cX6_keep, 5, none)
def M_X6_skipBlanks : Mi := (yX6_skipBlanks, cX6_skipBlanks, 3, (some .int))
def M_X6_findToken : Mi := (yX6_findToken, cX6_findToken, 2, (some .int))
def M_X6_findWord : Mi := (yX6_findWord, cX6_findWord, 5, (some .int))
def M_X6_findNumber : Mi := (yX6_findNumber, cX6_findNumber, 5, (some .int))
def M_X6_wordSort : Mi := (yX6_wordSort, cX6_wordSort, 5, (some .int))
def M_X6_isKeptWord : Mi := (yX6_isKeptWord, cX6_isKeptWord, 6, (some .boolean))
def M_X6_isLetter : Mi := (yX6_isLetter, cX6_isLetter, 1, (some .boolean))
def M_X6_isDigit : Mi := (yX6_isDigit, cX6_isDigit, 1, (some .boolean))
def M_X6_signOf : Mi := (yX6_signOf, cX6_signOf, 1, (some .int))
def M_X6_token : Mi := (yX6_token, cX6_token, 1, (some .int))
def M_X6_value : Mi := (yX6_value, cX6_value, 1, (some .long))
def M_X6_step : Mi := (yX6_step, cX6_step, 1, none)
def M_X6_blame : Mi := (yX6_blame, cX6_blame, 2, (some .boolean))
def M_X6_take : Mi := (yX6_take, cX6_take, 2, (some .boolean))
def M_X6_takeNumber : Mi := (yX6_takeNumber, cX6_takeNumber, 3, (some .boolean))
def M_X6_takenNumber : Mi := (yX6_takenNumber, cX6_takenNumber, 1, (some .int))
def M_X7_fill : Mi := (yX7_fill, cX7_fill, 5, (some .boolean))
def M_X7_lay : Mi := (yX7_lay, cX7_lay, 10, none)
def M_X7_openIn : Mi := (yX7_openIn, cX7_openIn, 2, (some .long))
def M_X7_countGaps : Mi := (yX7_countGaps, cX7_countGaps, 3, (some .int))
def M_X7_findGap : Mi := (yX7_findGap, cX7_findGap, 5, (some .int))
def M_X7_placeOfBit : Mi := (yX7_placeOfBit, cX7_placeOfBit, 6, (some .int))
def M_X7_countOnlyBy : Mi := (yX7_countOnlyBy, cX7_countOnlyBy, 10, (some .int))
def M_X7_needlessOf : Mi := (yX7_needlessOf, cX7_needlessOf, 4, (some .int))
def M_X7_thickestNumber : Mi := (yX7_thickestNumber, cX7_thickestNumber, 6, (some .int))
def M_X7_leastSet : Mi := (yX7_leastSet, cX7_leastSet, 6, (some .int))
def M_X7_findFailing : Mi := (yX7_findFailing, cX7_findFailing, 5, none)
def M_X7_leastTurn : Mi := (yX7_leastTurn, cX7_leastTurn, 2, (some .int))
def M_X7_comesAgainBy : Mi := (yX7_comesAgainBy, cX7_comesAgainBy, 3, (some .boolean))
def M_X8_take : Mi := (yX8_take, cX8_take, 5, (some .boolean))
def M_X8_takeOdds : Mi := (yX8_takeOdds, cX8_takeOdds, 2, (some .boolean))
def M_X8_takeClass : Mi := (yX8_takeClass, cX8_takeClass, 7, (some .boolean))
def M_X9_lay : Mi := (yX9_lay, cX9_lay, 3, none)
def M_X9_isMissing : Mi := (yX9_isMissing, cX9_isMissing, 1, (some .boolean))
def M_X9_holds : Mi := (yX9_holds, cX9_holds, 3, (some .boolean))
def M_X9_at : Mi := (yX9_at, cX9_at, 2, (some .long))
def M_X9_put : Mi := (yX9_put, cX9_put, 4, none)
def M_X9_cut : Mi := (yX9_cut, cX9_cut, 3, (some .long))
def M_X10_grow : Mi := (yX10_grow, cX10_grow, 3, none)
def M_X10_visit : Mi := (yX10_visit, cX10_visit, 10, none)
def M_X10_leafWith : Mi := (yX10_leafWith, cX10_leafWith, 6, (some .int))
def M_X11_status : Mi := (yX11_status, cX11_status, 1, (some .int))
def M_X11_top : Mi := (yX11_top, cX11_top, 1, (some .long))
def M_X11_bottom : Mi := (yX11_bottom, cX11_bottom, 1, (some .long))
def M_X11_tray : Mi := (yX11_tray, cX11_tray, 4, (some .boolean))
def M_X11_write : Mi := (yX11_write, cX11_write, 6, (some .boolean))
def M_X11_read : Mi := (yX11_read, cX11_read, 4, (some .long))
def M_X11_pour : Mi := (yX11_pour, cX11_pour, 7, (some .boolean))
def M_X11_pourTrouble : Mi := (yX11_pourTrouble, cX11_pourTrouble, 6, (some .int))
def M_X11_trayTrouble : Mi := (yX11_trayTrouble, cX11_trayTrouble, 2, (some .int))
def M_X11_placeTrouble : Mi := (yX11_placeTrouble, cX11_placeTrouble, 4, (some .int))
def M_X11_feed : Mi := (yX11_feed, cX11_feed, 6, (some .int))
def M_X11_system : Mi := (yX11_system, cX11_system, 2, (some .int))
def M_X11_days : Mi := (yX11_days, cX11_days, 2, (some .int))
def M_X11_fault : Mi := (yX11_fault, cX11_fault, 2, (some .int))
def M_X11_told : Mi := (yX11_told, cX11_told, 2, (some .int))
def M_X11_toldBySpan : Mi := (yX11_toldBySpan, cX11_toldBySpan, 3, (some .int))
def M_X11_classOf : Mi := (yX11_classOf, cX11_classOf, 3, (some .int))
def M_X11_caught : Mi := (yX11_caught, cX11_caught, 2, (some .int))
def M_X11_tightest : Mi := (yX11_tightest, cX11_tightest, 2, (some .int))
def M_X11_turn : Mi := (yX11_turn, cX11_turn, 2, (some .int))
def M_X11_add : Mi := (yX11_add, cX11_add, 3, (some .int))
def M_X11_drop : Mi := (yX11_drop, cX11_drop, 2, (some .int))
def M_X11_move : Mi := (yX11_move, cX11_move, 4, (some .int))
def M_X11_shift : Mi := (yX11_shift, cX11_shift, 2, (some .boolean))
def M_X11_spread : Mi := (yX11_spread, cX11_spread, 2, (some .int))
def M_X11_split : Mi := (yX11_split, cX11_split, 4, (some .int))
def M_X11_join : Mi := (yX11_join, cX11_join, 4, (some .int))
def M_X11_rule : Mi := (yX11_rule, cX11_rule, 2, (some .boolean))
def M_X11_gapAt : Mi := (yX11_gapAt, cX11_gapAt, 2, (some .int))
def M_X11_gaps : Mi := (yX11_gaps, cX11_gaps, 1, (some .boolean))
def M_X11_weight : Mi := (yX11_weight, cX11_weight, 2, (some .boolean))
def M_X11_alone : Mi := (yX11_alone, cX11_alone, 2, (some .boolean))
def M_X11_needless : Mi := (yX11_needless, cX11_needless, 1, (some .int))
def M_X11_fewest : Mi := (yX11_fewest, cX11_fewest, 1, (some .int))
def M_X11_fewestSet : Mi := (yX11_fewestSet, cX11_fewestSet, 1, (some .int))
def M_X11_meet : Mi := (yX11_meet, cX11_meet, 3, (some .int))
def M_X11_thick : Mi := (yX11_thick, cX11_thick, 1, (some .int))
def M_X11_ask : Mi := (yX11_ask, cX11_ask, 1, (some .int))
def M_X11_turnsBy : Mi := (yX11_turnsBy, cX11_turnsBy, 1, (some .int))
def M_X11_sieved : Mi := (yX11_sieved, cX11_sieved, 1, (some .boolean))
def M_X11_tree : Mi := (yX11_tree, cX11_tree, 3, (some .int))
def M_X11_leafOf : Mi := (yX11_leafOf, cX11_leafOf, 3, (some .int))
def M_X11_choices : Mi := (yX11_choices, cX11_choices, 5, (some .int))
def M_X11_choiceAt : Mi := (yX11_choiceAt, cX11_choiceAt, 6, (some .int))
def M_X11_choiceTrouble : Mi := (yX11_choiceTrouble, cX11_choiceTrouble, 5, (some .int))
def M_X11_game : Mi := (yX11_game, cX11_game, 2, (some .int))
def M_X11_moveOf : Mi := (yX11_moveOf, cX11_moveOf, 2, (some .int))
def M_X11_uncaught : Mi := (yX11_uncaught, cX11_uncaught, 13, (some .boolean))
def M_X11_copySystem : Mi := (yX11_copySystem, cX11_copySystem, 4, (some .int))
def M_X11_live : Mi := (yX11_live, cX11_live, 2, (some .int))
def M_X11_lived : Mi := (yX11_lived, cX11_lived, 2, (some .int))
def M_X11_mean : Mi := (yX11_mean, cX11_mean, 5, (some .boolean))
def M_X11_mark : Mi := (yX11_mark, cX11_mark, 1, (some .int))
def M_X11_undo : Mi := (yX11_undo, cX11_undo, 1, (some .int))
def M_X11_refuse : Mi := (yX11_refuse, cX11_refuse, 2, (some .int))
def M_X11_deny : Mi := (yX11_deny, cX11_deny, 2, (some .boolean))
def M_X11_answer : Mi := (yX11_answer, cX11_answer, 2, (some .int))
def M_X11_answerOrNone : Mi := (yX11_answerOrNone, cX11_answerOrNone, 2, (some .int))
def M_X11_agree : Mi := (yX11_agree, cX11_agree, 1, (some .boolean))
def M_X11_tell : Mi := (yX11_tell, cX11_tell, 7, (some .boolean))
def M_X11_within : Mi := (yX11_within, cX11_within, 6, (some .boolean))
def M_X11_isIn : Mi := (yX11_isIn, cX11_isIn, 2, (some .boolean))
def M_X11_leftBy : Mi := (yX11_leftBy, cX11_leftBy, 3, (some .int))
def M_X11_partBy : Mi := (yX11_partBy, cX11_partBy, 4, (some .long))
def M_X11_partBy_ : Mi := (yX11_partBy_, cX11_partBy_, 2, (some .int))
def M_X11_commonDivisor : Mi := (yX11_commonDivisor, cX11_commonDivisor, 11, (some .long))
def M_X11_leastPrimeOf : Mi := (yX11_leastPrimeOf, cX11_leastPrimeOf, 2, (some .int))
def M_X11_power : Mi := (yX11_power, cX11_power, 6, (some .long))
def M_X11_ways : Mi := (yX11_ways, cX11_ways, 5, (some .long))
def M_X11_combOf : Mi := (yX11_combOf, cX11_combOf, 4, (some .long))
def M_X11_wordOf : Mi := (yX11_wordOf, cX11_wordOf, 5, (some .long))
def M_X11_insideOf : Mi := (yX11_insideOf, cX11_insideOf, 3, (some .long))
def M_X11_hasBit : Mi := (yX11_hasBit, cX11_hasBit, 3, (some .boolean))
def M_X11_putBit : Mi := (yX11_putBit, cX11_putBit, 3, none)
def M_X11_wordsFor : Mi := (yX11_wordsFor, cX11_wordsFor, 1, (some .int))
def M_X12_plain : Mi := (yX12_plain, cX12_plain, 3, none)
def M_X12_status : Mi := (yX12_status, cX12_status, 1, (some .int))
def M_X12_top : Mi := (yX12_top, cX12_top, 1, (some .long))
def M_X12_bottom : Mi := (yX12_bottom, cX12_bottom, 1, (some .long))
def M_X12_is : Mi := (yX12_is, cX12_is, 2, (some .boolean))
def M_X12_refuse : Mi := (yX12_refuse, cX12_refuse, 2, (some .int))
def M_X12_gives : Mi := (yX12_gives, cX12_gives, 2, (some .int))
def M_X12_orNone : Mi := (yX12_orNone, cX12_orNone, 2, (some .int))
def M_X12_tellsBy : Mi := (yX12_tellsBy, cX12_tellsBy, 11, (some .boolean))
def M_X12_isTray : Mi := (yX12_isTray, cX12_isTray, 1, (some .boolean))
def M_X12_cut : Mi := (yX12_cut, cX12_cut, 3, (some .long))
def M_X12_tray : Mi := (yX12_tray, cX12_tray, 5, (some .boolean))
def M_X12_wrongPlace : Mi := (yX12_wrongPlace, cX12_wrongPlace, 3, (some .int))
def M_X12_write : Mi := (yX12_write, cX12_write, 6, (some .boolean))
def M_X12_read : Mi := (yX12_read, cX12_read, 3, (some .long))
def M_X12_pour : Mi := (yX12_pour, cX12_pour, 8, (some .boolean))
def M_X12_isFrom : Mi := (yX12_isFrom, cX12_isFrom, 6, (some .boolean))
def M_X12_feed : Mi := (yX12_feed, cX12_feed, 6, (some .int))
def M_X12_four : Mi := (yX12_four, cX12_four, 3, none)
def M_X12_byteAt : Mi := (yX12_byteAt, cX12_byteAt, 2, (some .int))
def M_X12_isSmall : Mi := (yX12_isSmall, cX12_isSmall, 1, (some .boolean))
def M_X12_isDigit : Mi := (yX12_isDigit, cX12_isDigit, 1, (some .boolean))
def M_X12_ahead : Mi := (yX12_ahead, cX12_ahead, 2, none)
def M_X12_isSign : Mi := (yX12_isSign, cX12_isSign, 2, (some .boolean))
def M_X12_inWords : Mi := (yX12_inWords, cX12_inWords, 7, (some .int))
def M_X12_fails : Mi := (yX12_fails, cX12_fails, 2, (some .boolean))
def M_X12_begins : Mi := (yX12_begins, cX12_begins, 4, (some .boolean))
def M_X12_wantSign : Mi := (yX12_wantSign, cX12_wantSign, 2, (some .boolean))
def M_X12_number : Mi := (yX12_number, cX12_number, 4, (some .boolean))
def M_X12_fault : Mi := (yX12_fault, cX12_fault, 2, (some .int))
def M_X12_taken : Mi := (yX12_taken, cX12_taken, 2, (some .int))
def M_X12_wantWord : Mi := (yX12_wantWord, cX12_wantWord, 2, (some .boolean))
def M_X12_isName : Mi := (yX12_isName, cX12_isName, 1, (some .boolean))
def M_X12_nameHere : Mi := (yX12_nameHere, cX12_nameHere, 4, (some .long))
def M_X12_findHere : Mi := (yX12_findHere, cX12_findHere, 4, (some .int))
def M_X12_rowOf : Mi := (yX12_rowOf, cX12_rowOf, 1, (some .int))
def M_X12_isIn : Mi := (yX12_isIn, cX12_isIn, 2, (some .boolean))
def M_X12_aClass : Mi := (yX12_aClass, cX12_aClass, 3, (some .boolean))
def M_X12_systemPart : Mi := (yX12_systemPart, cX12_systemPart, 2, (some .boolean))
def M_X12_system : Mi := (yX12_system, cX12_system, 4, (some .int))
def M_X12_classTo : Mi := (yX12_classTo, cX12_classTo, 2, (some .boolean))
def M_X12_test : Mi := (yX12_test, cX12_test, 3, (some .boolean))
def M_X12_dayOrder : Mi := (yX12_dayOrder, cX12_dayOrder, 3, (some .boolean))
def M_X12_isOrder : Mi := (yX12_isOrder, cX12_isOrder, 1, (some .boolean))
def M_X12_dayStep : Mi := (yX12_dayStep, cX12_dayStep, 6, (some .boolean))
def M_X12_days : Mi := (yX12_days, cX12_days, 4, (some .int))
def M_X12_isClass : Mi := (yX12_isClass, cX12_isClass, 2, (some .boolean))
def M_X12_restOf : Mi := (yX12_restOf, cX12_restOf, 2, (some .int))
def M_X12_modulusOf : Mi := (yX12_modulusOf, cX12_modulusOf, 2, (some .int))
def M_X12_isOn : Mi := (yX12_isOn, cX12_isOn, 2, (some .boolean))
def M_X12_onSet : Mi := (yX12_onSet, cX12_onSet, 3, (some .int))
def M_X12_bits : Mi := (yX12_bits, cX12_bits, 3, (some .int))
def M_X12_common : Mi := (yX12_common, cX12_common, 5, (some .int))
def M_X12_spanOf : Mi := (yX12_spanOf, cX12_spanOf, 4, (some .int))
def M_X12_lays : Mi := (yX12_lays, cX12_lays, 4, (some .boolean))
def M_X12_laysNow : Mi := (yX12_laysNow, cX12_laysNow, 1, (some .boolean))
def M_X12_justBy : Mi := (yX12_justBy, cX12_justBy, 4, (some .int))
def M_X12_doMeet : Mi := (yX12_doMeet, cX12_doMeet, 3, (some .boolean))
def M_X12_couples : Mi := (yX12_couples, cX12_couples, 4, (some .int))
def M_X12_areUnlike : Mi := (yX12_areUnlike, cX12_areUnlike, 4, (some .boolean))
def M_X12_told : Mi := (yX12_told, cX12_told, 2, (some .int))
def M_X12_classOf : Mi := (yX12_classOf, cX12_classOf, 3, (some .int))
def M_X12_catchers : Mi := (yX12_catchers, cX12_catchers, 4, (some .int))
def M_X12_caught : Mi := (yX12_caught, cX12_caught, 2, (some .int))
def M_X12_tightest : Mi := (yX12_tightest, cX12_tightest, 5, (some .int))
def M_X12_turn : Mi := (yX12_turn, cX12_turn, 2, (some .int))
def M_X12_puts : Mi := (yX12_puts, cX12_puts, 5, none)
def M_X12_add : Mi := (yX12_add, cX12_add, 3, (some .int))
def M_X12_takesAway : Mi := (yX12_takesAway, cX12_takesAway, 4, none)
def M_X12_drop : Mi := (yX12_drop, cX12_drop, 2, (some .int))
def M_X12_move : Mi := (yX12_move, cX12_move, 4, (some .int))
def M_X12_shifts : Mi := (yX12_shifts, cX12_shifts, 3, none)
def M_X12_shift : Mi := (yX12_shift, cX12_shift, 2, (some .boolean))
def M_X12_spread : Mi := (yX12_spread, cX12_spread, 4, (some .int))
def M_X12_whyNotSplit : Mi := (yX12_whyNotSplit, cX12_whyNotSplit, 3, (some .int))
def M_X12_splits : Mi := (yX12_splits, cX12_splits, 5, none)
def M_X12_split : Mi := (yX12_split, cX12_split, 4, (some .int))
def M_X12_findClass : Mi := (yX12_findClass, cX12_findClass, 5, (some .int))
def M_X12_join : Mi := (yX12_join, cX12_join, 8, (some .int))
def M_X12_rule : Mi := (yX12_rule, cX12_rule, 2, (some .boolean))
def M_X12_gapAt : Mi := (yX12_gapAt, cX12_gapAt, 4, (some .int))
def M_X12_gaps : Mi := (yX12_gaps, cX12_gaps, 1, (some .boolean))
def M_X12_weight : Mi := (yX12_weight, cX12_weight, 3, (some .boolean))
def M_X12_alone : Mi := (yX12_alone, cX12_alone, 2, (some .boolean))
def M_X12_needless : Mi := (yX12_needless, cX12_needless, 3, (some .int))
def M_X12_fewestNow : Mi := (yX12_fewestNow, cX12_fewestNow, 4, (some .int))
def M_X12_fewest : Mi := (yX12_fewest, cX12_fewest, 1, (some .int))
def M_X12_fewestSet : Mi := (yX12_fewestSet, cX12_fewestSet, 1, (some .int))
def M_X12_meet : Mi := (yX12_meet, cX12_meet, 4, (some .int))
def M_X12_thickNow : Mi := (yX12_thickNow, cX12_thickNow, 3, (some .int))
def M_X12_thick : Mi := (yX12_thick, cX12_thick, 1, (some .int))
def M_X12_ask : Mi := (yX12_ask, cX12_ask, 2, (some .int))
def M_X12_isLikeBy : Mi := (yX12_isLikeBy, cX12_isLikeBy, 3, (some .boolean))
def M_X12_turnsBy : Mi := (yX12_turnsBy, cX12_turnsBy, 2, (some .int))
def M_X12_kindOf : Mi := (yX12_kindOf, cX12_kindOf, 5, (some .int))
def M_X12_leastPrime : Mi := (yX12_leastPrime, cX12_leastPrime, 2, (some .int))
def M_X12_laysTree : Mi := (yX12_laysTree, cX12_laysTree, 5, none)
def M_X12_tree : Mi := (yX12_tree, cX12_tree, 2, (some .int))
def M_X12_leafOf : Mi := (yX12_leafOf, cX12_leafOf, 3, (some .int))
def M_X12_wrongChoices : Mi := (yX12_wrongChoices, cX12_wrongChoices, 7, (some .int))
def M_X12_allWays : Mi := (yX12_allWays, cX12_allWays, 4, (some .int))
def M_X12_laysWay : Mi := (yX12_laysWay, cX12_laysWay, 5, none)
def M_X12_isNoneTwice : Mi := (yX12_isNoneTwice, cX12_isNoneTwice, 4, (some .boolean))
def M_X12_spanBy : Mi := (yX12_spanBy, cX12_spanBy, 4, (some .int))
def M_X12_isAllBy : Mi := (yX12_isAllBy, cX12_isAllBy, 6, (some .boolean))
def M_X12_isGood : Mi := (yX12_isGood, cX12_isGood, 6, (some .boolean))
def M_X12_choices : Mi := (yX12_choices, cX12_choices, 7, (some .int))
def M_X12_choiceAt : Mi := (yX12_choiceAt, cX12_choiceAt, 7, (some .int))
def M_X12_worthOf : Mi := (yX12_worthOf, cX12_worthOf, 2, (some .int))
def M_X12_afterBy : Mi := (yX12_afterBy, cX12_afterBy, 3, (some .int))
def M_X12_leastBy : Mi := (yX12_leastBy, cX12_leastBy, 5, (some .int))
def M_X12_mostBy : Mi := (yX12_mostBy, cX12_mostBy, 7, (some .int))
def M_X12_wrongGame : Mi := (yX12_wrongGame, cX12_wrongGame, 3, (some .int))
def M_X12_game : Mi := (yX12_game, cX12_game, 3, (some .int))
def M_X12_moveOf : Mi := (yX12_moveOf, cX12_moveOf, 3, (some .int))
def M_X12_uncaught : Mi := (yX12_uncaught, cX12_uncaught, 10, (some .boolean))
def M_X12_copySystem : Mi := (yX12_copySystem, cX12_copySystem, 3, (some .int))
def M_X12_draw : Mi := (yX12_draw, cX12_draw, 2, (some .int))
def M_X12_switches : Mi := (yX12_switches, cX12_switches, 3, (some .boolean))
def M_X12_shiftsOn : Mi := (yX12_shiftsOn, cX12_shiftsOn, 2, (some .boolean))
def M_X12_splitsOn : Mi := (yX12_splitsOn, cX12_splitsOn, 3, (some .boolean))
def M_X12_doesAny : Mi := (yX12_doesAny, cX12_doesAny, 2, (some .boolean))
def M_X12_does : Mi := (yX12_does, cX12_does, 3, (some .boolean))
def M_X12_holds : Mi := (yX12_holds, cX12_holds, 5, (some .boolean))
def M_X12_behindEnds : Mi := (yX12_behindEnds, cX12_behindEnds, 5, (some .int))
def M_X12_lives : Mi := (yX12_lives, cX12_lives, 6, none)
def M_X12_live : Mi := (yX12_live, cX12_live, 3, (some .int))
def M_X12_lived : Mi := (yX12_lived, cX12_lived, 2, (some .int))
def M_X12_keeps : Mi := (yX12_keeps, cX12_keeps, 3, none)
def M_X12_brings : Mi := (yX12_brings, cX12_brings, 3, none)
def M_X12_mean : Mi := (yX12_mean, cX12_mean, 6, (some .boolean))
def M_X12_copies : Mi := (yX12_copies, cX12_copies, 4, none)
def M_X12_mark : Mi := (yX12_mark, cX12_mark, 1, (some .int))
def M_X12_undo : Mi := (yX12_undo, cX12_undo, 1, (some .int))
def M_J6_bitCount_0f7a4 : Mi := (yJ6_bitCount_0f7a4, cJ6_bitCount_0f7a4, 1, (some .int))
def M_J13_bitCount_95d88 : Mi := (yJ13_bitCount_95d88, cJ13_bitCount_95d88, 2, (some .int))
def M_J7_fill_d0a16 : Mi := (yJ7_fill_d0a16, cJ7_fill_d0a16, 5, none)
theorem ok2_X0_takeModuli : Ok2 M_X0_takeModuli 2 := ⟨(gt5 90 rfl rfl), (gt1 7 rfl rfl), by decide +kernel, by decide +kernel, by decide +kernel⟩
theorem ok2_X0_product : Ok2 M_X0_product 0 := ⟨(gt5 98 rfl rfl), (gt1 7 rfl rfl), by decide +kernel, by decide +kernel, by decide +kernel⟩
theorem ok2_X0_countWays : Ok2 M_X0_countWays 1 := ⟨(gt5 103 rfl rfl), (gt1 7 rfl rfl), by decide +kernel, by decide +kernel, by decide +kernel⟩
theorem ok2_X0_findFirst : Ok2 M_X0_findFirst 1 := ⟨(gt5 132 rfl rfl), (gt1 7 rfl rfl), by decide +kernel, by decide +kernel, by decide +kernel⟩
theorem ok2_X0_restAt : Ok2 M_X0_restAt 1 := ⟨(gt5 136 rfl rfl), (gt1 7 rfl rfl), by decide +kernel, by decide +kernel, by decide +kernel⟩
theorem ok2_X0_begin : Ok2 M_X0_begin 1 := ⟨(gt5 107 rfl rfl), (gt1 7 rfl rfl), by decide +kernel, by decide +kernel, by decide +kernel⟩
theorem ok2_X0_waysFrom : Ok2 M_X0_waysFrom 3 := ⟨(gt5 112 rfl rfl), (gt1 7 rfl rfl), by decide +kernel, by decide +kernel, by decide +kernel⟩
theorem ok2_X0_lay : Ok2 M_X0_lay 2 := ⟨(gt5 122 rfl rfl), (gt1 7 rfl rfl), by decide +kernel, by decide +kernel, by decide +kernel⟩
theorem ok2_X0_isAllCaught : Ok2 M_X0_isAllCaught 1 := ⟨(gt5 116 rfl rfl), (gt1 7 rfl rfl), by decide +kernel, by decide +kernel, by decide +kernel⟩
theorem ok2_X1_clear : Ok2 M_X1_clear 0 := ⟨(gt3 86 rfl rfl), (gt1 3 rfl rfl), by decide +kernel, by decide +kernel, by decide +kernel⟩
theorem ok2_X1_copyFrom : Ok2 M_X1_copyFrom 1 := ⟨(gt3 138 rfl rfl), (gt1 3 rfl rfl), by decide +kernel, by decide +kernel, by decide +kernel⟩
theorem ok2_X1_isThere : Ok2 M_X1_isThere 1 := ⟨(gt4 66 rfl rfl), (gt1 3 rfl rfl), by decide +kernel, by decide +kernel, by decide +kernel⟩
theorem ok2_X1_isOn : Ok2 M_X1_isOn 1 := ⟨(gt4 39 rfl rfl), (gt1 3 rfl rfl), by decide +kernel, by decide +kernel, by decide +kernel⟩
theorem ok2_X1_find : Ok2 M_X1_find 1 := ⟨(gt3 127 rfl rfl), (gt1 3 rfl rfl), by decide +kernel, by decide +kernel, by decide +kernel⟩
theorem ok2_X1_append : Ok2 M_X1_append 4 := ⟨(gt3 131 rfl rfl), (gt1 3 rfl rfl), by decide +kernel, by decide +kernel, by decide +kernel⟩
theorem ok2_X1_remove : Ok2 M_X1_remove 1 := ⟨(gt4 115 rfl rfl), (gt1 3 rfl rfl), by decide +kernel, by decide +kernel, by decide +kernel⟩
theorem ok2_X1_flip : Ok2 M_X1_flip 1 := ⟨(gt4 100 rfl rfl), (gt1 3 rfl rfl), by decide +kernel, by decide +kernel, by decide +kernel⟩
theorem ok2_X1_slide : Ok2 M_X1_slide 1 := ⟨(gt4 128 rfl rfl), (gt1 3 rfl rfl), by decide +kernel, by decide +kernel, by decide +kernel⟩
theorem ok2_X1_stretch : Ok2 M_X1_stretch 1 := ⟨(gt4 142 rfl rfl), (gt1 3 rfl rfl), by decide +kernel, by decide +kernel, by decide +kernel⟩
theorem ok2_X1_partTrouble : Ok2 M_X1_partTrouble 2 := ⟨(gt4 151 rfl rfl), (gt1 3 rfl rfl), by decide +kernel, by decide +kernel, by decide +kernel⟩
theorem ok2_X1_part : Ok2 M_X1_part 2 := ⟨(gt4 155 rfl rfl), (gt1 3 rfl rfl), by decide +kernel, by decide +kernel, by decide +kernel⟩
theorem ok2_X1_partsWith : Ok2 M_X1_partsWith 2 := ⟨(gt4 164 rfl rfl), (gt1 3 rfl rfl), by decide +kernel, by decide +kernel, by decide +kernel⟩
theorem ok2_X1_firstLike : Ok2 M_X1_firstLike 2 := ⟨(gt4 168 rfl rfl), (gt1 3 rfl rfl), by decide +kernel, by decide +kernel, by decide +kernel⟩
theorem ok2_X1_merge : Ok2 M_X1_merge 3 := ⟨(gt4 172 rfl rfl), (gt1 3 rfl rfl), by decide +kernel, by decide +kernel, by decide +kernel⟩
theorem ok2_X1_greatestModulus : Ok2 M_X1_greatestModulus 0 := ⟨(gt4 137 rfl rfl), (gt1 3 rfl rfl), by decide +kernel, by decide +kernel, by decide +kernel⟩
theorem ok2_X1_spanOf : Ok2 M_X1_spanOf 1 := ⟨(gt3 229 rfl rfl), (gt1 3 rfl rfl), by decide +kernel, by decide +kernel, by decide +kernel⟩
theorem ok2_X1_takes : Ok2 M_X1_takes 2 := ⟨(gt4 80 rfl rfl), (gt1 3 rfl rfl), by decide +kernel, by decide +kernel, by decide +kernel⟩
theorem ok2_X1_catchers : Ok2 M_X1_catchers 1 := ⟨(gt4 76 rfl rfl), (gt1 3 rfl rfl), by decide +kernel, by decide +kernel, by decide +kernel⟩
theorem ok2_X1_leastModulusOf : Ok2 M_X1_leastModulusOf 1 := ⟨(gt4 88 rfl rfl), (gt1 3 rfl rfl), by decide +kernel, by decide +kernel, by decide +kernel⟩
theorem ok2_X1_touches : Ok2 M_X1_touches 3 := ⟨(gt4 47 rfl rfl), (gt1 3 rfl rfl), by decide +kernel, by decide +kernel, by decide +kernel⟩
theorem ok2_X1_touching : Ok2 M_X1_touching 3 := ⟨(gt4 43 rfl rfl), (gt1 3 rfl rfl), by decide +kernel, by decide +kernel, by decide +kernel⟩
theorem ok2_X1_anyModulusDivides : Ok2 M_X1_anyModulusDivides 2 := ⟨(gt5 65 rfl rfl), (gt1 3 rfl rfl), by decide +kernel, by decide +kernel, by decide +kernel⟩
theorem ok2_X1_leastOfBoth : Ok2 M_X1_leastOfBoth 2 := ⟨(gt5 24 rfl rfl), (gt1 3 rfl rfl), by decide +kernel, by decide +kernel, by decide +kernel⟩
theorem ok2_X1_couples : Ok2 M_X1_couples 0 := ⟨(gt4 35 rfl rfl), (gt1 3 rfl rfl), by decide +kernel, by decide +kernel, by decide +kernel⟩
theorem ok2_X1_allUnlike : Ok2 M_X1_allUnlike 0 := ⟨(gt4 57 rfl rfl), (gt1 3 rfl rfl), by decide +kernel, by decide +kernel, by decide +kernel⟩
theorem ok2_X1_caughtTimes : Ok2 M_X1_caughtTimes 1 := ⟨(gt4 210 rfl rfl), (gt1 3 rfl rfl), by decide +kernel, by decide +kernel, by decide +kernel⟩
theorem ok2_X2_clear : Ok2 M_X2_clear 0 := ⟨(gt3 143 rfl rfl), (gt1 4 rfl rfl), by decide +kernel, by decide +kernel, by decide +kernel⟩
theorem ok2_X2_copyFrom : Ok2 M_X2_copyFrom 1 := ⟨(gt3 204 rfl rfl), (gt1 4 rfl rfl), by decide +kernel, by decide +kernel, by decide +kernel⟩
theorem ok2_X2_append : Ok2 M_X2_append 1 := ⟨(gt3 164 rfl rfl), (gt1 4 rfl rfl), by decide +kernel, by decide +kernel, by decide +kernel⟩
theorem ok2_X2_pair : Ok2 M_X2_pair 2 := ⟨(gt3 200 rfl rfl), (gt1 4 rfl rfl), by decide +kernel, by decide +kernel, by decide +kernel⟩
theorem ok2_X3_take : Ok2 M_X3_take 3 := ⟨(gt3 155 rfl rfl), (gt1 19 rfl rfl), by decide +kernel, by decide +kernel, by decide +kernel⟩
theorem ok2_X3_innermostBehind : Ok2 M_X3_innermostBehind 3 := ⟨(gt3 196 rfl rfl), (gt1 19 rfl rfl), by decide +kernel, by decide +kernel, by decide +kernel⟩
theorem ok2_X3_depthOf : Ok2 M_X3_depthOf 2 := ⟨(gt3 177 rfl rfl), (gt1 19 rfl rfl), by decide +kernel, by decide +kernel, by decide +kernel⟩
theorem ok2_X3_isOpener : Ok2 M_X3_isOpener 1 := ⟨(gt3 173 rfl rfl), (gt1 19 rfl rfl), by decide +kernel, by decide +kernel, by decide +kernel⟩
theorem ok2_X3_isStep : Ok2 M_X3_isStep 1 := ⟨(gt3 170 rfl rfl), (gt1 19 rfl rfl), by decide +kernel, by decide +kernel, by decide +kernel⟩
theorem ok2_X3_takeOne : Ok2 M_X3_takeOne 4 := ⟨(gt3 160 rfl rfl), (gt1 19 rfl rfl), by decide +kernel, by decide +kernel, by decide +kernel⟩
theorem ok2_X3_takeRest : Ok2 M_X3_takeRest 4 := ⟨(gt3 180 rfl rfl), (gt1 19 rfl rfl), by decide +kernel, by decide +kernel, by decide +kernel⟩
theorem ok2_X3_takeTest : Ok2 M_X3_takeTest 4 := ⟨(gt3 189 rfl rfl), (gt1 19 rfl rfl), by decide +kernel, by decide +kernel, by decide +kernel⟩
theorem ok2_X3_takeSign : Ok2 M_X3_takeSign 3 := ⟨(gt3 192 rfl rfl), (gt1 19 rfl rfl), by decide +kernel, by decide +kernel, by decide +kernel⟩
theorem ok2_X3_takeWho : Ok2 M_X3_takeWho 4 := ⟨(gt3 183 rfl rfl), (gt1 19 rfl rfl), by decide +kernel, by decide +kernel, by decide +kernel⟩
theorem ok2_X4_worth : Ok2 M_X4_worth 5 := ⟨(gt5 144 rfl rfl), (gt1 22 rfl rfl), by decide +kernel, by decide +kernel, by decide +kernel⟩
theorem ok2_X4_bestSwitch : Ok2 M_X4_bestSwitch 3 := ⟨(gt5 158 rfl rfl), (gt1 22 rfl rfl), by decide +kernel, by decide +kernel, by decide +kernel⟩
theorem ok2_X5_run : Ok2 M_X5_run 4 := ⟨(gt5 181 rfl rfl), (gt1 8 rfl rfl), by decide +kernel, by decide +kernel, by decide +kernel⟩
theorem ok2_X5_follow : Ok2 M_X5_follow 4 := ⟨(gt5 186 rfl rfl), (gt1 8 rfl rfl), by decide +kernel, by decide +kernel, by decide +kernel⟩
theorem ok2_X5_behindEnd : Ok2 M_X5_behindEnd 2 := ⟨(gt5 190 rfl rfl), (gt1 8 rfl rfl), by decide +kernel, by decide +kernel, by decide +kernel⟩
theorem ok2_X5_isSo : Ok2 M_X5_isSo 4 := ⟨(gt5 193 rfl rfl), (gt1 8 rfl rfl), by decide +kernel, by decide +kernel, by decide +kernel⟩
theorem ok2_X5_compares : Ok2 M_X5_compares 3 := ⟨(gt5 200 rfl rfl), (gt1 8 rfl rfl), by decide +kernel, by decide +kernel, by decide +kernel⟩
theorem ok2_X5_act : Ok2 M_X5_act 3 := ⟨(gt5 231 rfl rfl), (gt1 8 rfl rfl), by decide +kernel, by decide +kernel, by decide +kernel⟩
theorem ok2_X5_flip : Ok2 M_X5_flip 2 := ⟨(gt5 215 rfl rfl), (gt1 8 rfl rfl), by decide +kernel, by decide +kernel, by decide +kernel⟩
theorem ok2_X5_slide : Ok2 M_X5_slide 2 := ⟨(gt5 220 rfl rfl), (gt1 8 rfl rfl), by decide +kernel, by decide +kernel, by decide +kernel⟩
theorem ok2_X5_partIfItCan : Ok2 M_X5_partIfItCan 3 := ⟨(gt5 224 rfl rfl), (gt1 8 rfl rfl), by decide +kernel, by decide +kernel, by decide +kernel⟩
theorem ok2_X5_chance : Ok2 M_X5_chance 1 := ⟨(gt5 205 rfl rfl), (gt1 8 rfl rfl), by decide +kernel, by decide +kernel, by decide +kernel⟩
theorem ok2_X5_draw : Ok2 M_X5_draw 1 := ⟨(gt5 209 rfl rfl), (gt1 8 rfl rfl), by decide +kernel, by decide +kernel, by decide +kernel⟩
theorem ok2_X6_append : Ok2 M_X6_append 1 := ⟨(gt2 215 rfl rfl), (gt1 2 rfl rfl), by decide +kernel, by decide +kernel, by decide +kernel⟩
theorem ok2_X6_begin : Ok2 M_X6_begin 1 := ⟨(gt2 223 rfl rfl), (gt1 2 rfl rfl), by decide +kernel, by decide +kernel, by decide +kernel⟩
theorem ok2_X6_keep : Ok2 M_X6_keep 3 := ⟨(gt3 67 rfl rfl), (gt1 2 rfl rfl), by decide +kernel, by decide +kernel, by decide +kernel⟩
theorem ok2_X6_skipBlanks : Ok2 M_X6_skipBlanks 1 := ⟨(gt2 233 rfl rfl), (gt1 2 rfl rfl), by decide +kernel, by decide +kernel, by decide +kernel⟩
theorem ok2_X6_findToken : Ok2 M_X6_findToken 1 := ⟨(gt2 237 rfl rfl), (gt1 2 rfl rfl), by decide +kernel, by decide +kernel, by decide +kernel⟩
theorem ok2_X6_findWord : Ok2 M_X6_findWord 1 := ⟨(gt3 4 rfl rfl), (gt1 2 rfl rfl), by decide +kernel, by decide +kernel, by decide +kernel⟩
theorem ok2_X6_findNumber : Ok2 M_X6_findNumber 1 := ⟨(gt3 74 rfl rfl), (gt1 2 rfl rfl), by decide +kernel, by decide +kernel, by decide +kernel⟩
theorem ok2_X6_wordSort : Ok2 M_X6_wordSort 2 := ⟨(gt3 10 rfl rfl), (gt1 2 rfl rfl), by decide +kernel, by decide +kernel, by decide +kernel⟩
theorem ok2_X6_isKeptWord : Ok2 M_X6_isKeptWord 3 := ⟨(gt3 25 rfl rfl), (gt1 2 rfl rfl), by decide +kernel, by decide +kernel, by decide +kernel⟩
theorem ok2_X6_isLetter : Ok2 M_X6_isLetter 1 := ⟨(gt3 0 rfl rfl), (gt1 2 rfl rfl), by decide +kernel, by decide +kernel, by decide +kernel⟩
theorem ok2_X6_isDigit : Ok2 M_X6_isDigit 1 := ⟨(gt3 70 rfl rfl), (gt1 2 rfl rfl), by decide +kernel, by decide +kernel, by decide +kernel⟩
theorem ok2_X6_signOf : Ok2 M_X6_signOf 1 := ⟨(gt3 79 rfl rfl), (gt1 2 rfl rfl), by decide +kernel, by decide +kernel, by decide +kernel⟩
theorem ok2_X6_token : Ok2 M_X6_token 0 := ⟨(gt3 90 rfl rfl), (gt1 2 rfl rfl), by decide +kernel, by decide +kernel, by decide +kernel⟩
theorem ok2_X6_value : Ok2 M_X6_value 0 := ⟨(gt3 123 rfl rfl), (gt1 2 rfl rfl), by decide +kernel, by decide +kernel, by decide +kernel⟩
theorem ok2_X6_step : Ok2 M_X6_step 0 := ⟨(gt3 101 rfl rfl), (gt1 2 rfl rfl), by decide +kernel, by decide +kernel, by decide +kernel⟩
theorem ok2_X6_blame : Ok2 M_X6_blame 1 := ⟨(gt3 94 rfl rfl), (gt1 2 rfl rfl), by decide +kernel, by decide +kernel, by decide +kernel⟩
theorem ok2_X6_take : Ok2 M_X6_take 1 := ⟨(gt3 116 rfl rfl), (gt1 2 rfl rfl), by decide +kernel, by decide +kernel, by decide +kernel⟩
theorem ok2_X6_takeNumber : Ok2 M_X6_takeNumber 2 := ⟨(gt3 105 rfl rfl), (gt1 2 rfl rfl), by decide +kernel, by decide +kernel, by decide +kernel⟩
theorem ok2_X6_takenNumber : Ok2 M_X6_takenNumber 0 := ⟨(gt3 112 rfl rfl), (gt1 2 rfl rfl), by decide +kernel, by decide +kernel, by decide +kernel⟩
theorem ok2_X7_fill : Ok2 M_X7_fill 2 := ⟨(gt3 225 rfl rfl), (gt1 5 rfl rfl), by decide +kernel, by decide +kernel, by decide +kernel⟩
theorem ok2_X7_lay : Ok2 M_X7_lay 2 := ⟨(gt4 7 rfl rfl), (gt1 5 rfl rfl), by decide +kernel, by decide +kernel, by decide +kernel⟩
theorem ok2_X7_openIn : Ok2 M_X7_openIn 1 := ⟨(gt4 20 rfl rfl), (gt1 5 rfl rfl), by decide +kernel, by decide +kernel, by decide +kernel⟩
theorem ok2_X7_countGaps : Ok2 M_X7_countGaps 0 := ⟨(gt4 16 rfl rfl), (gt1 5 rfl rfl), by decide +kernel, by decide +kernel, by decide +kernel⟩
theorem ok2_X7_findGap : Ok2 M_X7_findGap 1 := ⟨(gt4 186 rfl rfl), (gt1 5 rfl rfl), by decide +kernel, by decide +kernel, by decide +kernel⟩
theorem ok2_X7_placeOfBit : Ok2 M_X7_placeOfBit 2 := ⟨(gt4 189 rfl rfl), (gt1 5 rfl rfl), by decide +kernel, by decide +kernel, by decide +kernel⟩
theorem ok2_X7_countOnlyBy : Ok2 M_X7_countOnlyBy 2 := ⟨(gt4 218 rfl rfl), (gt1 5 rfl rfl), by decide +kernel, by decide +kernel, by decide +kernel⟩
theorem ok2_X7_needlessOf : Ok2 M_X7_needlessOf 1 := ⟨(gt4 229 rfl rfl), (gt1 5 rfl rfl), by decide +kernel, by decide +kernel, by decide +kernel⟩
theorem ok2_X7_thickestNumber : Ok2 M_X7_thickestNumber 1 := ⟨(gt5 32 rfl rfl), (gt1 5 rfl rfl), by decide +kernel, by decide +kernel, by decide +kernel⟩
theorem ok2_X7_leastSet : Ok2 M_X7_leastSet 1 := ⟨(gt4 239 rfl rfl), (gt1 5 rfl rfl), by decide +kernel, by decide +kernel, by decide +kernel⟩
theorem ok2_X7_findFailing : Ok2 M_X7_findFailing 2 := ⟨(gt5 3 rfl rfl), (gt1 5 rfl rfl), by decide +kernel, by decide +kernel, by decide +kernel⟩
theorem ok2_X7_leastTurn : Ok2 M_X7_leastTurn 0 := ⟨(gt5 44 rfl rfl), (gt1 5 rfl rfl), by decide +kernel, by decide +kernel, by decide +kernel⟩
theorem ok2_X7_comesAgainBy : Ok2 M_X7_comesAgainBy 1 := ⟨(gt5 48 rfl rfl), (gt1 5 rfl rfl), by decide +kernel, by decide +kernel, by decide +kernel⟩
theorem ok2_X8_take : Ok2 M_X8_take 2 := ⟨(gt3 82 rfl rfl), (gt1 18 rfl rfl), by decide +kernel, by decide +kernel, by decide +kernel⟩
theorem ok2_X8_takeOdds : Ok2 M_X8_takeOdds 2 := ⟨(gt3 97 rfl rfl), (gt1 18 rfl rfl), by decide +kernel, by decide +kernel, by decide +kernel⟩
theorem ok2_X8_takeClass : Ok2 M_X8_takeClass 2 := ⟨(gt3 119 rfl rfl), (gt1 18 rfl rfl), by decide +kernel, by decide +kernel, by decide +kernel⟩
theorem ok2_X9_lay : Ok2 M_X9_lay 2 := ⟨(gt2 147 rfl rfl), (gt1 9 rfl rfl), by decide +kernel, by decide +kernel, by decide +kernel⟩
theorem ok2_X9_isMissing : Ok2 M_X9_isMissing 0 := ⟨(gt2 170 rfl rfl), (gt1 9 rfl rfl), by decide +kernel, by decide +kernel, by decide +kernel⟩
theorem ok2_X9_holds : Ok2 M_X9_holds 2 := ⟨(gt2 174 rfl rfl), (gt1 9 rfl rfl), by decide +kernel, by decide +kernel, by decide +kernel⟩
theorem ok2_X9_at : Ok2 M_X9_at 1 := ⟨(gt2 195 rfl rfl), (gt1 9 rfl rfl), by decide +kernel, by decide +kernel, by decide +kernel⟩
theorem ok2_X9_put : Ok2 M_X9_put 2 := ⟨(gt2 178 rfl rfl), (gt1 9 rfl rfl), by decide +kernel, by decide +kernel, by decide +kernel⟩
theorem ok2_X9_cut : Ok2 M_X9_cut 1 := ⟨(gt2 183 rfl rfl), (gt1 9 rfl rfl), by decide +kernel, by decide +kernel, by decide +kernel⟩
theorem ok2_X10_grow : Ok2 M_X10_grow 2 := ⟨(gt5 56 rfl rfl), (gt1 6 rfl rfl), by decide +kernel, by decide +kernel, by decide +kernel⟩
theorem ok2_X10_visit : Ok2 M_X10_visit 7 := ⟨(gt5 59 rfl rfl), (gt1 6 rfl rfl), by decide +kernel, by decide +kernel, by decide +kernel⟩
theorem ok2_X10_leafWith : Ok2 M_X10_leafWith 3 := ⟨(gt5 76 rfl rfl), (gt1 6 rfl rfl), by decide +kernel, by decide +kernel, by decide +kernel⟩
theorem ok2_X11_status : Ok2 M_X11_status 0 := ⟨(gt2 122 rfl rfl), (gt1 1 rfl rfl), by decide +kernel, by decide +kernel, by decide +kernel⟩
theorem ok2_X11_top : Ok2 M_X11_top 0 := ⟨(gt2 126 rfl rfl), (gt1 1 rfl rfl), by decide +kernel, by decide +kernel, by decide +kernel⟩
theorem ok2_X11_bottom : Ok2 M_X11_bottom 0 := ⟨(gt2 130 rfl rfl), (gt1 1 rfl rfl), by decide +kernel, by decide +kernel, by decide +kernel⟩
theorem ok2_X11_tray : Ok2 M_X11_tray 3 := ⟨(gt2 134 rfl rfl), (gt1 1 rfl rfl), by decide +kernel, by decide +kernel, by decide +kernel⟩
theorem ok2_X11_write : Ok2 M_X11_write 3 := ⟨(gt2 158 rfl rfl), (gt1 1 rfl rfl), by decide +kernel, by decide +kernel, by decide +kernel⟩
theorem ok2_X11_read : Ok2 M_X11_read 2 := ⟨(gt2 187 rfl rfl), (gt1 1 rfl rfl), by decide +kernel, by decide +kernel, by decide +kernel⟩
theorem ok2_X11_pour : Ok2 M_X11_pour 5 := ⟨(gt2 200 rfl rfl), (gt1 1 rfl rfl), by decide +kernel, by decide +kernel, by decide +kernel⟩
theorem ok2_X11_pourTrouble : Ok2 M_X11_pourTrouble 5 := ⟨(gt2 204 rfl rfl), (gt1 1 rfl rfl), by decide +kernel, by decide +kernel, by decide +kernel⟩
theorem ok2_X11_trayTrouble : Ok2 M_X11_trayTrouble 1 := ⟨(gt2 166 rfl rfl), (gt1 1 rfl rfl), by decide +kernel, by decide +kernel, by decide +kernel⟩
theorem ok2_X11_placeTrouble : Ok2 M_X11_placeTrouble 2 := ⟨(gt2 162 rfl rfl), (gt1 1 rfl rfl), by decide +kernel, by decide +kernel, by decide +kernel⟩
theorem ok2_X11_feed : Ok2 M_X11_feed 5 := ⟨(gt2 211 rfl rfl), (gt1 1 rfl rfl), by decide +kernel, by decide +kernel, by decide +kernel⟩
theorem ok2_X11_system : Ok2 M_X11_system 1 := ⟨(gt2 219 rfl rfl), (gt1 1 rfl rfl), by decide +kernel, by decide +kernel, by decide +kernel⟩
theorem ok2_X11_days : Ok2 M_X11_days 1 := ⟨(gt3 151 rfl rfl), (gt1 1 rfl rfl), by decide +kernel, by decide +kernel, by decide +kernel⟩
theorem ok2_X11_fault : Ok2 M_X11_fault 1 := ⟨(gt3 209 rfl rfl), (gt1 1 rfl rfl), by decide +kernel, by decide +kernel, by decide +kernel⟩
theorem ok2_X11_told : Ok2 M_X11_told 1 := ⟨(gt3 213 rfl rfl), (gt1 1 rfl rfl), by decide +kernel, by decide +kernel, by decide +kernel⟩
theorem ok2_X11_toldBySpan : Ok2 M_X11_toldBySpan 1 := ⟨(gt3 217 rfl rfl), (gt1 1 rfl rfl), by decide +kernel, by decide +kernel, by decide +kernel⟩
theorem ok2_X11_classOf : Ok2 M_X11_classOf 2 := ⟨(gt4 62 rfl rfl), (gt1 1 rfl rfl), by decide +kernel, by decide +kernel, by decide +kernel⟩
theorem ok2_X11_caught : Ok2 M_X11_caught 1 := ⟨(gt4 71 rfl rfl), (gt1 1 rfl rfl), by decide +kernel, by decide +kernel, by decide +kernel⟩
theorem ok2_X11_tightest : Ok2 M_X11_tightest 1 := ⟨(gt4 84 rfl rfl), (gt1 1 rfl rfl), by decide +kernel, by decide +kernel, by decide +kernel⟩
theorem ok2_X11_turn : Ok2 M_X11_turn 1 := ⟨(gt4 96 rfl rfl), (gt1 1 rfl rfl), by decide +kernel, by decide +kernel, by decide +kernel⟩
theorem ok2_X11_add : Ok2 M_X11_add 2 := ⟨(gt4 105 rfl rfl), (gt1 1 rfl rfl), by decide +kernel, by decide +kernel, by decide +kernel⟩
theorem ok2_X11_drop : Ok2 M_X11_drop 1 := ⟨(gt4 111 rfl rfl), (gt1 1 rfl rfl), by decide +kernel, by decide +kernel, by decide +kernel⟩
theorem ok2_X11_move : Ok2 M_X11_move 2 := ⟨(gt4 119 rfl rfl), (gt1 1 rfl rfl), by decide +kernel, by decide +kernel, by decide +kernel⟩
theorem ok2_X11_shift : Ok2 M_X11_shift 1 := ⟨(gt4 124 rfl rfl), (gt1 1 rfl rfl), by decide +kernel, by decide +kernel, by decide +kernel⟩
theorem ok2_X11_spread : Ok2 M_X11_spread 1 := ⟨(gt4 132 rfl rfl), (gt1 1 rfl rfl), by decide +kernel, by decide +kernel, by decide +kernel⟩
theorem ok2_X11_split : Ok2 M_X11_split 2 := ⟨(gt4 146 rfl rfl), (gt1 1 rfl rfl), by decide +kernel, by decide +kernel, by decide +kernel⟩
theorem ok2_X11_join : Ok2 M_X11_join 2 := ⟨(gt4 160 rfl rfl), (gt1 1 rfl rfl), by decide +kernel, by decide +kernel, by decide +kernel⟩
theorem ok2_X11_rule : Ok2 M_X11_rule 1 := ⟨(gt4 177 rfl rfl), (gt1 1 rfl rfl), by decide +kernel, by decide +kernel, by decide +kernel⟩
theorem ok2_X11_gapAt : Ok2 M_X11_gapAt 1 := ⟨(gt4 182 rfl rfl), (gt1 1 rfl rfl), by decide +kernel, by decide +kernel, by decide +kernel⟩
theorem ok2_X11_gaps : Ok2 M_X11_gaps 0 := ⟨(gt4 193 rfl rfl), (gt1 1 rfl rfl), by decide +kernel, by decide +kernel, by decide +kernel⟩
theorem ok2_X11_weight : Ok2 M_X11_weight 0 := ⟨(gt4 205 rfl rfl), (gt1 1 rfl rfl), by decide +kernel, by decide +kernel, by decide +kernel⟩
theorem ok2_X11_alone : Ok2 M_X11_alone 1 := ⟨(gt4 214 rfl rfl), (gt1 1 rfl rfl), by decide +kernel, by decide +kernel, by decide +kernel⟩
theorem ok2_X11_needless : Ok2 M_X11_needless 0 := ⟨(gt4 225 rfl rfl), (gt1 1 rfl rfl), by decide +kernel, by decide +kernel, by decide +kernel⟩
theorem ok2_X11_fewest : Ok2 M_X11_fewest 0 := ⟨(gt4 235 rfl rfl), (gt1 1 rfl rfl), by decide +kernel, by decide +kernel, by decide +kernel⟩
theorem ok2_X11_fewestSet : Ok2 M_X11_fewestSet 0 := ⟨(gt5 16 rfl rfl), (gt1 1 rfl rfl), by decide +kernel, by decide +kernel, by decide +kernel⟩
theorem ok2_X11_meet : Ok2 M_X11_meet 2 := ⟨(gt5 20 rfl rfl), (gt1 1 rfl rfl), by decide +kernel, by decide +kernel, by decide +kernel⟩
theorem ok2_X11_thick : Ok2 M_X11_thick 0 := ⟨(gt5 28 rfl rfl), (gt1 1 rfl rfl), by decide +kernel, by decide +kernel, by decide +kernel⟩
theorem ok2_X11_ask : Ok2 M_X11_ask 0 := ⟨(gt5 36 rfl rfl), (gt1 1 rfl rfl), by decide +kernel, by decide +kernel, by decide +kernel⟩
theorem ok2_X11_turnsBy : Ok2 M_X11_turnsBy 0 := ⟨(gt5 40 rfl rfl), (gt1 1 rfl rfl), by decide +kernel, by decide +kernel, by decide +kernel⟩
theorem ok2_X11_sieved : Ok2 M_X11_sieved 0 := ⟨(gt3 221 rfl rfl), (gt1 1 rfl rfl), by decide +kernel, by decide +kernel, by decide +kernel⟩
theorem ok2_X11_tree : Ok2 M_X11_tree 1 := ⟨(gt5 52 rfl rfl), (gt1 1 rfl rfl), by decide +kernel, by decide +kernel, by decide +kernel⟩
theorem ok2_X11_leafOf : Ok2 M_X11_leafOf 1 := ⟨(gt5 73 rfl rfl), (gt1 1 rfl rfl), by decide +kernel, by decide +kernel, by decide +kernel⟩
theorem ok2_X11_choices : Ok2 M_X11_choices 3 := ⟨(gt5 81 rfl rfl), (gt1 1 rfl rfl), by decide +kernel, by decide +kernel, by decide +kernel⟩
theorem ok2_X11_choiceAt : Ok2 M_X11_choiceAt 4 := ⟨(gt5 128 rfl rfl), (gt1 1 rfl rfl), by decide +kernel, by decide +kernel, by decide +kernel⟩
theorem ok2_X11_choiceTrouble : Ok2 M_X11_choiceTrouble 3 := ⟨(gt5 85 rfl rfl), (gt1 1 rfl rfl), by decide +kernel, by decide +kernel, by decide +kernel⟩
theorem ok2_X11_game : Ok2 M_X11_game 1 := ⟨(gt5 141 rfl rfl), (gt1 1 rfl rfl), by decide +kernel, by decide +kernel, by decide +kernel⟩
theorem ok2_X11_moveOf : Ok2 M_X11_moveOf 1 := ⟨(gt5 155 rfl rfl), (gt1 1 rfl rfl), by decide +kernel, by decide +kernel, by decide +kernel⟩
theorem ok2_X11_uncaught : Ok2 M_X11_uncaught 2 := ⟨(gt5 162 rfl rfl), (gt1 1 rfl rfl), by decide +kernel, by decide +kernel, by decide +kernel⟩
theorem ok2_X11_copySystem : Ok2 M_X11_copySystem 1 := ⟨(gt5 173 rfl rfl), (gt1 1 rfl rfl), by decide +kernel, by decide +kernel, by decide +kernel⟩
theorem ok2_X11_live : Ok2 M_X11_live 1 := ⟨(gt5 177 rfl rfl), (gt1 1 rfl rfl), by decide +kernel, by decide +kernel, by decide +kernel⟩
theorem ok2_X11_lived : Ok2 M_X11_lived 1 := ⟨(gt5 235 rfl rfl), (gt1 1 rfl rfl), by decide +kernel, by decide +kernel, by decide +kernel⟩
theorem ok2_X11_mean : Ok2 M_X11_mean 2 := ⟨(gt6 0 rfl rfl), (gt1 1 rfl rfl), by decide +kernel, by decide +kernel, by decide +kernel⟩
theorem ok2_X11_mark : Ok2 M_X11_mark 0 := ⟨(gt6 5 rfl rfl), (gt1 1 rfl rfl), by decide +kernel, by decide +kernel, by decide +kernel⟩
theorem ok2_X11_undo : Ok2 M_X11_undo 0 := ⟨(gt6 9 rfl rfl), (gt1 1 rfl rfl), by decide +kernel, by decide +kernel, by decide +kernel⟩
theorem ok2_X11_refuse : Ok2 M_X11_refuse 1 := ⟨(gt2 191 rfl rfl), (gt1 1 rfl rfl), by decide +kernel, by decide +kernel, by decide +kernel⟩
theorem ok2_X11_deny : Ok2 M_X11_deny 1 := ⟨(gt2 143 rfl rfl), (gt1 1 rfl rfl), by decide +kernel, by decide +kernel, by decide +kernel⟩
theorem ok2_X11_answer : Ok2 M_X11_answer 1 := ⟨(gt3 147 rfl rfl), (gt1 1 rfl rfl), by decide +kernel, by decide +kernel, by decide +kernel⟩
theorem ok2_X11_answerOrNone : Ok2 M_X11_answerOrNone 1 := ⟨(gt4 92 rfl rfl), (gt1 1 rfl rfl), by decide +kernel, by decide +kernel, by decide +kernel⟩
theorem ok2_X11_agree : Ok2 M_X11_agree 0 := ⟨(gt2 154 rfl rfl), (gt1 1 rfl rfl), by decide +kernel, by decide +kernel, by decide +kernel⟩
theorem ok2_X11_tell : Ok2 M_X11_tell 2 := ⟨(gt4 197 rfl rfl), (gt1 1 rfl rfl), by decide +kernel, by decide +kernel, by decide +kernel⟩
theorem ok2_X11_within : Ok2 M_X11_within 3 := ⟨(gt2 138 rfl rfl), (gt1 1 rfl rfl), by decide +kernel, by decide +kernel, by decide +kernel⟩
theorem ok2_X11_isIn : Ok2 M_X11_isIn 2 := ⟨(gt3 232 rfl rfl), (gt1 1 rfl rfl), by decide +kernel, by decide +kernel, by decide +kernel⟩
theorem ok2_X11_leftBy : Ok2 M_X11_leftBy 2 := ⟨(gt3 134 rfl rfl), (gt1 1 rfl rfl), by decide +kernel, by decide +kernel, by decide +kernel⟩
theorem ok2_X11_partBy : Ok2 M_X11_partBy 2 := ⟨(gt4 201 rfl rfl), (gt1 1 rfl rfl), by decide +kernel, by decide +kernel, by decide +kernel⟩
theorem ok2_X11_partBy_ : Ok2 M_X11_partBy_ 2 := ⟨(gt3 238 rfl rfl), (gt1 1 rfl rfl), by decide +kernel, by decide +kernel, by decide +kernel⟩
theorem ok2_X11_commonDivisor : Ok2 M_X11_commonDivisor 2 := ⟨(gt3 235 rfl rfl), (gt1 1 rfl rfl), by decide +kernel, by decide +kernel, by decide +kernel⟩
theorem ok2_X11_leastPrimeOf : Ok2 M_X11_leastPrimeOf 1 := ⟨(gt5 69 rfl rfl), (gt1 1 rfl rfl), by decide +kernel, by decide +kernel, by decide +kernel⟩
theorem ok2_X11_power : Ok2 M_X11_power 2 := ⟨(gt5 169 rfl rfl), (gt1 1 rfl rfl), by decide +kernel, by decide +kernel, by decide +kernel⟩
theorem ok2_X11_ways : Ok2 M_X11_ways 2 := ⟨(gt5 166 rfl rfl), (gt1 1 rfl rfl), by decide +kernel, by decide +kernel, by decide +kernel⟩
theorem ok2_X11_combOf : Ok2 M_X11_combOf 1 := ⟨(gt4 10 rfl rfl), (gt1 1 rfl rfl), by decide +kernel, by decide +kernel, by decide +kernel⟩
theorem ok2_X11_wordOf : Ok2 M_X11_wordOf 4 := ⟨(gt4 221 rfl rfl), (gt1 1 rfl rfl), by decide +kernel, by decide +kernel, by decide +kernel⟩
theorem ok2_X11_insideOf : Ok2 M_X11_insideOf 2 := ⟨(gt4 24 rfl rfl), (gt1 1 rfl rfl), by decide +kernel, by decide +kernel, by decide +kernel⟩
theorem ok2_X11_hasBit : Ok2 M_X11_hasBit 2 := ⟨(gt5 10 rfl rfl), (gt1 1 rfl rfl), by decide +kernel, by decide +kernel, by decide +kernel⟩
theorem ok2_X11_putBit : Ok2 M_X11_putBit 2 := ⟨(gt5 7 rfl rfl), (gt1 1 rfl rfl), by decide +kernel, by decide +kernel, by decide +kernel⟩
theorem ok2_X11_wordsFor : Ok2 M_X11_wordsFor 1 := ⟨(gt4 1 rfl rfl), (gt1 1 rfl rfl), by decide +kernel, by decide +kernel, by decide +kernel⟩
theorem ok2_X12_plain : Ok2 M_X12_plain 1 := ⟨(gt6 19 rfl rfl), (gt1 10 rfl rfl), by decide +kernel, by decide +kernel, by decide +kernel⟩
theorem ok2_X12_status : Ok2 M_X12_status 0 := ⟨(gt6 142 rfl rfl), (gt1 10 rfl rfl), by decide +kernel, by decide +kernel, by decide +kernel⟩
theorem ok2_X12_top : Ok2 M_X12_top 0 := ⟨(gt6 146 rfl rfl), (gt1 10 rfl rfl), by decide +kernel, by decide +kernel, by decide +kernel⟩
theorem ok2_X12_bottom : Ok2 M_X12_bottom 0 := ⟨(gt6 150 rfl rfl), (gt1 10 rfl rfl), by decide +kernel, by decide +kernel, by decide +kernel⟩
theorem ok2_X12_is : Ok2 M_X12_is 1 := ⟨(gt6 161 rfl rfl), (gt1 10 rfl rfl), by decide +kernel, by decide +kernel, by decide +kernel⟩
theorem ok2_X12_refuse : Ok2 M_X12_refuse 1 := ⟨(gt6 221 rfl rfl), (gt1 10 rfl rfl), by decide +kernel, by decide +kernel, by decide +kernel⟩
theorem ok2_X12_gives : Ok2 M_X12_gives 1 := ⟨(gt7 39 rfl rfl), (gt1 10 rfl rfl), by decide +kernel, by decide +kernel, by decide +kernel⟩
theorem ok2_X12_orNone : Ok2 M_X12_orNone 1 := ⟨(gt7 145 rfl rfl), (gt1 10 rfl rfl), by decide +kernel, by decide +kernel, by decide +kernel⟩
theorem ok2_X12_tellsBy : Ok2 M_X12_tellsBy 2 := ⟨(gt7 222 rfl rfl), (gt1 10 rfl rfl), by decide +kernel, by decide +kernel, by decide +kernel⟩
theorem ok2_X12_isTray : Ok2 M_X12_isTray 1 := ⟨(gt6 157 rfl rfl), (gt1 10 rfl rfl), by decide +kernel, by decide +kernel, by decide +kernel⟩
theorem ok2_X12_cut : Ok2 M_X12_cut 2 := ⟨(gt6 172 rfl rfl), (gt1 10 rfl rfl), by decide +kernel, by decide +kernel, by decide +kernel⟩
theorem ok2_X12_tray : Ok2 M_X12_tray 3 := ⟨(gt6 154 rfl rfl), (gt1 10 rfl rfl), by decide +kernel, by decide +kernel, by decide +kernel⟩
theorem ok2_X12_wrongPlace : Ok2 M_X12_wrongPlace 2 := ⟨(gt6 169 rfl rfl), (gt1 10 rfl rfl), by decide +kernel, by decide +kernel, by decide +kernel⟩
theorem ok2_X12_write : Ok2 M_X12_write 3 := ⟨(gt6 165 rfl rfl), (gt1 10 rfl rfl), by decide +kernel, by decide +kernel, by decide +kernel⟩
theorem ok2_X12_read : Ok2 M_X12_read 2 := ⟨(gt6 176 rfl rfl), (gt1 10 rfl rfl), by decide +kernel, by decide +kernel, by decide +kernel⟩
theorem ok2_X12_pour : Ok2 M_X12_pour 5 := ⟨(gt6 181 rfl rfl), (gt1 10 rfl rfl), by decide +kernel, by decide +kernel, by decide +kernel⟩
theorem ok2_X12_isFrom : Ok2 M_X12_isFrom 3 := ⟨(gt7 70 rfl rfl), (gt1 10 rfl rfl), by decide +kernel, by decide +kernel, by decide +kernel⟩
theorem ok2_X12_feed : Ok2 M_X12_feed 5 := ⟨(gt6 185 rfl rfl), (gt1 10 rfl rfl), by decide +kernel, by decide +kernel, by decide +kernel⟩
theorem ok2_X12_four : Ok2 M_X12_four 1 := ⟨(gt6 189 rfl rfl), (gt1 10 rfl rfl), by decide +kernel, by decide +kernel, by decide +kernel⟩
theorem ok2_X12_byteAt : Ok2 M_X12_byteAt 1 := ⟨(gt6 209 rfl rfl), (gt1 10 rfl rfl), by decide +kernel, by decide +kernel, by decide +kernel⟩
theorem ok2_X12_isSmall : Ok2 M_X12_isSmall 1 := ⟨(gt6 212 rfl rfl), (gt1 10 rfl rfl), by decide +kernel, by decide +kernel, by decide +kernel⟩
theorem ok2_X12_isDigit : Ok2 M_X12_isDigit 1 := ⟨(gt6 215 rfl rfl), (gt1 10 rfl rfl), by decide +kernel, by decide +kernel, by decide +kernel⟩
theorem ok2_X12_ahead : Ok2 M_X12_ahead 0 := ⟨(gt6 205 rfl rfl), (gt1 10 rfl rfl), by decide +kernel, by decide +kernel, by decide +kernel⟩
theorem ok2_X12_isSign : Ok2 M_X12_isSign 1 := ⟨(gt7 31 rfl rfl), (gt1 10 rfl rfl), by decide +kernel, by decide +kernel, by decide +kernel⟩
theorem ok2_X12_inWords : Ok2 M_X12_inWords 1 := ⟨(gt6 230 rfl rfl), (gt1 10 rfl rfl), by decide +kernel, by decide +kernel, by decide +kernel⟩
theorem ok2_X12_fails : Ok2 M_X12_fails 1 := ⟨(gt7 3 rfl rfl), (gt1 10 rfl rfl), by decide +kernel, by decide +kernel, by decide +kernel⟩
theorem ok2_X12_begins : Ok2 M_X12_begins 2 := ⟨(gt6 201 rfl rfl), (gt1 10 rfl rfl), by decide +kernel, by decide +kernel, by decide +kernel⟩
theorem ok2_X12_wantSign : Ok2 M_X12_wantSign 1 := ⟨(gt7 27 rfl rfl), (gt1 10 rfl rfl), by decide +kernel, by decide +kernel, by decide +kernel⟩
theorem ok2_X12_number : Ok2 M_X12_number 3 := ⟨(gt7 23 rfl rfl), (gt1 10 rfl rfl), by decide +kernel, by decide +kernel, by decide +kernel⟩
theorem ok2_X12_fault : Ok2 M_X12_fault 1 := ⟨(gt6 193 rfl rfl), (gt1 10 rfl rfl), by decide +kernel, by decide +kernel, by decide +kernel⟩
theorem ok2_X12_taken : Ok2 M_X12_taken 1 := ⟨(gt7 35 rfl rfl), (gt1 10 rfl rfl), by decide +kernel, by decide +kernel, by decide +kernel⟩
theorem ok2_X12_wantWord : Ok2 M_X12_wantWord 1 := ⟨(gt7 19 rfl rfl), (gt1 10 rfl rfl), by decide +kernel, by decide +kernel, by decide +kernel⟩
theorem ok2_X12_isName : Ok2 M_X12_isName 0 := ⟨(gt7 7 rfl rfl), (gt1 10 rfl rfl), by decide +kernel, by decide +kernel, by decide +kernel⟩
theorem ok2_X12_nameHere : Ok2 M_X12_nameHere 0 := ⟨(gt7 15 rfl rfl), (gt1 10 rfl rfl), by decide +kernel, by decide +kernel, by decide +kernel⟩
theorem ok2_X12_findHere : Ok2 M_X12_findHere 2 := ⟨(gt7 11 rfl rfl), (gt1 10 rfl rfl), by decide +kernel, by decide +kernel, by decide +kernel⟩
theorem ok2_X12_rowOf : Ok2 M_X12_rowOf 1 := ⟨(gt6 239 rfl rfl), (gt1 10 rfl rfl), by decide +kernel, by decide +kernel, by decide +kernel⟩
theorem ok2_X12_isIn : Ok2 M_X12_isIn 2 := ⟨(gt7 93 rfl rfl), (gt1 10 rfl rfl), by decide +kernel, by decide +kernel, by decide +kernel⟩
theorem ok2_X12_aClass : Ok2 M_X12_aClass 0 := ⟨(gt6 236 rfl rfl), (gt1 10 rfl rfl), by decide +kernel, by decide +kernel, by decide +kernel⟩
theorem ok2_X12_systemPart : Ok2 M_X12_systemPart 0 := ⟨(gt6 225 rfl rfl), (gt1 10 rfl rfl), by decide +kernel, by decide +kernel, by decide +kernel⟩
theorem ok2_X12_system : Ok2 M_X12_system 1 := ⟨(gt6 197 rfl rfl), (gt1 10 rfl rfl), by decide +kernel, by decide +kernel, by decide +kernel⟩
theorem ok2_X12_classTo : Ok2 M_X12_classTo 1 := ⟨(gt7 58 rfl rfl), (gt1 10 rfl rfl), by decide +kernel, by decide +kernel, by decide +kernel⟩
theorem ok2_X12_test : Ok2 M_X12_test 1 := ⟨(gt7 62 rfl rfl), (gt1 10 rfl rfl), by decide +kernel, by decide +kernel, by decide +kernel⟩
theorem ok2_X12_dayOrder : Ok2 M_X12_dayOrder 2 := ⟨(gt7 54 rfl rfl), (gt1 10 rfl rfl), by decide +kernel, by decide +kernel, by decide +kernel⟩
theorem ok2_X12_isOrder : Ok2 M_X12_isOrder 1 := ⟨(gt7 50 rfl rfl), (gt1 10 rfl rfl), by decide +kernel, by decide +kernel, by decide +kernel⟩
theorem ok2_X12_dayStep : Ok2 M_X12_dayStep 0 := ⟨(gt7 47 rfl rfl), (gt1 10 rfl rfl), by decide +kernel, by decide +kernel, by decide +kernel⟩
theorem ok2_X12_days : Ok2 M_X12_days 1 := ⟨(gt7 43 rfl rfl), (gt1 10 rfl rfl), by decide +kernel, by decide +kernel, by decide +kernel⟩
theorem ok2_X12_isClass : Ok2 M_X12_isClass 1 := ⟨(gt7 128 rfl rfl), (gt1 10 rfl rfl), by decide +kernel, by decide +kernel, by decide +kernel⟩
theorem ok2_X12_restOf : Ok2 M_X12_restOf 1 := ⟨(gt7 104 rfl rfl), (gt1 10 rfl rfl), by decide +kernel, by decide +kernel, by decide +kernel⟩
theorem ok2_X12_modulusOf : Ok2 M_X12_modulusOf 1 := ⟨(gt7 97 rfl rfl), (gt1 10 rfl rfl), by decide +kernel, by decide +kernel, by decide +kernel⟩
theorem ok2_X12_isOn : Ok2 M_X12_isOn 1 := ⟨(gt7 82 rfl rfl), (gt1 10 rfl rfl), by decide +kernel, by decide +kernel, by decide +kernel⟩
theorem ok2_X12_onSet : Ok2 M_X12_onSet 0 := ⟨(gt7 78 rfl rfl), (gt1 10 rfl rfl), by decide +kernel, by decide +kernel, by decide +kernel⟩
theorem ok2_X12_bits : Ok2 M_X12_bits 1 := ⟨(gt8 5 rfl rfl), (gt1 10 rfl rfl), by decide +kernel, by decide +kernel, by decide +kernel⟩
theorem ok2_X12_common : Ok2 M_X12_common 2 := ⟨(gt7 100 rfl rfl), (gt1 10 rfl rfl), by decide +kernel, by decide +kernel, by decide +kernel⟩
theorem ok2_X12_spanOf : Ok2 M_X12_spanOf 1 := ⟨(gt7 90 rfl rfl), (gt1 10 rfl rfl), by decide +kernel, by decide +kernel, by decide +kernel⟩
theorem ok2_X12_lays : Ok2 M_X12_lays 1 := ⟨(gt7 86 rfl rfl), (gt1 10 rfl rfl), by decide +kernel, by decide +kernel, by decide +kernel⟩
theorem ok2_X12_laysNow : Ok2 M_X12_laysNow 0 := ⟨(gt7 74 rfl rfl), (gt1 10 rfl rfl), by decide +kernel, by decide +kernel, by decide +kernel⟩
theorem ok2_X12_justBy : Ok2 M_X12_justBy 1 := ⟨(gt7 108 rfl rfl), (gt1 10 rfl rfl), by decide +kernel, by decide +kernel, by decide +kernel⟩
theorem ok2_X12_doMeet : Ok2 M_X12_doMeet 2 := ⟨(gt7 116 rfl rfl), (gt1 10 rfl rfl), by decide +kernel, by decide +kernel, by decide +kernel⟩
theorem ok2_X12_couples : Ok2 M_X12_couples 0 := ⟨(gt7 112 rfl rfl), (gt1 10 rfl rfl), by decide +kernel, by decide +kernel, by decide +kernel⟩
theorem ok2_X12_areUnlike : Ok2 M_X12_areUnlike 0 := ⟨(gt7 120 rfl rfl), (gt1 10 rfl rfl), by decide +kernel, by decide +kernel, by decide +kernel⟩
theorem ok2_X12_told : Ok2 M_X12_told 1 := ⟨(gt7 66 rfl rfl), (gt1 10 rfl rfl), by decide +kernel, by decide +kernel, by decide +kernel⟩
theorem ok2_X12_classOf : Ok2 M_X12_classOf 2 := ⟨(gt7 124 rfl rfl), (gt1 10 rfl rfl), by decide +kernel, by decide +kernel, by decide +kernel⟩
theorem ok2_X12_catchers : Ok2 M_X12_catchers 1 := ⟨(gt7 137 rfl rfl), (gt1 10 rfl rfl), by decide +kernel, by decide +kernel, by decide +kernel⟩
theorem ok2_X12_caught : Ok2 M_X12_caught 1 := ⟨(gt7 132 rfl rfl), (gt1 10 rfl rfl), by decide +kernel, by decide +kernel, by decide +kernel⟩
theorem ok2_X12_tightest : Ok2 M_X12_tightest 1 := ⟨(gt7 141 rfl rfl), (gt1 10 rfl rfl), by decide +kernel, by decide +kernel, by decide +kernel⟩
theorem ok2_X12_turn : Ok2 M_X12_turn 1 := ⟨(gt7 149 rfl rfl), (gt1 10 rfl rfl), by decide +kernel, by decide +kernel, by decide +kernel⟩
theorem ok2_X12_puts : Ok2 M_X12_puts 3 := ⟨(gt7 159 rfl rfl), (gt1 10 rfl rfl), by decide +kernel, by decide +kernel, by decide +kernel⟩
theorem ok2_X12_add : Ok2 M_X12_add 2 := ⟨(gt7 153 rfl rfl), (gt1 10 rfl rfl), by decide +kernel, by decide +kernel, by decide +kernel⟩
theorem ok2_X12_takesAway : Ok2 M_X12_takesAway 1 := ⟨(gt7 167 rfl rfl), (gt1 10 rfl rfl), by decide +kernel, by decide +kernel, by decide +kernel⟩
theorem ok2_X12_drop : Ok2 M_X12_drop 1 := ⟨(gt7 163 rfl rfl), (gt1 10 rfl rfl), by decide +kernel, by decide +kernel, by decide +kernel⟩
theorem ok2_X12_move : Ok2 M_X12_move 2 := ⟨(gt7 171 rfl rfl), (gt1 10 rfl rfl), by decide +kernel, by decide +kernel, by decide +kernel⟩
theorem ok2_X12_shifts : Ok2 M_X12_shifts 1 := ⟨(gt7 179 rfl rfl), (gt1 10 rfl rfl), by decide +kernel, by decide +kernel, by decide +kernel⟩
theorem ok2_X12_shift : Ok2 M_X12_shift 1 := ⟨(gt7 175 rfl rfl), (gt1 10 rfl rfl), by decide +kernel, by decide +kernel, by decide +kernel⟩
theorem ok2_X12_spread : Ok2 M_X12_spread 1 := ⟨(gt7 183 rfl rfl), (gt1 10 rfl rfl), by decide +kernel, by decide +kernel, by decide +kernel⟩
theorem ok2_X12_whyNotSplit : Ok2 M_X12_whyNotSplit 2 := ⟨(gt7 193 rfl rfl), (gt1 10 rfl rfl), by decide +kernel, by decide +kernel, by decide +kernel⟩
theorem ok2_X12_splits : Ok2 M_X12_splits 2 := ⟨(gt7 197 rfl rfl), (gt1 10 rfl rfl), by decide +kernel, by decide +kernel, by decide +kernel⟩
theorem ok2_X12_split : Ok2 M_X12_split 2 := ⟨(gt7 189 rfl rfl), (gt1 10 rfl rfl), by decide +kernel, by decide +kernel, by decide +kernel⟩
theorem ok2_X12_findClass : Ok2 M_X12_findClass 3 := ⟨(gt7 205 rfl rfl), (gt1 10 rfl rfl), by decide +kernel, by decide +kernel, by decide +kernel⟩
theorem ok2_X12_join : Ok2 M_X12_join 2 := ⟨(gt7 201 rfl rfl), (gt1 10 rfl rfl), by decide +kernel, by decide +kernel, by decide +kernel⟩
theorem ok2_X12_rule : Ok2 M_X12_rule 1 := ⟨(gt7 209 rfl rfl), (gt1 10 rfl rfl), by decide +kernel, by decide +kernel, by decide +kernel⟩
theorem ok2_X12_gapAt : Ok2 M_X12_gapAt 1 := ⟨(gt7 214 rfl rfl), (gt1 10 rfl rfl), by decide +kernel, by decide +kernel, by decide +kernel⟩
theorem ok2_X12_gaps : Ok2 M_X12_gaps 0 := ⟨(gt7 218 rfl rfl), (gt1 10 rfl rfl), by decide +kernel, by decide +kernel, by decide +kernel⟩
theorem ok2_X12_weight : Ok2 M_X12_weight 0 := ⟨(gt7 226 rfl rfl), (gt1 10 rfl rfl), by decide +kernel, by decide +kernel, by decide +kernel⟩
theorem ok2_X12_alone : Ok2 M_X12_alone 1 := ⟨(gt7 230 rfl rfl), (gt1 10 rfl rfl), by decide +kernel, by decide +kernel, by decide +kernel⟩
theorem ok2_X12_needless : Ok2 M_X12_needless 0 := ⟨(gt7 234 rfl rfl), (gt1 10 rfl rfl), by decide +kernel, by decide +kernel, by decide +kernel⟩
theorem ok2_X12_fewestNow : Ok2 M_X12_fewestNow 0 := ⟨(gt8 2 rfl rfl), (gt1 10 rfl rfl), by decide +kernel, by decide +kernel, by decide +kernel⟩
theorem ok2_X12_fewest : Ok2 M_X12_fewest 0 := ⟨(gt7 238 rfl rfl), (gt1 10 rfl rfl), by decide +kernel, by decide +kernel, by decide +kernel⟩
theorem ok2_X12_fewestSet : Ok2 M_X12_fewestSet 0 := ⟨(gt8 9 rfl rfl), (gt1 10 rfl rfl), by decide +kernel, by decide +kernel, by decide +kernel⟩
theorem ok2_X12_meet : Ok2 M_X12_meet 2 := ⟨(gt8 13 rfl rfl), (gt1 10 rfl rfl), by decide +kernel, by decide +kernel, by decide +kernel⟩
theorem ok2_X12_thickNow : Ok2 M_X12_thickNow 0 := ⟨(gt8 21 rfl rfl), (gt1 10 rfl rfl), by decide +kernel, by decide +kernel, by decide +kernel⟩
theorem ok2_X12_thick : Ok2 M_X12_thick 0 := ⟨(gt8 17 rfl rfl), (gt1 10 rfl rfl), by decide +kernel, by decide +kernel, by decide +kernel⟩
theorem ok2_X12_ask : Ok2 M_X12_ask 0 := ⟨(gt8 25 rfl rfl), (gt1 10 rfl rfl), by decide +kernel, by decide +kernel, by decide +kernel⟩
theorem ok2_X12_isLikeBy : Ok2 M_X12_isLikeBy 1 := ⟨(gt8 33 rfl rfl), (gt1 10 rfl rfl), by decide +kernel, by decide +kernel, by decide +kernel⟩
theorem ok2_X12_turnsBy : Ok2 M_X12_turnsBy 0 := ⟨(gt8 29 rfl rfl), (gt1 10 rfl rfl), by decide +kernel, by decide +kernel, by decide +kernel⟩
theorem ok2_X12_kindOf : Ok2 M_X12_kindOf 2 := ⟨(gt8 46 rfl rfl), (gt1 10 rfl rfl), by decide +kernel, by decide +kernel, by decide +kernel⟩
theorem ok2_X12_leastPrime : Ok2 M_X12_leastPrime 1 := ⟨(gt8 49 rfl rfl), (gt1 10 rfl rfl), by decide +kernel, by decide +kernel, by decide +kernel⟩
theorem ok2_X12_laysTree : Ok2 M_X12_laysTree 0 := ⟨(gt8 42 rfl rfl), (gt1 10 rfl rfl), by decide +kernel, by decide +kernel, by decide +kernel⟩
theorem ok2_X12_tree : Ok2 M_X12_tree 1 := ⟨(gt8 37 rfl rfl), (gt1 10 rfl rfl), by decide +kernel, by decide +kernel, by decide +kernel⟩
theorem ok2_X12_leafOf : Ok2 M_X12_leafOf 1 := ⟨(gt8 53 rfl rfl), (gt1 10 rfl rfl), by decide +kernel, by decide +kernel, by decide +kernel⟩
theorem ok2_X12_wrongChoices : Ok2 M_X12_wrongChoices 3 := ⟨(gt8 61 rfl rfl), (gt1 10 rfl rfl), by decide +kernel, by decide +kernel, by decide +kernel⟩
theorem ok2_X12_allWays : Ok2 M_X12_allWays 1 := ⟨(gt8 67 rfl rfl), (gt1 10 rfl rfl), by decide +kernel, by decide +kernel, by decide +kernel⟩
theorem ok2_X12_laysWay : Ok2 M_X12_laysWay 2 := ⟨(gt8 71 rfl rfl), (gt1 10 rfl rfl), by decide +kernel, by decide +kernel, by decide +kernel⟩
theorem ok2_X12_isNoneTwice : Ok2 M_X12_isNoneTwice 1 := ⟨(gt8 87 rfl rfl), (gt1 10 rfl rfl), by decide +kernel, by decide +kernel, by decide +kernel⟩
theorem ok2_X12_spanBy : Ok2 M_X12_spanBy 1 := ⟨(gt8 83 rfl rfl), (gt1 10 rfl rfl), by decide +kernel, by decide +kernel, by decide +kernel⟩
theorem ok2_X12_isAllBy : Ok2 M_X12_isAllBy 1 := ⟨(gt8 79 rfl rfl), (gt1 10 rfl rfl), by decide +kernel, by decide +kernel, by decide +kernel⟩
theorem ok2_X12_isGood : Ok2 M_X12_isGood 2 := ⟨(gt8 75 rfl rfl), (gt1 10 rfl rfl), by decide +kernel, by decide +kernel, by decide +kernel⟩
theorem ok2_X12_choices : Ok2 M_X12_choices 3 := ⟨(gt8 57 rfl rfl), (gt1 10 rfl rfl), by decide +kernel, by decide +kernel, by decide +kernel⟩
theorem ok2_X12_choiceAt : Ok2 M_X12_choiceAt 4 := ⟨(gt8 91 rfl rfl), (gt1 10 rfl rfl), by decide +kernel, by decide +kernel, by decide +kernel⟩
theorem ok2_X12_worthOf : Ok2 M_X12_worthOf 1 := ⟨(gt8 103 rfl rfl), (gt1 10 rfl rfl), by decide +kernel, by decide +kernel, by decide +kernel⟩
theorem ok2_X12_afterBy : Ok2 M_X12_afterBy 2 := ⟨(gt8 111 rfl rfl), (gt1 10 rfl rfl), by decide +kernel, by decide +kernel, by decide +kernel⟩
theorem ok2_X12_leastBy : Ok2 M_X12_leastBy 1 := ⟨(gt8 115 rfl rfl), (gt1 10 rfl rfl), by decide +kernel, by decide +kernel, by decide +kernel⟩
theorem ok2_X12_mostBy : Ok2 M_X12_mostBy 2 := ⟨(gt8 107 rfl rfl), (gt1 10 rfl rfl), by decide +kernel, by decide +kernel, by decide +kernel⟩
theorem ok2_X12_wrongGame : Ok2 M_X12_wrongGame 2 := ⟨(gt8 99 rfl rfl), (gt1 10 rfl rfl), by decide +kernel, by decide +kernel, by decide +kernel⟩
theorem ok2_X12_game : Ok2 M_X12_game 1 := ⟨(gt8 95 rfl rfl), (gt1 10 rfl rfl), by decide +kernel, by decide +kernel, by decide +kernel⟩
theorem ok2_X12_moveOf : Ok2 M_X12_moveOf 1 := ⟨(gt8 119 rfl rfl), (gt1 10 rfl rfl), by decide +kernel, by decide +kernel, by decide +kernel⟩
theorem ok2_X12_uncaught : Ok2 M_X12_uncaught 2 := ⟨(gt8 123 rfl rfl), (gt1 10 rfl rfl), by decide +kernel, by decide +kernel, by decide +kernel⟩
theorem ok2_X12_copySystem : Ok2 M_X12_copySystem 1 := ⟨(gt8 128 rfl rfl), (gt1 10 rfl rfl), by decide +kernel, by decide +kernel, by decide +kernel⟩
theorem ok2_X12_draw : Ok2 M_X12_draw 1 := ⟨(gt8 160 rfl rfl), (gt1 10 rfl rfl), by decide +kernel, by decide +kernel, by decide +kernel⟩
theorem ok2_X12_switches : Ok2 M_X12_switches 2 := ⟨(gt8 144 rfl rfl), (gt1 10 rfl rfl), by decide +kernel, by decide +kernel, by decide +kernel⟩
theorem ok2_X12_shiftsOn : Ok2 M_X12_shiftsOn 1 := ⟨(gt8 148 rfl rfl), (gt1 10 rfl rfl), by decide +kernel, by decide +kernel, by decide +kernel⟩
theorem ok2_X12_splitsOn : Ok2 M_X12_splitsOn 2 := ⟨(gt8 152 rfl rfl), (gt1 10 rfl rfl), by decide +kernel, by decide +kernel, by decide +kernel⟩
theorem ok2_X12_doesAny : Ok2 M_X12_doesAny 0 := ⟨(gt8 156 rfl rfl), (gt1 10 rfl rfl), by decide +kernel, by decide +kernel, by decide +kernel⟩
theorem ok2_X12_does : Ok2 M_X12_does 1 := ⟨(gt8 140 rfl rfl), (gt1 10 rfl rfl), by decide +kernel, by decide +kernel, by decide +kernel⟩
theorem ok2_X12_holds : Ok2 M_X12_holds 1 := ⟨(gt8 165 rfl rfl), (gt1 10 rfl rfl), by decide +kernel, by decide +kernel, by decide +kernel⟩
theorem ok2_X12_behindEnds : Ok2 M_X12_behindEnds 1 := ⟨(gt8 169 rfl rfl), (gt1 10 rfl rfl), by decide +kernel, by decide +kernel, by decide +kernel⟩
theorem ok2_X12_lives : Ok2 M_X12_lives 1 := ⟨(gt8 136 rfl rfl), (gt1 10 rfl rfl), by decide +kernel, by decide +kernel, by decide +kernel⟩
theorem ok2_X12_live : Ok2 M_X12_live 1 := ⟨(gt8 132 rfl rfl), (gt1 10 rfl rfl), by decide +kernel, by decide +kernel, by decide +kernel⟩
theorem ok2_X12_lived : Ok2 M_X12_lived 1 := ⟨(gt8 173 rfl rfl), (gt1 10 rfl rfl), by decide +kernel, by decide +kernel, by decide +kernel⟩
theorem ok2_X12_keeps : Ok2 M_X12_keeps 1 := ⟨(gt8 182 rfl rfl), (gt1 10 rfl rfl), by decide +kernel, by decide +kernel, by decide +kernel⟩
theorem ok2_X12_brings : Ok2 M_X12_brings 1 := ⟨(gt8 186 rfl rfl), (gt1 10 rfl rfl), by decide +kernel, by decide +kernel, by decide +kernel⟩
theorem ok2_X12_mean : Ok2 M_X12_mean 2 := ⟨(gt8 177 rfl rfl), (gt1 10 rfl rfl), by decide +kernel, by decide +kernel, by decide +kernel⟩
theorem ok2_X12_copies : Ok2 M_X12_copies 2 := ⟨(gt8 194 rfl rfl), (gt1 10 rfl rfl), by decide +kernel, by decide +kernel, by decide +kernel⟩
theorem ok2_X12_mark : Ok2 M_X12_mark 0 := ⟨(gt8 190 rfl rfl), (gt1 10 rfl rfl), by decide +kernel, by decide +kernel, by decide +kernel⟩
theorem ok2_X12_undo : Ok2 M_X12_undo 0 := ⟨(gt8 198 rfl rfl), (gt1 10 rfl rfl), by decide +kernel, by decide +kernel, by decide +kernel⟩
theorem ok2_J6_bitCount_0f7a4 : Ok2 M_J6_bitCount_0f7a4 1 := ⟨(gt4 50 rfl rfl), (gt1 21 rfl rfl), by decide +kernel, by decide +kernel, by decide +kernel⟩
theorem ok2_J13_bitCount_95d88 : Ok2 M_J13_bitCount_95d88 1 := ⟨(gt4 28 rfl rfl), (gt1 20 rfl rfl), by decide +kernel, by decide +kernel, by decide +kernel⟩
theorem ok2_J7_fill_d0a16 : Ok2 M_J7_fill_d0a16 2 := ⟨(gt2 150 rfl rfl), (gt1 11 rfl rfl), by decide +kernel, by decide +kernel, by decide +kernel⟩
theorem k_fl_X0_9 : Fl RX0 9 0 0 (tyX0 0) true := ⟨RX0, TX0, 6, tyX0, rfl, Nat.le_of_ble_eq_true rfl, inF0, tyX0_ok, nmX0, rfl, rfl, Or.inl (gt1 230 rfl rfl)⟩
theorem k_fl_X0_15 : Fl RX0 15 0 1 (tyX0 1) true := ⟨RX0, TX0, 6, tyX0, rfl, Nat.le_of_ble_eq_true rfl, inF0, tyX0_ok, nmX0, rfl, rfl, Or.inl (gt1 231 rfl rfl)⟩
theorem k_fl_X0_20 : Fl RX0 20 0 2 (tyX0 2) true := ⟨RX0, TX0, 6, tyX0, rfl, Nat.le_of_ble_eq_true rfl, inF0, tyX0_ok, nmX0, rfl, rfl, Or.inl (gt1 232 rfl rfl)⟩
theorem k_fl_X0_23 : Fl RX0 23 0 3 .int false := ⟨RX0, TX0, 6, tyX0, rfl, Nat.le_of_ble_eq_true rfl, inF0, tyX0_ok, nmX0, rfl, rfl, Or.inl (gt1 233 rfl rfl)⟩
theorem k_fl_X0_27 : Fl RX0 27 0 4 .int false := ⟨RX0, TX0, 6, tyX0, rfl, Nat.le_of_ble_eq_true rfl, inF0, tyX0_ok, nmX0, rfl, rfl, Or.inl (gt1 234 rfl rfl)⟩
theorem k_fl_X0_30 : Fl RX0 30 0 5 .int false := ⟨RX0, TX0, 6, tyX0, rfl, Nat.le_of_ble_eq_true rfl, inF0, tyX0_ok, nmX0, rfl, rfl, Or.inl (gt1 235 rfl rfl)⟩
theorem k_fl_X1_9 : Fl RX1 9 1 0 (tyX1 0) true := ⟨RX1, TX1, 6, tyX1, rfl, Nat.le_of_ble_eq_true rfl, inF1, tyX1_ok, nmX1, rfl, rfl, Or.inl (gt1 85 rfl rfl)⟩
theorem k_fl_X1_15 : Fl RX1 15 1 1 (tyX1 1) true := ⟨RX1, TX1, 6, tyX1, rfl, Nat.le_of_ble_eq_true rfl, inF1, tyX1_ok, nmX1, rfl, rfl, Or.inl (gt1 88 rfl rfl)⟩
theorem k_fl_X1_18 : Fl RX1 18 1 2 (tyX1 2) true := ⟨RX1, TX1, 6, tyX1, rfl, Nat.le_of_ble_eq_true rfl, inF1, tyX1_ok, nmX1, rfl, rfl, Or.inl (gt1 91 rfl rfl)⟩
theorem k_fl_X1_22 : Fl RX1 22 1 3 .int false := ⟨RX1, TX1, 6, tyX1, rfl, Nat.le_of_ble_eq_true rfl, inF1, tyX1_ok, nmX1, rfl, rfl, Or.inl (gt1 92 rfl rfl)⟩
theorem k_fl_X1_26 : Fl RX1 26 1 4 .int false := ⟨RX1, TX1, 6, tyX1, rfl, Nat.le_of_ble_eq_true rfl, inF1, tyX1_ok, nmX1, rfl, rfl, Or.inl (gt1 98 rfl rfl)⟩
theorem k_fl_X1_29 : Fl RX1 29 1 5 .int false := ⟨RX1, TX1, 6, tyX1, rfl, Nat.le_of_ble_eq_true rfl, inF1, tyX1_ok, nmX1, rfl, rfl, Or.inl (gt1 104 rfl rfl)⟩
theorem k_fl_X10_7 : Fl RX10 7 7 0 .int false := ⟨RX10, TX10, 4, tyX10, rfl, Nat.le_of_ble_eq_true rfl, inF7, tyX10_ok, nmX10, rfl, rfl, Or.inl (gt1 205 rfl rfl)⟩
theorem k_fl_X10_13 : Fl RX10 13 7 1 .int false := ⟨RX10, TX10, 4, tyX10, rfl, Nat.le_of_ble_eq_true rfl, inF7, tyX10_ok, nmX10, rfl, rfl, Or.inl (gt1 207 rfl rfl)⟩
theorem k_fl_X10_16 : Fl RX10 16 7 2 .int false := ⟨RX10, TX10, 4, tyX10, rfl, Nat.le_of_ble_eq_true rfl, inF7, tyX10_ok, nmX10, rfl, rfl, Or.inl (gt1 209 rfl rfl)⟩
theorem k_fl_X10_19 : Fl RX10 19 7 3 .int false := ⟨RX10, TX10, 4, tyX10, rfl, Nat.le_of_ble_eq_true rfl, inF7, tyX10_ok, nmX10, rfl, rfl, Or.inl (gt1 211 rfl rfl)⟩
theorem k_fl_X10_22 : Fl RX10 22 1 4 .int false := ⟨RX1, TX1, 6, tyX1, rfl, Nat.le_of_ble_eq_true rfl, inF1, tyX1_ok, nmX1, rfl, rfl, Or.inr ⟨"ResidueCover", (gn1 99 rfl rfl)⟩⟩
theorem k_fl_X11_9 : Fl RX11 9 8 0 .int false := ⟨RX11, TX11, 17, tyX11, rfl, Nat.le_of_ble_eq_true rfl, inF8, tyX11_ok, nmX11, rfl, rfl, Or.inl (gt2 67 rfl rfl)⟩
theorem k_fl_X11_13 : Fl RX11 13 8 1 .long false := ⟨RX11, TX11, 17, tyX11, rfl, Nat.le_of_ble_eq_true rfl, inF8, tyX11_ok, nmX11, rfl, rfl, Or.inl (gt2 68 rfl rfl)⟩
theorem k_fl_X11_17 : Fl RX11 17 8 2 .long false := ⟨RX11, TX11, 17, tyX11, rfl, Nat.le_of_ble_eq_true rfl, inF8, tyX11_ok, nmX11, rfl, rfl, Or.inl (gt2 69 rfl rfl)⟩
theorem k_fl_X11_22 : Fl RX11 22 8 3 (tyX11 3) true := ⟨RX11, TX11, 17, tyX11, rfl, Nat.le_of_ble_eq_true rfl, inF8, tyX11_ok, nmX11, rfl, rfl, Or.inl (gt2 70 rfl rfl)⟩
theorem k_fl_X11_29 : Fl RX11 29 8 4 (tyX11 4) true := ⟨RX11, TX11, 17, tyX11, rfl, Nat.le_of_ble_eq_true rfl, inF8, tyX11_ok, nmX11, rfl, rfl, Or.inl (gt2 71 rfl rfl)⟩
theorem k_fl_X11_36 : Fl RX11 36 8 5 (tyX11 5) true := ⟨RX11, TX11, 17, tyX11, rfl, Nat.le_of_ble_eq_true rfl, inF8, tyX11_ok, nmX11, rfl, rfl, Or.inl (gt2 72 rfl rfl)⟩
theorem k_fl_X11_40 : Fl RX11 40 8 6 (tyX11 6) true := ⟨RX11, TX11, 17, tyX11, rfl, Nat.le_of_ble_eq_true rfl, inF8, tyX11_ok, nmX11, rfl, rfl, Or.inl (gt2 73 rfl rfl)⟩
theorem k_fl_X11_46 : Fl RX11 46 8 7 (tyX11 7) true := ⟨RX11, TX11, 17, tyX11, rfl, Nat.le_of_ble_eq_true rfl, inF8, tyX11_ok, nmX11, rfl, rfl, Or.inl (gt2 74 rfl rfl)⟩
theorem k_fl_X11_50 : Fl RX11 50 8 8 (tyX11 8) true := ⟨RX11, TX11, 17, tyX11, rfl, Nat.le_of_ble_eq_true rfl, inF8, tyX11_ok, nmX11, rfl, rfl, Or.inl (gt2 75 rfl rfl)⟩
theorem k_fl_X11_53 : Fl RX11 53 8 9 (tyX11 9) true := ⟨RX11, TX11, 17, tyX11, rfl, Nat.le_of_ble_eq_true rfl, inF8, tyX11_ok, nmX11, rfl, rfl, Or.inl (gt2 76 rfl rfl)⟩
theorem k_fl_X11_57 : Fl RX11 57 8 10 (tyX11 10) true := ⟨RX11, TX11, 17, tyX11, rfl, Nat.le_of_ble_eq_true rfl, inF8, tyX11_ok, nmX11, rfl, rfl, Or.inl (gt2 77 rfl rfl)⟩
theorem k_fl_X11_61 : Fl RX11 61 8 11 .int false := ⟨RX11, TX11, 17, tyX11, rfl, Nat.le_of_ble_eq_true rfl, inF8, tyX11_ok, nmX11, rfl, rfl, Or.inl (gt2 78 rfl rfl)⟩
theorem k_fl_X11_67 : Fl RX11 67 8 12 (tyX11 12) true := ⟨RX11, TX11, 17, tyX11, rfl, Nat.le_of_ble_eq_true rfl, inF8, tyX11_ok, nmX11, rfl, rfl, Or.inl (gt2 79 rfl rfl)⟩
theorem k_fl_X11_74 : Fl RX11 74 8 13 (tyX11 13) true := ⟨RX11, TX11, 17, tyX11, rfl, Nat.le_of_ble_eq_true rfl, inF8, tyX11_ok, nmX11, rfl, rfl, Or.inl (gt2 80 rfl rfl)⟩
theorem k_fl_X11_81 : Fl RX11 81 8 14 (tyX11 14) true := ⟨RX11, TX11, 17, tyX11, rfl, Nat.le_of_ble_eq_true rfl, inF8, tyX11_ok, nmX11, rfl, rfl, Or.inl (gt2 81 rfl rfl)⟩
theorem k_fl_X11_88 : Fl RX11 88 8 15 (tyX11 15) true := ⟨RX11, TX11, 17, tyX11, rfl, Nat.le_of_ble_eq_true rfl, inF8, tyX11_ok, nmX11, rfl, rfl, Or.inl (gt2 82 rfl rfl)⟩
theorem k_fl_X11_92 : Fl RX11 92 8 16 (tyX11 16) true := ⟨RX11, TX11, 17, tyX11, rfl, Nat.le_of_ble_eq_true rfl, inF8, tyX11_ok, nmX11, rfl, rfl, Or.inl (gt2 83 rfl rfl)⟩
theorem k_fl_X11_136 : Fl RX11 136 6 0 (tyX9 0) true := ⟨RX9, TX9, 3, tyX9, rfl, Nat.le_of_ble_eq_true rfl, inF6, tyX9_ok, nmX9, rfl, rfl, Or.inr ⟨"ResidueCover", (gn2 56 rfl rfl)⟩⟩
theorem k_fl_X11_149 : Fl RX11 149 6 1 .int false := ⟨RX9, TX9, 3, tyX9, rfl, Nat.le_of_ble_eq_true rfl, inF6, tyX9_ok, nmX9, rfl, rfl, Or.inr ⟨"ResidueCover", (gn2 58 rfl rfl)⟩⟩
theorem k_fl_X11_159 : Fl RX11 159 4 1 .int false := ⟨RX6, TX6, 11, tyX6, rfl, Nat.le_of_ble_eq_true rfl, inF4, tyX6_ok, nmX6, rfl, rfl, Or.inr ⟨"ResidueCover", (gn1 41 rfl rfl)⟩⟩
theorem k_fl_X11_182 : Fl RX11 182 1 3 .int false := ⟨RX1, TX1, 6, tyX1, rfl, Nat.le_of_ble_eq_true rfl, inF1, tyX1_ok, nmX1, rfl, rfl, Or.inr ⟨"ResidueCover", (gn1 97 rfl rfl)⟩⟩
theorem k_fl_X11_201 : Fl RX11 201 2 7 .int false := ⟨RX2, TX2, 9, tyX2, rfl, Nat.le_of_ble_eq_true rfl, inF2, tyX2_ok, nmX2, rfl, rfl, Or.inr ⟨"ResidueCover", (gn1 150 rfl rfl)⟩⟩
theorem k_fl_X11_204 : Fl RX11 204 4 9 .int false := ⟨RX6, TX6, 11, tyX6, rfl, Nat.le_of_ble_eq_true rfl, inF4, tyX6_ok, nmX6, rfl, rfl, Or.inr ⟨"ResidueCover", (gn1 50 rfl rfl)⟩⟩
theorem k_fl_X11_207 : Fl RX11 207 4 10 .int false := ⟨RX6, TX6, 11, tyX6, rfl, Nat.le_of_ble_eq_true rfl, inF4, tyX6_ok, nmX6, rfl, rfl, Or.inr ⟨"ResidueCover", (gn1 52 rfl rfl)⟩⟩
theorem k_fl_X11_210 : Fl RX11 210 1 5 .int false := ⟨RX1, TX1, 6, tyX1, rfl, Nat.le_of_ble_eq_true rfl, inF1, tyX1_ok, nmX1, rfl, rfl, Or.inr ⟨"ResidueCover", (gn1 107 rfl rfl)⟩⟩
theorem k_fl_X11_213 : Fl RX11 213 1 4 .int false := ⟨RX1, TX1, 6, tyX1, rfl, Nat.le_of_ble_eq_true rfl, inF1, tyX1_ok, nmX1, rfl, rfl, Or.inr ⟨"ResidueCover", (gn1 103 rfl rfl)⟩⟩
theorem k_fl_X11_229 : Fl RX11 229 5 3 .int false := ⟨RX7, TX7, 5, tyX7, rfl, Nat.le_of_ble_eq_true rfl, inF5, tyX7_ok, nmX7, rfl, rfl, Or.inr ⟨"ResidueCover", (gn1 186 rfl rfl)⟩⟩
theorem k_fl_X11_238 : Fl RX11 238 1 0 (tyX1 0) true := ⟨RX1, TX1, 6, tyX1, rfl, Nat.le_of_ble_eq_true rfl, inF1, tyX1_ok, nmX1, rfl, rfl, Or.inr ⟨"ResidueCover", (gn1 87 rfl rfl)⟩⟩
theorem k_fl_X11_242 : Fl RX11 242 1 1 (tyX1 1) true := ⟨RX1, TX1, 6, tyX1, rfl, Nat.le_of_ble_eq_true rfl, inF1, tyX1_ok, nmX1, rfl, rfl, Or.inr ⟨"ResidueCover", (gn1 90 rfl rfl)⟩⟩
theorem k_fl_X11_347 : Fl RX11 347 7 0 .int false := ⟨RX10, TX10, 4, tyX10, rfl, Nat.le_of_ble_eq_true rfl, inF7, tyX10_ok, nmX10, rfl, rfl, Or.inr ⟨"ResidueCover", (gn1 206 rfl rfl)⟩⟩
theorem k_fl_X11_350 : Fl RX11 350 7 1 .int false := ⟨RX10, TX10, 4, tyX10, rfl, Nat.le_of_ble_eq_true rfl, inF7, tyX10_ok, nmX10, rfl, rfl, Or.inr ⟨"ResidueCover", (gn1 208 rfl rfl)⟩⟩
theorem k_fl_X11_353 : Fl RX11 353 7 2 .int false := ⟨RX10, TX10, 4, tyX10, rfl, Nat.le_of_ble_eq_true rfl, inF7, tyX10_ok, nmX10, rfl, rfl, Or.inr ⟨"ResidueCover", (gn1 210 rfl rfl)⟩⟩
theorem k_fl_X11_356 : Fl RX11 356 7 3 .int false := ⟨RX10, TX10, 4, tyX10, rfl, Nat.le_of_ble_eq_true rfl, inF7, tyX10_ok, nmX10, rfl, rfl, Or.inr ⟨"ResidueCover", (gn1 212 rfl rfl)⟩⟩
theorem k_fl_X11_415 : Fl RX11 415 2 8 .boolean false := ⟨RX2, TX2, 9, tyX2, rfl, Nat.le_of_ble_eq_true rfl, inF2, tyX2_ok, nmX2, rfl, rfl, Or.inr ⟨"ResidueCover", (gn1 153 rfl rfl)⟩⟩
theorem k_fl_X11_423 : Fl RX11 423 3 2 .int false := ⟨RX5, TX5, 9, tyX5, rfl, Nat.le_of_ble_eq_true rfl, inF3, tyX5_ok, nmX5, rfl, rfl, Or.inr ⟨"ResidueCover", (gn2 19 rfl rfl)⟩⟩
theorem k_fl_X11_428 : Fl RX11 428 3 1 .boolean false := ⟨RX5, TX5, 9, tyX5, rfl, Nat.le_of_ble_eq_true rfl, inF3, tyX5_ok, nmX5, rfl, rfl, Or.inr ⟨"ResidueCover", (gn2 17 rfl rfl)⟩⟩
theorem k_fl_X11_431 : Fl RX11 431 3 3 .int false := ⟨RX5, TX5, 9, tyX5, rfl, Nat.le_of_ble_eq_true rfl, inF3, tyX5_ok, nmX5, rfl, rfl, Or.inr ⟨"ResidueCover", (gn2 21 rfl rfl)⟩⟩
theorem k_fl_X11_434 : Fl RX11 434 3 4 .int false := ⟨RX5, TX5, 9, tyX5, rfl, Nat.le_of_ble_eq_true rfl, inF3, tyX5_ok, nmX5, rfl, rfl, Or.inr ⟨"ResidueCover", (gn2 23 rfl rfl)⟩⟩
theorem k_fl_X11_437 : Fl RX11 437 3 5 .int false := ⟨RX5, TX5, 9, tyX5, rfl, Nat.le_of_ble_eq_true rfl, inF3, tyX5_ok, nmX5, rfl, rfl, Or.inr ⟨"ResidueCover", (gn2 25 rfl rfl)⟩⟩
theorem k_fl_X11_440 : Fl RX11 440 3 6 .int false := ⟨RX5, TX5, 9, tyX5, rfl, Nat.le_of_ble_eq_true rfl, inF3, tyX5_ok, nmX5, rfl, rfl, Or.inr ⟨"ResidueCover", (gn2 27 rfl rfl)⟩⟩
theorem k_fl_X11_443 : Fl RX11 443 3 7 .boolean false := ⟨RX5, TX5, 9, tyX5, rfl, Nat.le_of_ble_eq_true rfl, inF3, tyX5_ok, nmX5, rfl, rfl, Or.inr ⟨"ResidueCover", (gn2 29 rfl rfl)⟩⟩
theorem k_fl_X12_7 : Fl RX12 7 9 0 (tyX12 0) true := ⟨RX12, TX12, 39, tyX12, rfl, Nat.le_of_ble_eq_true rfl, inF9, tyX12_ok, nmX12, rfl, rfl, Or.inl (gt6 20 rfl rfl)⟩
theorem k_fl_X12_13 : Fl RX12 13 9 1 (tyX12 1) true := ⟨RX12, TX12, 39, tyX12, rfl, Nat.le_of_ble_eq_true rfl, inF9, tyX12_ok, nmX12, rfl, rfl, Or.inl (gt6 21 rfl rfl)⟩
theorem k_fl_X12_17 : Fl RX12 17 9 4 .long false := ⟨RX12, TX12, 39, tyX12, rfl, Nat.le_of_ble_eq_true rfl, inF9, tyX12_ok, nmX12, rfl, rfl, Or.inl (gt6 24 rfl rfl)⟩
theorem k_fl_X12_21 : Fl RX12 21 9 5 (tyX12 5) true := ⟨RX12, TX12, 39, tyX12, rfl, Nat.le_of_ble_eq_true rfl, inF9, tyX12_ok, nmX12, rfl, rfl, Or.inl (gt6 25 rfl rfl)⟩
theorem k_fl_X12_24 : Fl RX12 24 9 6 (tyX12 6) true := ⟨RX12, TX12, 39, tyX12, rfl, Nat.le_of_ble_eq_true rfl, inF9, tyX12_ok, nmX12, rfl, rfl, Or.inl (gt6 26 rfl rfl)⟩
theorem k_fl_X12_27 : Fl RX12 27 9 7 (tyX12 7) true := ⟨RX12, TX12, 39, tyX12, rfl, Nat.le_of_ble_eq_true rfl, inF9, tyX12_ok, nmX12, rfl, rfl, Or.inl (gt6 27 rfl rfl)⟩
theorem k_fl_X12_30 : Fl RX12 30 9 8 (tyX12 8) true := ⟨RX12, TX12, 39, tyX12, rfl, Nat.le_of_ble_eq_true rfl, inF9, tyX12_ok, nmX12, rfl, rfl, Or.inl (gt6 28 rfl rfl)⟩
theorem k_fl_X12_34 : Fl RX12 34 9 9 (tyX12 9) true := ⟨RX12, TX12, 39, tyX12, rfl, Nat.le_of_ble_eq_true rfl, inF9, tyX12_ok, nmX12, rfl, rfl, Or.inl (gt6 29 rfl rfl)⟩
theorem k_fl_X12_37 : Fl RX12 37 9 16 .int false := ⟨RX12, TX12, 39, tyX12, rfl, Nat.le_of_ble_eq_true rfl, inF9, tyX12_ok, nmX12, rfl, rfl, Or.inl (gt6 36 rfl rfl)⟩
theorem k_fl_X12_41 : Fl RX12 41 9 17 .int false := ⟨RX12, TX12, 39, tyX12, rfl, Nat.le_of_ble_eq_true rfl, inF9, tyX12_ok, nmX12, rfl, rfl, Or.inl (gt6 37 rfl rfl)⟩
theorem k_fl_X12_44 : Fl RX12 44 9 20 (tyX12 20) true := ⟨RX12, TX12, 39, tyX12, rfl, Nat.le_of_ble_eq_true rfl, inF9, tyX12_ok, nmX12, rfl, rfl, Or.inl (gt6 40 rfl rfl)⟩
theorem k_fl_X12_47 : Fl RX12 47 9 24 (tyX12 24) true := ⟨RX12, TX12, 39, tyX12, rfl, Nat.le_of_ble_eq_true rfl, inF9, tyX12_ok, nmX12, rfl, rfl, Or.inl (gt6 44 rfl rfl)⟩
theorem k_fl_X12_50 : Fl RX12 50 9 25 (tyX12 25) true := ⟨RX12, TX12, 39, tyX12, rfl, Nat.le_of_ble_eq_true rfl, inF9, tyX12_ok, nmX12, rfl, rfl, Or.inl (gt6 45 rfl rfl)⟩
theorem k_fl_X12_54 : Fl RX12 54 9 26 (tyX12 26) true := ⟨RX12, TX12, 39, tyX12, rfl, Nat.le_of_ble_eq_true rfl, inF9, tyX12_ok, nmX12, rfl, rfl, Or.inl (gt6 46 rfl rfl)⟩
theorem k_fl_X12_57 : Fl RX12 57 9 27 (tyX12 27) true := ⟨RX12, TX12, 39, tyX12, rfl, Nat.le_of_ble_eq_true rfl, inF9, tyX12_ok, nmX12, rfl, rfl, Or.inl (gt6 47 rfl rfl)⟩
theorem k_fl_X12_60 : Fl RX12 60 9 28 (tyX12 28) true := ⟨RX12, TX12, 39, tyX12, rfl, Nat.le_of_ble_eq_true rfl, inF9, tyX12_ok, nmX12, rfl, rfl, Or.inl (gt6 48 rfl rfl)⟩
theorem k_fl_X12_63 : Fl RX12 63 9 29 (tyX12 29) true := ⟨RX12, TX12, 39, tyX12, rfl, Nat.le_of_ble_eq_true rfl, inF9, tyX12_ok, nmX12, rfl, rfl, Or.inl (gt6 49 rfl rfl)⟩
theorem k_fl_X12_66 : Fl RX12 66 9 31 (tyX12 31) true := ⟨RX12, TX12, 39, tyX12, rfl, Nat.le_of_ble_eq_true rfl, inF9, tyX12_ok, nmX12, rfl, rfl, Or.inl (gt6 51 rfl rfl)⟩
theorem k_fl_X12_69 : Fl RX12 69 9 34 (tyX12 34) true := ⟨RX12, TX12, 39, tyX12, rfl, Nat.le_of_ble_eq_true rfl, inF9, tyX12_ok, nmX12, rfl, rfl, Or.inl (gt6 54 rfl rfl)⟩
theorem k_fl_X12_72 : Fl RX12 72 9 35 (tyX12 35) true := ⟨RX12, TX12, 39, tyX12, rfl, Nat.le_of_ble_eq_true rfl, inF9, tyX12_ok, nmX12, rfl, rfl, Or.inl (gt6 55 rfl rfl)⟩
theorem k_fl_X12_75 : Fl RX12 75 9 36 (tyX12 36) true := ⟨RX12, TX12, 39, tyX12, rfl, Nat.le_of_ble_eq_true rfl, inF9, tyX12_ok, nmX12, rfl, rfl, Or.inl (gt6 56 rfl rfl)⟩
theorem k_fl_X12_82 : Fl RX12 82 9 2 .int false := ⟨RX12, TX12, 39, tyX12, rfl, Nat.le_of_ble_eq_true rfl, inF9, tyX12_ok, nmX12, rfl, rfl, Or.inl (gt6 22 rfl rfl)⟩
theorem k_fl_X12_85 : Fl RX12 85 9 3 .long false := ⟨RX12, TX12, 39, tyX12, rfl, Nat.le_of_ble_eq_true rfl, inF9, tyX12_ok, nmX12, rfl, rfl, Or.inl (gt6 23 rfl rfl)⟩
theorem k_fl_X12_112 : Fl RX12 112 9 10 .int false := ⟨RX12, TX12, 39, tyX12, rfl, Nat.le_of_ble_eq_true rfl, inF9, tyX12_ok, nmX12, rfl, rfl, Or.inl (gt6 30 rfl rfl)⟩
theorem k_fl_X12_118 : Fl RX12 118 9 11 .int false := ⟨RX12, TX12, 39, tyX12, rfl, Nat.le_of_ble_eq_true rfl, inF9, tyX12_ok, nmX12, rfl, rfl, Or.inl (gt6 31 rfl rfl)⟩
theorem k_fl_X12_121 : Fl RX12 121 9 14 .int false := ⟨RX12, TX12, 39, tyX12, rfl, Nat.le_of_ble_eq_true rfl, inF9, tyX12_ok, nmX12, rfl, rfl, Or.inl (gt6 34 rfl rfl)⟩
theorem k_fl_X12_127 : Fl RX12 127 9 13 .int false := ⟨RX12, TX12, 39, tyX12, rfl, Nat.le_of_ble_eq_true rfl, inF9, tyX12_ok, nmX12, rfl, rfl, Or.inl (gt6 33 rfl rfl)⟩
theorem k_fl_X12_130 : Fl RX12 130 9 15 .int false := ⟨RX12, TX12, 39, tyX12, rfl, Nat.le_of_ble_eq_true rfl, inF9, tyX12_ok, nmX12, rfl, rfl, Or.inl (gt6 35 rfl rfl)⟩
theorem k_fl_X12_133 : Fl RX12 133 9 12 .int false := ⟨RX12, TX12, 39, tyX12, rfl, Nat.le_of_ble_eq_true rfl, inF9, tyX12_ok, nmX12, rfl, rfl, Or.inl (gt6 32 rfl rfl)⟩
theorem k_fl_X12_158 : Fl RX12 158 9 18 .int false := ⟨RX12, TX12, 39, tyX12, rfl, Nat.le_of_ble_eq_true rfl, inF9, tyX12_ok, nmX12, rfl, rfl, Or.inl (gt6 38 rfl rfl)⟩
theorem k_fl_X12_203 : Fl RX12 203 9 19 .boolean false := ⟨RX12, TX12, 39, tyX12, rfl, Nat.le_of_ble_eq_true rfl, inF9, tyX12_ok, nmX12, rfl, rfl, Or.inl (gt6 39 rfl rfl)⟩
theorem k_fl_X12_226 : Fl RX12 226 9 21 .int false := ⟨RX12, TX12, 39, tyX12, rfl, Nat.le_of_ble_eq_true rfl, inF9, tyX12_ok, nmX12, rfl, rfl, Or.inl (gt6 41 rfl rfl)⟩
theorem k_fl_X12_229 : Fl RX12 229 9 22 .int false := ⟨RX12, TX12, 39, tyX12, rfl, Nat.le_of_ble_eq_true rfl, inF9, tyX12_ok, nmX12, rfl, rfl, Or.inl (gt6 42 rfl rfl)⟩
theorem k_fl_X12_253 : Fl RX12 253 9 23 .int false := ⟨RX12, TX12, 39, tyX12, rfl, Nat.le_of_ble_eq_true rfl, inF9, tyX12_ok, nmX12, rfl, rfl, Or.inl (gt6 43 rfl rfl)⟩
theorem k_fl_X12_388 : Fl RX12 388 9 30 .int false := ⟨RX12, TX12, 39, tyX12, rfl, Nat.le_of_ble_eq_true rfl, inF9, tyX12_ok, nmX12, rfl, rfl, Or.inl (gt6 50 rfl rfl)⟩
theorem k_fl_X12_402 : Fl RX12 402 9 32 .int false := ⟨RX12, TX12, 39, tyX12, rfl, Nat.le_of_ble_eq_true rfl, inF9, tyX12_ok, nmX12, rfl, rfl, Or.inl (gt6 52 rfl rfl)⟩
theorem k_fl_X12_421 : Fl RX12 421 9 33 .int false := ⟨RX12, TX12, 39, tyX12, rfl, Nat.le_of_ble_eq_true rfl, inF9, tyX12_ok, nmX12, rfl, rfl, Or.inl (gt6 53 rfl rfl)⟩
theorem k_fl_X12_436 : Fl RX12 436 9 37 .boolean false := ⟨RX12, TX12, 39, tyX12, rfl, Nat.le_of_ble_eq_true rfl, inF9, tyX12_ok, nmX12, rfl, rfl, Or.inl (gt6 57 rfl rfl)⟩
theorem k_fl_X12_447 : Fl RX12 447 9 38 .int false := ⟨RX12, TX12, 39, tyX12, rfl, Nat.le_of_ble_eq_true rfl, inF9, tyX12_ok, nmX12, rfl, rfl, Or.inl (gt6 58 rfl rfl)⟩
theorem k_fl_X2_9 : Fl RX2 9 2 0 (tyX2 0) true := ⟨RX2, TX2, 9, tyX2, rfl, Nat.le_of_ble_eq_true rfl, inF2, tyX2_ok, nmX2, rfl, rfl, Or.inl (gt1 127 rfl rfl)⟩
theorem k_fl_X2_13 : Fl RX2 13 2 1 (tyX2 1) true := ⟨RX2, TX2, 9, tyX2, rfl, Nat.le_of_ble_eq_true rfl, inF2, tyX2_ok, nmX2, rfl, rfl, Or.inl (gt1 130 rfl rfl)⟩
theorem k_fl_X2_16 : Fl RX2 16 2 2 (tyX2 2) true := ⟨RX2, TX2, 9, tyX2, rfl, Nat.le_of_ble_eq_true rfl, inF2, tyX2_ok, nmX2, rfl, rfl, Or.inl (gt1 133 rfl rfl)⟩
theorem k_fl_X2_19 : Fl RX2 19 2 3 (tyX2 3) true := ⟨RX2, TX2, 9, tyX2, rfl, Nat.le_of_ble_eq_true rfl, inF2, tyX2_ok, nmX2, rfl, rfl, Or.inl (gt1 136 rfl rfl)⟩
theorem k_fl_X2_22 : Fl RX2 22 2 4 (tyX2 4) true := ⟨RX2, TX2, 9, tyX2, rfl, Nat.le_of_ble_eq_true rfl, inF2, tyX2_ok, nmX2, rfl, rfl, Or.inl (gt1 139 rfl rfl)⟩
theorem k_fl_X2_25 : Fl RX2 25 2 5 (tyX2 5) true := ⟨RX2, TX2, 9, tyX2, rfl, Nat.le_of_ble_eq_true rfl, inF2, tyX2_ok, nmX2, rfl, rfl, Or.inl (gt1 142 rfl rfl)⟩
theorem k_fl_X2_28 : Fl RX2 28 2 6 .int false := ⟨RX2, TX2, 9, tyX2, rfl, Nat.le_of_ble_eq_true rfl, inF2, tyX2_ok, nmX2, rfl, rfl, Or.inl (gt1 145 rfl rfl)⟩
theorem k_fl_X2_32 : Fl RX2 32 2 7 .int false := ⟨RX2, TX2, 9, tyX2, rfl, Nat.le_of_ble_eq_true rfl, inF2, tyX2_ok, nmX2, rfl, rfl, Or.inl (gt1 148 rfl rfl)⟩
theorem k_fl_X2_35 : Fl RX2 35 2 8 .boolean false := ⟨RX2, TX2, 9, tyX2, rfl, Nat.le_of_ble_eq_true rfl, inF2, tyX2_ok, nmX2, rfl, rfl, Or.inl (gt1 151 rfl rfl)⟩
theorem k_fl_X3_34 : Fl RX3 34 2 8 .boolean false := ⟨RX2, TX2, 9, tyX2, rfl, Nat.le_of_ble_eq_true rfl, inF2, tyX2_ok, nmX2, rfl, rfl, Or.inr ⟨"ResidueCover", (gn1 152 rfl rfl)⟩⟩
theorem k_fl_X3_38 : Fl RX3 38 2 6 .int false := ⟨RX2, TX2, 9, tyX2, rfl, Nat.le_of_ble_eq_true rfl, inF2, tyX2_ok, nmX2, rfl, rfl, Or.inr ⟨"ResidueCover", (gn1 147 rfl rfl)⟩⟩
theorem k_fl_X3_45 : Fl RX3 45 2 5 (tyX2 5) true := ⟨RX2, TX2, 9, tyX2, rfl, Nat.le_of_ble_eq_true rfl, inF2, tyX2_ok, nmX2, rfl, rfl, Or.inr ⟨"ResidueCover", (gn1 143 rfl rfl)⟩⟩
theorem k_fl_X3_66 : Fl RX3 66 2 7 .int false := ⟨RX2, TX2, 9, tyX2, rfl, Nat.le_of_ble_eq_true rfl, inF2, tyX2_ok, nmX2, rfl, rfl, Or.inr ⟨"ResidueCover", (gn1 149 rfl rfl)⟩⟩
theorem k_fl_X3_76 : Fl RX3 76 2 4 (tyX2 4) true := ⟨RX2, TX2, 9, tyX2, rfl, Nat.le_of_ble_eq_true rfl, inF2, tyX2_ok, nmX2, rfl, rfl, Or.inr ⟨"ResidueCover", (gn1 141 rfl rfl)⟩⟩
theorem k_fl_X3_82 : Fl RX3 82 2 0 (tyX2 0) true := ⟨RX2, TX2, 9, tyX2, rfl, Nat.le_of_ble_eq_true rfl, inF2, tyX2_ok, nmX2, rfl, rfl, Or.inr ⟨"ResidueCover", (gn1 129 rfl rfl)⟩⟩
theorem k_fl_X3_95 : Fl RX3 95 2 1 (tyX2 1) true := ⟨RX2, TX2, 9, tyX2, rfl, Nat.le_of_ble_eq_true rfl, inF2, tyX2_ok, nmX2, rfl, rfl, Or.inr ⟨"ResidueCover", (gn1 132 rfl rfl)⟩⟩
theorem k_fl_X3_102 : Fl RX3 102 2 2 (tyX2 2) true := ⟨RX2, TX2, 9, tyX2, rfl, Nat.le_of_ble_eq_true rfl, inF2, tyX2_ok, nmX2, rfl, rfl, Or.inr ⟨"ResidueCover", (gn1 135 rfl rfl)⟩⟩
theorem k_fl_X3_115 : Fl RX3 115 2 3 (tyX2 3) true := ⟨RX2, TX2, 9, tyX2, rfl, Nat.le_of_ble_eq_true rfl, inF2, tyX2_ok, nmX2, rfl, rfl, Or.inr ⟨"ResidueCover", (gn1 138 rfl rfl)⟩⟩
theorem k_fl_X4_19 : Fl RX4 19 5 3 .int false := ⟨RX7, TX7, 5, tyX7, rfl, Nat.le_of_ble_eq_true rfl, inF5, tyX7_ok, nmX7, rfl, rfl, Or.inr ⟨"ResidueCover", (gn1 185 rfl rfl)⟩⟩
theorem k_fl_X4_33 : Fl RX4 33 1 3 .int false := ⟨RX1, TX1, 6, tyX1, rfl, Nat.le_of_ble_eq_true rfl, inF1, tyX1_ok, nmX1, rfl, rfl, Or.inr ⟨"ResidueCover", (gn1 94 rfl rfl)⟩⟩
theorem k_fl_X4_50 : Fl RX4 50 1 4 .int false := ⟨RX1, TX1, 6, tyX1, rfl, Nat.le_of_ble_eq_true rfl, inF1, tyX1_ok, nmX1, rfl, rfl, Or.inr ⟨"ResidueCover", (gn1 100 rfl rfl)⟩⟩
theorem k_fl_X5_11 : Fl RX5 11 3 0 (tyX5 0) true := ⟨RX5, TX5, 9, tyX5, rfl, Nat.le_of_ble_eq_true rfl, inF3, tyX5_ok, nmX5, rfl, rfl, Or.inl (gt2 15 rfl rfl)⟩
theorem k_fl_X5_17 : Fl RX5 17 3 1 .boolean false := ⟨RX5, TX5, 9, tyX5, rfl, Nat.le_of_ble_eq_true rfl, inF3, tyX5_ok, nmX5, rfl, rfl, Or.inl (gt2 16 rfl rfl)⟩
theorem k_fl_X5_21 : Fl RX5 21 3 2 .int false := ⟨RX5, TX5, 9, tyX5, rfl, Nat.le_of_ble_eq_true rfl, inF3, tyX5_ok, nmX5, rfl, rfl, Or.inl (gt2 18 rfl rfl)⟩
theorem k_fl_X5_25 : Fl RX5 25 3 3 .int false := ⟨RX5, TX5, 9, tyX5, rfl, Nat.le_of_ble_eq_true rfl, inF3, tyX5_ok, nmX5, rfl, rfl, Or.inl (gt2 20 rfl rfl)⟩
theorem k_fl_X5_28 : Fl RX5 28 3 4 .int false := ⟨RX5, TX5, 9, tyX5, rfl, Nat.le_of_ble_eq_true rfl, inF3, tyX5_ok, nmX5, rfl, rfl, Or.inl (gt2 22 rfl rfl)⟩
theorem k_fl_X5_31 : Fl RX5 31 3 5 .int false := ⟨RX5, TX5, 9, tyX5, rfl, Nat.le_of_ble_eq_true rfl, inF3, tyX5_ok, nmX5, rfl, rfl, Or.inl (gt2 24 rfl rfl)⟩
theorem k_fl_X5_34 : Fl RX5 34 3 6 .int false := ⟨RX5, TX5, 9, tyX5, rfl, Nat.le_of_ble_eq_true rfl, inF3, tyX5_ok, nmX5, rfl, rfl, Or.inl (gt2 26 rfl rfl)⟩
theorem k_fl_X5_37 : Fl RX5 37 3 7 .boolean false := ⟨RX5, TX5, 9, tyX5, rfl, Nat.le_of_ble_eq_true rfl, inF3, tyX5_ok, nmX5, rfl, rfl, Or.inl (gt2 28 rfl rfl)⟩
theorem k_fl_X5_40 : Fl RX5 40 3 8 .int false := ⟨RX5, TX5, 9, tyX5, rfl, Nat.le_of_ble_eq_true rfl, inF3, tyX5_ok, nmX5, rfl, rfl, Or.inl (gt2 30 rfl rfl)⟩
theorem k_fl_X5_44 : Fl RX5 44 2 6 .int false := ⟨RX2, TX2, 9, tyX2, rfl, Nat.le_of_ble_eq_true rfl, inF2, tyX2_ok, nmX2, rfl, rfl, Or.inr ⟨"ResidueCover", (gn1 146 rfl rfl)⟩⟩
theorem k_fl_X5_51 : Fl RX5 51 2 0 (tyX2 0) true := ⟨RX2, TX2, 9, tyX2, rfl, Nat.le_of_ble_eq_true rfl, inF2, tyX2_ok, nmX2, rfl, rfl, Or.inr ⟨"ResidueCover", (gn1 128 rfl rfl)⟩⟩
theorem k_fl_X5_62 : Fl RX5 62 2 5 (tyX2 5) true := ⟨RX2, TX2, 9, tyX2, rfl, Nat.le_of_ble_eq_true rfl, inF2, tyX2_ok, nmX2, rfl, rfl, Or.inr ⟨"ResidueCover", (gn1 144 rfl rfl)⟩⟩
theorem k_fl_X5_71 : Fl RX5 71 2 4 (tyX2 4) true := ⟨RX2, TX2, 9, tyX2, rfl, Nat.le_of_ble_eq_true rfl, inF2, tyX2_ok, nmX2, rfl, rfl, Or.inr ⟨"ResidueCover", (gn1 140 rfl rfl)⟩⟩
theorem k_fl_X5_78 : Fl RX5 78 2 3 (tyX2 3) true := ⟨RX2, TX2, 9, tyX2, rfl, Nat.le_of_ble_eq_true rfl, inF2, tyX2_ok, nmX2, rfl, rfl, Or.inr ⟨"ResidueCover", (gn1 137 rfl rfl)⟩⟩
theorem k_fl_X5_89 : Fl RX5 89 2 1 (tyX2 1) true := ⟨RX2, TX2, 9, tyX2, rfl, Nat.le_of_ble_eq_true rfl, inF2, tyX2_ok, nmX2, rfl, rfl, Or.inr ⟨"ResidueCover", (gn1 131 rfl rfl)⟩⟩
theorem k_fl_X5_102 : Fl RX5 102 1 4 .int false := ⟨RX1, TX1, 6, tyX1, rfl, Nat.le_of_ble_eq_true rfl, inF1, tyX1_ok, nmX1, rfl, rfl, Or.inr ⟨"ResidueCover", (gn1 101 rfl rfl)⟩⟩
theorem k_fl_X5_115 : Fl RX5 115 2 2 (tyX2 2) true := ⟨RX2, TX2, 9, tyX2, rfl, Nat.le_of_ble_eq_true rfl, inF2, tyX2_ok, nmX2, rfl, rfl, Or.inr ⟨"ResidueCover", (gn1 134 rfl rfl)⟩⟩
theorem k_fl_X5_143 : Fl RX5 143 1 3 .int false := ⟨RX1, TX1, 6, tyX1, rfl, Nat.le_of_ble_eq_true rfl, inF1, tyX1_ok, nmX1, rfl, rfl, Or.inr ⟨"ResidueCover", (gn1 96 rfl rfl)⟩⟩
theorem k_fl_X5_147 : Fl RX5 147 1 5 .int false := ⟨RX1, TX1, 6, tyX1, rfl, Nat.le_of_ble_eq_true rfl, inF1, tyX1_ok, nmX1, rfl, rfl, Or.inr ⟨"ResidueCover", (gn1 106 rfl rfl)⟩⟩
theorem k_fl_X6_9 : Fl RX6 9 4 0 (tyX6 0) true := ⟨RX6, TX6, 11, tyX6, rfl, Nat.le_of_ble_eq_true rfl, inF4, tyX6_ok, nmX6, rfl, rfl, Or.inl (gt1 39 rfl rfl)⟩
theorem k_fl_X6_15 : Fl RX6 15 4 1 .int false := ⟨RX6, TX6, 11, tyX6, rfl, Nat.le_of_ble_eq_true rfl, inF4, tyX6_ok, nmX6, rfl, rfl, Or.inl (gt1 40 rfl rfl)⟩
theorem k_fl_X6_19 : Fl RX6 19 4 2 .int false := ⟨RX6, TX6, 11, tyX6, rfl, Nat.le_of_ble_eq_true rfl, inF4, tyX6_ok, nmX6, rfl, rfl, Or.inl (gt1 42 rfl rfl)⟩
theorem k_fl_X6_22 : Fl RX6 22 4 3 (tyX6 3) true := ⟨RX6, TX6, 11, tyX6, rfl, Nat.le_of_ble_eq_true rfl, inF4, tyX6_ok, nmX6, rfl, rfl, Or.inl (gt1 43 rfl rfl)⟩
theorem k_fl_X6_26 : Fl RX6 26 4 4 (tyX6 4) true := ⟨RX6, TX6, 11, tyX6, rfl, Nat.le_of_ble_eq_true rfl, inF4, tyX6_ok, nmX6, rfl, rfl, Or.inl (gt1 44 rfl rfl)⟩
theorem k_fl_X6_29 : Fl RX6 29 4 5 (tyX6 5) true := ⟨RX6, TX6, 11, tyX6, rfl, Nat.le_of_ble_eq_true rfl, inF4, tyX6_ok, nmX6, rfl, rfl, Or.inl (gt1 45 rfl rfl)⟩
theorem k_fl_X6_33 : Fl RX6 33 4 6 .int false := ⟨RX6, TX6, 11, tyX6, rfl, Nat.le_of_ble_eq_true rfl, inF4, tyX6_ok, nmX6, rfl, rfl, Or.inl (gt1 46 rfl rfl)⟩
theorem k_fl_X6_36 : Fl RX6 36 4 7 .int false := ⟨RX6, TX6, 11, tyX6, rfl, Nat.le_of_ble_eq_true rfl, inF4, tyX6_ok, nmX6, rfl, rfl, Or.inl (gt1 47 rfl rfl)⟩
theorem k_fl_X6_39 : Fl RX6 39 4 8 .long false := ⟨RX6, TX6, 11, tyX6, rfl, Nat.le_of_ble_eq_true rfl, inF4, tyX6_ok, nmX6, rfl, rfl, Or.inl (gt1 48 rfl rfl)⟩
theorem k_fl_X6_43 : Fl RX6 43 4 9 .int false := ⟨RX6, TX6, 11, tyX6, rfl, Nat.le_of_ble_eq_true rfl, inF4, tyX6_ok, nmX6, rfl, rfl, Or.inl (gt1 49 rfl rfl)⟩
theorem k_fl_X6_46 : Fl RX6 46 4 10 .int false := ⟨RX6, TX6, 11, tyX6, rfl, Nat.le_of_ble_eq_true rfl, inF4, tyX6_ok, nmX6, rfl, rfl, Or.inl (gt1 51 rfl rfl)⟩
theorem k_fl_X7_9 : Fl RX7 9 5 0 (tyX7 0) true := ⟨RX7, TX7, 5, tyX7, rfl, Nat.le_of_ble_eq_true rfl, inF5, tyX7_ok, nmX7, rfl, rfl, Or.inl (gt1 181 rfl rfl)⟩
theorem k_fl_X7_15 : Fl RX7 15 5 1 (tyX7 1) true := ⟨RX7, TX7, 5, tyX7, rfl, Nat.le_of_ble_eq_true rfl, inF5, tyX7_ok, nmX7, rfl, rfl, Or.inl (gt1 182 rfl rfl)⟩
theorem k_fl_X7_18 : Fl RX7 18 5 2 (tyX7 2) true := ⟨RX7, TX7, 5, tyX7, rfl, Nat.le_of_ble_eq_true rfl, inF5, tyX7_ok, nmX7, rfl, rfl, Or.inl (gt1 183 rfl rfl)⟩
theorem k_fl_X7_21 : Fl RX7 21 5 3 .int false := ⟨RX7, TX7, 5, tyX7, rfl, Nat.le_of_ble_eq_true rfl, inF5, tyX7_ok, nmX7, rfl, rfl, Or.inl (gt1 184 rfl rfl)⟩
theorem k_fl_X7_25 : Fl RX7 25 5 4 .int false := ⟨RX7, TX7, 5, tyX7, rfl, Nat.le_of_ble_eq_true rfl, inF5, tyX7_ok, nmX7, rfl, rfl, Or.inl (gt1 187 rfl rfl)⟩
theorem k_fl_X7_43 : Fl RX7 43 1 3 .int false := ⟨RX1, TX1, 6, tyX1, rfl, Nat.le_of_ble_eq_true rfl, inF1, tyX1_ok, nmX1, rfl, rfl, Or.inr ⟨"ResidueCover", (gn1 93 rfl rfl)⟩⟩
theorem k_fl_X7_50 : Fl RX7 50 1 1 (tyX1 1) true := ⟨RX1, TX1, 6, tyX1, rfl, Nat.le_of_ble_eq_true rfl, inF1, tyX1_ok, nmX1, rfl, rfl, Or.inr ⟨"ResidueCover", (gn1 89 rfl rfl)⟩⟩
theorem k_fl_X7_54 : Fl RX7 54 1 0 (tyX1 0) true := ⟨RX1, TX1, 6, tyX1, rfl, Nat.le_of_ble_eq_true rfl, inF1, tyX1_ok, nmX1, rfl, rfl, Or.inr ⟨"ResidueCover", (gn1 86 rfl rfl)⟩⟩
theorem k_fl_X7_111 : Fl RX7 111 1 4 .int false := ⟨RX1, TX1, 6, tyX1, rfl, Nat.le_of_ble_eq_true rfl, inF1, tyX1_ok, nmX1, rfl, rfl, Or.inr ⟨"ResidueCover", (gn1 102 rfl rfl)⟩⟩
theorem k_fl_X8_30 : Fl RX8 30 1 3 .int false := ⟨RX1, TX1, 6, tyX1, rfl, Nat.le_of_ble_eq_true rfl, inF1, tyX1_ok, nmX1, rfl, rfl, Or.inr ⟨"ResidueCover", (gn1 95 rfl rfl)⟩⟩
theorem k_fl_X8_47 : Fl RX8 47 1 5 .int false := ⟨RX1, TX1, 6, tyX1, rfl, Nat.le_of_ble_eq_true rfl, inF1, tyX1_ok, nmX1, rfl, rfl, Or.inr ⟨"ResidueCover", (gn1 105 rfl rfl)⟩⟩
theorem k_fl_X9_9 : Fl RX9 9 6 0 (tyX9 0) true := ⟨RX9, TX9, 3, tyX9, rfl, Nat.le_of_ble_eq_true rfl, inF6, tyX9_ok, nmX9, rfl, rfl, Or.inl (gt2 55 rfl rfl)⟩
theorem k_fl_X9_15 : Fl RX9 15 6 1 .int false := ⟨RX9, TX9, 3, tyX9, rfl, Nat.le_of_ble_eq_true rfl, inF6, tyX9_ok, nmX9, rfl, rfl, Or.inl (gt2 57 rfl rfl)⟩
theorem k_fl_X9_19 : Fl RX9 19 6 2 .int false := ⟨RX9, TX9, 3, tyX9, rfl, Nat.le_of_ble_eq_true rfl, inF6, tyX9_ok, nmX9, rfl, rfl, Or.inl (gt2 59 rfl rfl)⟩
theorem k_constl_J13_314 : Cond.constantLong RJ13 314 (6148914691236517205) ∈ lw_good := (gt4 29 rfl rfl)
theorem k_constl_J13_316 : Cond.constantLong RJ13 316 (3689348814741910323) ∈ lw_good := (gt4 30 rfl rfl)
theorem k_constl_J13_318 : Cond.constantLong RJ13 318 (1085102592571150095) ∈ lw_good := (gt4 31 rfl rfl)
theorem k_const_J6_265 : Cond.constant RJ6 265 (1431655765) ∈ lw_good := (gt4 51 rfl rfl)
theorem k_const_J6_266 : Cond.constant RJ6 266 (858993459) ∈ lw_good := (gt4 52 rfl rfl)
theorem k_const_J6_267 : Cond.constant RJ6 267 (252645135) ∈ lw_good := (gt4 53 rfl rfl)
theorem k_constl_X0_39 : Cond.constantLong RX0 39 (60) ∈ lw_good := (gt5 92 rfl rfl)
theorem k_constl_X0_59 : Cond.constantLong RX0 59 (5) ∈ lw_good := (gt5 137 rfl rfl)
theorem k_constl_X1_93 : Cond.constantLong RX1 93 (2) ∈ lw_good := (gt4 58 rfl rfl)
theorem k_constl_X11_96 : Cond.constantLong RX11 96 (3) ∈ lw_good := (gt2 135 rfl rfl)
theorem k_constl_X11_102 : Cond.constantLong RX11 102 (60) ∈ lw_good := (gt2 139 rfl rfl)
theorem k_constl_X11_248 : Cond.constantLong RX11 248 (9999) ∈ lw_good := (gt4 72 rfl rfl)
theorem k_constl_X11_262 : Cond.constantLong RX11 262 (59) ∈ lw_good := (gt4 106 rfl rfl)
theorem k_constl_X11_276 : Cond.constantLong RX11 276 (2) ∈ lw_good := (gt4 133 rfl rfl)
theorem k_constl_X11_284 : Cond.constantLong RX11 284 (7) ∈ lw_good := (gt4 147 rfl rfl)
theorem k_constl_X11_299 : Cond.constantLong RX11 299 (16) ∈ lw_good := (gt4 178 rfl rfl)
theorem k_constl_X11_376 : Cond.constantLong RX11 376 (6) ∈ lw_good := (gt5 86 rfl rfl)
theorem k_constl_X11_386 : Cond.constantLong RX11 386 (5040) ∈ lw_good := (gt5 99 rfl rfl)
theorem k_constl_X11_398 : Cond.constantLong RX11 398 (5) ∈ lw_good := (gt5 163 rfl rfl)
theorem k_constl_X11_426 : Cond.constantLong RX11 426 (4) ∈ lw_good := (gt5 236 rfl rfl)
theorem k_constl_X11_446 : Cond.constantLong RX11 446 (20) ∈ lw_good := (gt6 1 rfl rfl)
theorem k_constl_X11_451 : Cond.constantLong RX11 451 (-1) ∈ lw_good := (gt4 25 rfl rfl)
theorem k_constl_X12_110 : Cond.constantLong RX12 110 (-1) ∈ lw_good := (gt6 177 rfl rfl)
theorem k_const_X12_142 : Cond.constant RX12 142 (100000) ∈ lw_good := (gt6 216 rfl rfl)
theorem k_constl_X12_268 : Cond.constantLong RX12 268 (7) ∈ lw_good := (gt7 67 rfl rfl)
theorem k_constl_X12_289 : Cond.constantLong RX12 289 (9999) ∈ lw_good := (gt7 133 rfl rfl)
theorem k_constl_X12_297 : Cond.constantLong RX12 297 (59) ∈ lw_good := (gt7 154 rfl rfl)
theorem k_constl_X12_299 : Cond.constantLong RX12 299 (60) ∈ lw_good := (gt7 155 rfl rfl)
theorem k_constl_X12_311 : Cond.constantLong RX12 311 (2) ∈ lw_good := (gt7 184 rfl rfl)
theorem k_constl_X12_327 : Cond.constantLong RX12 327 (16) ∈ lw_good := (gt7 210 rfl rfl)
theorem k_constl_X12_351 : Cond.constantLong RX12 351 (3) ∈ lw_good := (gt8 38 rfl rfl)
theorem k_constl_X12_356 : Cond.constantLong RX12 356 (6) ∈ lw_good := (gt8 62 rfl rfl)
theorem k_constl_X12_358 : Cond.constantLong RX12 358 (5040) ∈ lw_good := (gt8 63 rfl rfl)
theorem k_constl_X12_400 : Cond.constantLong RX12 400 (5) ∈ lw_good := (gt8 124 rfl rfl)
theorem k_const_X12_405 : Cond.constant RX12 405 (65536) ∈ lw_good := (gt8 161 rfl rfl)
theorem k_constl_X12_439 : Cond.constantLong RX12 439 (20) ∈ lw_good := (gt8 178 rfl rfl)
theorem k_const_X5_43 : Cond.constant RX5 43 (1000000) ∈ lw_good := (gt5 182 rfl rfl)
theorem k_const_X5_150 : Cond.constant RX5 150 (65536) ∈ lw_good := (gt5 210 rfl rfl)
theorem k_constl_X6_86 : Cond.constantLong RX6 86 (32) ∈ lw_good := (gt3 5 rfl rfl)
theorem k_constl_X6_88 : Cond.constantLong RX6 88 (97) ∈ lw_good := (gt3 6 rfl rfl)
theorem k_constl_X6_93 : Cond.constantLong RX6 93 (10) ∈ lw_good := (gt3 75 rfl rfl)
theorem k_constl_X6_95 : Cond.constantLong RX6 95 (48) ∈ lw_good := (gt3 76 rfl rfl)
theorem k_constl_X7_69 : Cond.constantLong RX7 69 (-1) ∈ lw_good := (gt4 21 rfl rfl)
theorem k_constl_X9_32 : Cond.constantLong RX9 32 (-1) ∈ lw_good := (gt2 196 rfl rfl)
theorem k_ml_X0_33 : Cv RX0 33 M_X9_at 1 6 := ⟨Or.inl (gt5 91 rfl rfl), ok2_X9_at, (gt2 193 rfl rfl), (gt2 194 rfl rfl), TX9, 3, rfl⟩
theorem k_ml_X0_41 : Cs RX0 41 M_X11_within 3 := ⟨Or.inr ⟨"ResidueCover", (gn5 93 rfl rfl)⟩, ok2_X11_within, (gt2 137 rfl rfl)⟩
theorem k_ml_X0_45 : Nk RX0 45 := ⟨(gt5 94 rfl rfl), (gt2 225 rfl rfl), (gt1 13 rfl rfl), (gt2 226 rfl rfl)⟩
theorem k_ml_X0_51 : Cv RX0 51 M_X0_begin 1 0 := ⟨Or.inl (gt5 104 rfl rfl), ok2_X0_begin, (gt5 106 rfl rfl), (gsel 27 rfl), TX0, 6, rfl⟩
theorem k_ml_X0_55 : Cs RX0 55 M_X0_waysFrom 3 := ⟨Or.inl (gt5 110 rfl rfl), ok2_X0_waysFrom, (gt5 111 rfl rfl)⟩
theorem k_ml_X0_61 : Cs RX0 61 M_X11_commonDivisor 2 := ⟨Or.inr ⟨"ResidueCover", (gn5 108 rfl rfl)⟩, ok2_X11_commonDivisor, (gt3 234 rfl rfl)⟩
theorem k_ml_X0_65 : Cs RX0 65 M_X11_partBy_ 2 := ⟨Or.inr ⟨"ResidueCover", (gn5 109 rfl rfl)⟩, ok2_X11_partBy_, (gt3 237 rfl rfl)⟩
theorem k_ml_X0_68 : Cv RX0 68 M_X0_isAllCaught 1 0 := ⟨Or.inl (gt5 113 rfl rfl), ok2_X0_isAllCaught, (gt5 115 rfl rfl), (gsel 28 rfl), TX0, 6, rfl⟩
theorem k_ml_X0_72 : Cv RX0 72 M_X0_lay 2 0 := ⟨Or.inl (gt5 119 rfl rfl), ok2_X0_lay, (gt5 121 rfl rfl), (gsel 29 rfl), TX0, 6, rfl⟩
theorem k_ml_X0_76 : Cs RX0 76 M_X11_combOf 1 := ⟨Or.inr ⟨"ResidueCover", (gn5 123 rfl rfl)⟩, ok2_X11_combOf, (gt4 9 rfl rfl)⟩
theorem k_ml_X0_79 : Cs RX0 79 M_X11_wordsFor 1 := ⟨Or.inr ⟨"ResidueCover", (gn5 117 rfl rfl)⟩, ok2_X11_wordsFor, (gt4 0 rfl rfl)⟩
theorem k_ml_X0_83 : Cs RX0 83 M_X11_wordOf 4 := ⟨Or.inr ⟨"ResidueCover", (gn5 124 rfl rfl)⟩, ok2_X11_wordOf, (gt4 220 rfl rfl)⟩
theorem k_ml_X0_87 : Cs RX0 87 M_X11_insideOf 2 := ⟨Or.inr ⟨"ResidueCover", (gn5 118 rfl rfl)⟩, ok2_X11_insideOf, (gt4 23 rfl rfl)⟩
theorem k_ml_X1_32 : Ak RX1 32 := ⟨(gt3 139 rfl rfl), (gt2 207 rfl rfl), (gt2 206 rfl rfl), (gt1 12 rfl rfl)⟩
theorem k_ml_X1_38 : Cs RX1 38 M_X11_isIn 2 := ⟨Or.inr ⟨"ResidueCover", (gn3 230 rfl rfl)⟩, ok2_X11_isIn, (gt3 231 rfl rfl)⟩
theorem k_ml_X1_42 : Cs RX1 42 M_X11_leftBy 2 := ⟨Or.inr ⟨"ResidueCover", (gn3 132 rfl rfl)⟩, ok2_X11_leftBy, (gt3 133 rfl rfl)⟩
theorem k_ml_X1_46 : Cv RX1 46 M_X1_isThere 1 1 := ⟨Or.inl (gt4 101 rfl rfl), ok2_X1_isThere, (gt4 64 rfl rfl), (gt4 65 rfl rfl), TX1, 6, rfl⟩
theorem k_ml_X1_50 : Cv RX1 50 M_X1_isOn 1 1 := ⟨Or.inl (gt4 36 rfl rfl), ok2_X1_isOn, (gt4 37 rfl rfl), (gt4 38 rfl rfl), TX1, 6, rfl⟩
theorem k_ml_X1_53 : Cv RX1 53 M_X1_append 4 1 := ⟨Or.inl (gt4 156 rfl rfl), ok2_X1_append, (gt3 129 rfl rfl), (gt3 130 rfl rfl), TX1, 6, rfl⟩
theorem k_ml_X1_57 : Cs RX1 57 M_X11_partBy_ 2 := ⟨Or.inr ⟨"ResidueCover", (gn3 236 rfl rfl)⟩, ok2_X11_partBy_, (gt3 237 rfl rfl)⟩
theorem k_ml_X1_60 : Cv RX1 60 M_X1_firstLike 2 1 := ⟨Or.inl (gt4 165 rfl rfl), ok2_X1_firstLike, (gt4 167 rfl rfl), (gsel 22 rfl), TX1, 6, rfl⟩
theorem k_ml_X1_63 : Cv RX1 63 M_X1_remove 1 1 := ⟨Or.inl (gt4 173 rfl rfl), ok2_X1_remove, (gt4 113 rfl rfl), (gt4 114 rfl rfl), TX1, 6, rfl⟩
theorem k_ml_X1_67 : Xk RX1 67 := ⟨(gt4 138 rfl rfl), (gt2 228 rfl rfl), (gt1 13 rfl rfl), (gt2 229 rfl rfl)⟩
theorem k_ml_X1_72 : Cs RX1 72 M_X11_commonDivisor 2 := ⟨Or.inr ⟨"ResidueCover", (gn3 233 rfl rfl)⟩, ok2_X11_commonDivisor, (gt3 234 rfl rfl)⟩
theorem k_ml_X1_76 : Cv RX1 76 M_X1_takes 2 1 := ⟨Or.inl (gt4 77 rfl rfl), ok2_X1_takes, (gt4 79 rfl rfl), (gsel 20 rfl), TX1, 6, rfl⟩
theorem k_ml_X1_79 : Cv RX1 79 M_X1_touches 3 1 := ⟨Or.inl (gt4 44 rfl rfl), ok2_X1_touches, (gt4 46 rfl rfl), (gsel 19 rfl), TX1, 6, rfl⟩
theorem k_ml_X1_83 : Cv RX1 83 M_X1_touching 3 1 := ⟨Or.inl (gt4 40 rfl rfl), ok2_X1_touching, (gt4 41 rfl rfl), (gt4 42 rfl rfl), TX1, 6, rfl⟩
theorem k_ml_X1_87 : Cs RX1 87 M_J6_bitCount_0f7a4 1 := ⟨Or.inl (gt4 48 rfl rfl), ok2_J6_bitCount_0f7a4, (gt4 49 rfl rfl)⟩
theorem k_ml_X10_27 : Cs RX10 27 M_X10_visit 7 := ⟨Or.inl (gt5 57 rfl rfl), ok2_X10_visit, (gt5 58 rfl rfl)⟩
theorem k_ml_X10_31 : Xk RX10 31 := ⟨(gt5 60 rfl rfl), (gt2 228 rfl rfl), (gt1 13 rfl rfl), (gt2 229 rfl rfl)⟩
theorem k_ml_X10_37 : Cv RX10 37 M_X1_touching 3 1 := ⟨Or.inl (gt5 61 rfl rfl), ok2_X1_touching, (gt4 41 rfl rfl), (gt4 42 rfl rfl), TX1, 6, rfl⟩
theorem k_ml_X10_41 : Cv RX10 41 M_X1_anyModulusDivides 2 1 := ⟨Or.inl (gt5 62 rfl rfl), ok2_X1_anyModulusDivides, (gt5 63 rfl rfl), (gt5 64 rfl rfl), TX1, 6, rfl⟩
theorem k_ml_X10_45 : Cs RX10 45 M_X11_partBy_ 2 := ⟨Or.inr ⟨"ResidueCover", (gn5 66 rfl rfl)⟩, ok2_X11_partBy_, (gt3 237 rfl rfl)⟩
theorem k_ml_X10_50 : Cs RX10 50 M_X11_leastPrimeOf 1 := ⟨Or.inr ⟨"ResidueCover", (gn5 67 rfl rfl)⟩, ok2_X11_leastPrimeOf, (gt5 68 rfl rfl)⟩
theorem k_ml_X10_54 : Cs RX10 54 M_X11_leftBy 2 := ⟨Or.inr ⟨"ResidueCover", (gn5 77 rfl rfl)⟩, ok2_X11_leftBy, (gt3 133 rfl rfl)⟩
theorem k_ml_X11_98 : Cs RX11 98 M_X11_within 3 := ⟨Or.inl (gt2 136 rfl rfl), ok2_X11_within, (gt2 137 rfl rfl)⟩
theorem k_ml_X11_104 : Cv RX11 104 M_X11_deny 1 8 := ⟨Or.inl (gt2 140 rfl rfl), ok2_X11_deny, (gt2 142 rfl rfl), (gsel 0 rfl), TX11, 17, rfl⟩
theorem k_ml_X11_108 : Cv RX11 108 M_X9_lay 2 6 := ⟨Or.inl (gt2 144 rfl rfl), ok2_X9_lay, (gt2 145 rfl rfl), (gt2 146 rfl rfl), TX9, 3, rfl⟩
theorem k_ml_X11_112 : Cv RX11 112 M_X11_agree 0 8 := ⟨Or.inl (gt2 151 rfl rfl), ok2_X11_agree, (gt2 153 rfl rfl), (gsel 1 rfl), TX11, 17, rfl⟩
theorem k_ml_X11_116 : Cv RX11 116 M_X11_placeTrouble 2 8 := ⟨Or.inl (gt2 159 rfl rfl), ok2_X11_placeTrouble, (gt2 161 rfl rfl), (gsel 2 rfl), TX11, 17, rfl⟩
theorem k_ml_X11_120 : Cv RX11 120 M_X9_put 2 6 := ⟨Or.inl (gt2 175 rfl rfl), ok2_X9_put, (gt2 176 rfl rfl), (gt2 177 rfl rfl), TX9, 3, rfl⟩
theorem k_ml_X11_124 : Cv RX11 124 M_X11_refuse 1 8 := ⟨Or.inl (gt2 188 rfl rfl), ok2_X11_refuse, (gt2 190 rfl rfl), (gsel 5 rfl), TX11, 17, rfl⟩
theorem k_ml_X11_128 : Cv RX11 128 M_X9_at 1 6 := ⟨Or.inl (gt2 192 rfl rfl), ok2_X9_at, (gt2 193 rfl rfl), (gt2 194 rfl rfl), TX9, 3, rfl⟩
theorem k_ml_X11_132 : Cv RX11 132 M_X11_pourTrouble 5 8 := ⟨Or.inl (gt2 201 rfl rfl), ok2_X11_pourTrouble, (gt2 203 rfl rfl), (gsel 6 rfl), TX11, 17, rfl⟩
theorem k_ml_X11_140 : Ak RX11 140 := ⟨(gt2 205 rfl rfl), (gt2 207 rfl rfl), (gt2 206 rfl rfl), (gt1 12 rfl rfl)⟩
theorem k_ml_X11_146 : Cv RX11 146 M_X9_isMissing 0 6 := ⟨Or.inl (gt2 167 rfl rfl), ok2_X9_isMissing, (gt2 168 rfl rfl), (gt2 169 rfl rfl), TX9, 3, rfl⟩
theorem k_ml_X11_152 : Cv RX11 152 M_X9_holds 2 6 := ⟨Or.inl (gt2 171 rfl rfl), ok2_X9_holds, (gt2 172 rfl rfl), (gt2 173 rfl rfl), TX9, 3, rfl⟩
theorem k_ml_X11_156 : Cv RX11 156 M_X11_trayTrouble 1 8 := ⟨Or.inl (gt2 163 rfl rfl), ok2_X11_trayTrouble, (gt2 165 rfl rfl), (gsel 3 rfl), TX11, 17, rfl⟩
theorem k_ml_X11_162 : Cv RX11 162 M_X6_append 1 4 := ⟨Or.inl (gt2 212 rfl rfl), ok2_X6_append, (gt2 213 rfl rfl), (gt2 214 rfl rfl), TX6, 11, rfl⟩
theorem k_ml_X11_166 : Cv RX11 166 M_X6_begin 1 4 := ⟨Or.inl (gt2 220 rfl rfl), ok2_X6_begin, (gt2 221 rfl rfl), (gt2 222 rfl rfl), TX6, 11, rfl⟩
theorem k_ml_X11_169 : Cs RX11 169 M_X8_take 2 := ⟨Or.inl (gt3 80 rfl rfl), ok2_X8_take, (gt3 81 rfl rfl)⟩
theorem k_ml_X11_175 : Cv RX11 175 M_X1_copyFrom 1 1 := ⟨Or.inl (gt3 135 rfl rfl), ok2_X1_copyFrom, (gt3 136 rfl rfl), (gt3 137 rfl rfl), TX1, 6, rfl⟩
theorem k_ml_X11_179 : Cv RX11 179 M_X2_clear 0 2 := ⟨Or.inl (gt3 140 rfl rfl), ok2_X2_clear, (gt3 141 rfl rfl), (gt3 142 rfl rfl), TX2, 9, rfl⟩
theorem k_ml_X11_185 : Cv RX11 185 M_X11_answer 1 8 := ⟨Or.inl (gt3 144 rfl rfl), ok2_X11_answer, (gt3 146 rfl rfl), (gsel 14 rfl), TX11, 17, rfl⟩
theorem k_ml_X11_188 : Nk RX11 188 := ⟨(gt3 152 rfl rfl), (gt2 225 rfl rfl), (gt1 13 rfl rfl), (gt2 226 rfl rfl)⟩
theorem k_ml_X11_193 : Cs RX11 193 M_X3_take 3 := ⟨Or.inl (gt3 153 rfl rfl), ok2_X3_take, (gt3 154 rfl rfl)⟩
theorem k_ml_X11_198 : Cv RX11 198 M_X2_copyFrom 1 2 := ⟨Or.inl (gt3 201 rfl rfl), ok2_X2_copyFrom, (gt3 202 rfl rfl), (gt3 203 rfl rfl), TX2, 9, rfl⟩
theorem k_ml_X11_216 : Cv RX11 216 M_X11_toldBySpan 1 8 := ⟨Or.inl (gt3 214 rfl rfl), ok2_X11_toldBySpan, (gt3 216 rfl rfl), (gsel 15 rfl), TX11, 17, rfl⟩
theorem k_ml_X11_219 : Cv RX11 219 M_X1_couples 0 1 := ⟨Or.inl (gt4 32 rfl rfl), ok2_X1_couples, (gt4 33 rfl rfl), (gt4 34 rfl rfl), TX1, 6, rfl⟩
theorem k_ml_X11_223 : Cv RX11 223 M_X1_allUnlike 0 1 := ⟨Or.inl (gt4 54 rfl rfl), ok2_X1_allUnlike, (gt4 55 rfl rfl), (gt4 56 rfl rfl), TX1, 6, rfl⟩
theorem k_ml_X11_226 : Cv RX11 226 M_X11_sieved 0 8 := ⟨Or.inl (gt3 218 rfl rfl), ok2_X11_sieved, (gt3 220 rfl rfl), (gsel 16 rfl), TX11, 17, rfl⟩
theorem k_ml_X11_232 : Cv RX11 232 M_X7_countGaps 0 5 := ⟨Or.inl (gt4 13 rfl rfl), ok2_X7_countGaps, (gt4 14 rfl rfl), (gt4 15 rfl rfl), TX7, 5, rfl⟩
theorem k_ml_X11_235 : Cv RX11 235 M_X1_isThere 1 1 := ⟨Or.inl (gt4 63 rfl rfl), ok2_X1_isThere, (gt4 64 rfl rfl), (gt4 65 rfl rfl), TX1, 6, rfl⟩
theorem k_ml_X11_245 : Cv RX11 245 M_X1_isOn 1 1 := ⟨Or.inl (gt4 67 rfl rfl), ok2_X1_isOn, (gt4 37 rfl rfl), (gt4 38 rfl rfl), TX1, 6, rfl⟩
theorem k_ml_X11_250 : Cv RX11 250 M_X1_catchers 1 1 := ⟨Or.inl (gt4 73 rfl rfl), ok2_X1_catchers, (gt4 74 rfl rfl), (gt4 75 rfl rfl), TX1, 6, rfl⟩
theorem k_ml_X11_253 : Cv RX11 253 M_X1_leastModulusOf 1 1 := ⟨Or.inl (gt4 85 rfl rfl), ok2_X1_leastModulusOf, (gt4 86 rfl rfl), (gt4 87 rfl rfl), TX1, 6, rfl⟩
theorem k_ml_X11_256 : Cv RX11 256 M_X11_answerOrNone 1 8 := ⟨Or.inl (gt4 89 rfl rfl), ok2_X11_answerOrNone, (gt4 91 rfl rfl), (gsel 21 rfl), TX11, 17, rfl⟩
theorem k_ml_X11_259 : Cv RX11 259 M_X1_flip 1 1 := ⟨Or.inl (gt4 97 rfl rfl), ok2_X1_flip, (gt4 98 rfl rfl), (gt4 99 rfl rfl), TX1, 6, rfl⟩
theorem k_ml_X11_264 : Cv RX11 264 M_X1_append 4 1 := ⟨Or.inl (gt4 107 rfl rfl), ok2_X1_append, (gt3 129 rfl rfl), (gt3 130 rfl rfl), TX1, 6, rfl⟩
theorem k_ml_X11_267 : Cv RX11 267 M_X1_remove 1 1 := ⟨Or.inl (gt4 112 rfl rfl), ok2_X1_remove, (gt4 113 rfl rfl), (gt4 114 rfl rfl), TX1, 6, rfl⟩
theorem k_ml_X11_270 : Cs RX11 270 M_X11_leftBy 2 := ⟨Or.inl (gt4 120 rfl rfl), ok2_X11_leftBy, (gt3 133 rfl rfl)⟩
theorem k_ml_X11_273 : Cv RX11 273 M_X1_slide 1 1 := ⟨Or.inl (gt4 125 rfl rfl), ok2_X1_slide, (gt4 126 rfl rfl), (gt4 127 rfl rfl), TX1, 6, rfl⟩
theorem k_ml_X11_278 : Cv RX11 278 M_X1_greatestModulus 0 1 := ⟨Or.inl (gt4 134 rfl rfl), ok2_X1_greatestModulus, (gt4 135 rfl rfl), (gt4 136 rfl rfl), TX1, 6, rfl⟩
theorem k_ml_X11_281 : Cv RX11 281 M_X1_stretch 1 1 := ⟨Or.inl (gt4 139 rfl rfl), ok2_X1_stretch, (gt4 140 rfl rfl), (gt4 141 rfl rfl), TX1, 6, rfl⟩
theorem k_ml_X11_286 : Cv RX11 286 M_X1_partTrouble 2 1 := ⟨Or.inl (gt4 148 rfl rfl), ok2_X1_partTrouble, (gt4 149 rfl rfl), (gt4 150 rfl rfl), TX1, 6, rfl⟩
theorem k_ml_X11_289 : Cv RX11 289 M_X1_part 2 1 := ⟨Or.inl (gt4 152 rfl rfl), ok2_X1_part, (gt4 153 rfl rfl), (gt4 154 rfl rfl), TX1, 6, rfl⟩
theorem k_ml_X11_292 : Cv RX11 292 M_X1_partsWith 2 1 := ⟨Or.inl (gt4 161 rfl rfl), ok2_X1_partsWith, (gt4 162 rfl rfl), (gt4 163 rfl rfl), TX1, 6, rfl⟩
theorem k_ml_X11_295 : Cv RX11 295 M_X1_merge 3 1 := ⟨Or.inl (gt4 169 rfl rfl), ok2_X1_merge, (gt4 170 rfl rfl), (gt4 171 rfl rfl), TX1, 6, rfl⟩
theorem k_ml_X11_301 : Cv RX11 301 M_X7_findGap 1 5 := ⟨Or.inl (gt4 183 rfl rfl), ok2_X7_findGap, (gt4 184 rfl rfl), (gt4 185 rfl rfl), TX7, 5, rfl⟩
theorem k_ml_X11_304 : Cv RX11 304 M_X11_tell 2 8 := ⟨Or.inl (gt4 194 rfl rfl), ok2_X11_tell, (gt4 196 rfl rfl), (gsel 23 rfl), TX11, 17, rfl⟩
theorem k_ml_X11_308 : Cv RX11 308 M_X1_spanOf 1 1 := ⟨Or.inl (gt4 206 rfl rfl), ok2_X1_spanOf, (gt3 227 rfl rfl), (gt3 228 rfl rfl), TX1, 6, rfl⟩
theorem k_ml_X11_311 : Cv RX11 311 M_X1_caughtTimes 1 1 := ⟨Or.inl (gt4 207 rfl rfl), ok2_X1_caughtTimes, (gt4 208 rfl rfl), (gt4 209 rfl rfl), TX1, 6, rfl⟩
theorem k_ml_X11_314 : Cv RX11 314 M_X7_countOnlyBy 2 5 := ⟨Or.inl (gt4 215 rfl rfl), ok2_X7_countOnlyBy, (gt4 216 rfl rfl), (gt4 217 rfl rfl), TX7, 5, rfl⟩
theorem k_ml_X11_318 : Cv RX11 318 M_X7_needlessOf 1 5 := ⟨Or.inl (gt4 226 rfl rfl), ok2_X7_needlessOf, (gt4 227 rfl rfl), (gt4 228 rfl rfl), TX7, 5, rfl⟩
theorem k_ml_X11_322 : Cv RX11 322 M_X7_leastSet 1 5 := ⟨Or.inl (gt4 236 rfl rfl), ok2_X7_leastSet, (gt4 237 rfl rfl), (gt4 238 rfl rfl), TX7, 5, rfl⟩
theorem k_ml_X11_325 : Cs RX11 325 M_J6_bitCount_0f7a4 1 := ⟨Or.inl (gt5 12 rfl rfl), ok2_J6_bitCount_0f7a4, (gt4 49 rfl rfl)⟩
theorem k_ml_X11_330 : Cv RX11 330 M_X1_leastOfBoth 2 1 := ⟨Or.inl (gt5 21 rfl rfl), ok2_X1_leastOfBoth, (gt5 22 rfl rfl), (gt5 23 rfl rfl), TX1, 6, rfl⟩
theorem k_ml_X11_333 : Cv RX11 333 M_X7_thickestNumber 1 5 := ⟨Or.inl (gt5 29 rfl rfl), ok2_X7_thickestNumber, (gt5 30 rfl rfl), (gt5 31 rfl rfl), TX7, 5, rfl⟩
theorem k_ml_X11_336 : Cv RX11 336 M_X7_leastTurn 0 5 := ⟨Or.inl (gt5 41 rfl rfl), ok2_X7_leastTurn, (gt5 42 rfl rfl), (gt5 43 rfl rfl), TX7, 5, rfl⟩
theorem k_ml_X11_339 : Cv RX11 339 M_X7_fill 2 5 := ⟨Or.inl (gt3 222 rfl rfl), ok2_X7_fill, (gt3 223 rfl rfl), (gt3 224 rfl rfl), TX7, 5, rfl⟩
theorem k_ml_X11_343 : Cv RX11 343 M_X10_grow 2 7 := ⟨Or.inl (gt5 53 rfl rfl), ok2_X10_grow, (gt5 54 rfl rfl), (gt5 55 rfl rfl), TX10, 4, rfl⟩
theorem k_ml_X11_359 : Cs RX11 359 M_X10_leafWith 3 := ⟨Or.inl (gt5 74 rfl rfl), ok2_X10_leafWith, (gt5 75 rfl rfl)⟩
theorem k_ml_X11_363 : Cv RX11 363 M_X11_choiceTrouble 3 8 := ⟨Or.inl (gt5 82 rfl rfl), ok2_X11_choiceTrouble, (gt5 84 rfl rfl), (gsel 26 rfl), TX11, 17, rfl⟩
theorem k_ml_X11_367 : Cv RX11 367 M_X0_countWays 1 0 := ⟨Or.inl (gt5 100 rfl rfl), ok2_X0_countWays, (gt5 101 rfl rfl), (gt5 102 rfl rfl), TX0, 6, rfl⟩
theorem k_ml_X11_370 : Cv RX11 370 M_X0_findFirst 1 0 := ⟨Or.inl (gt5 129 rfl rfl), ok2_X0_findFirst, (gt5 130 rfl rfl), (gt5 131 rfl rfl), TX0, 6, rfl⟩
theorem k_ml_X11_373 : Cv RX11 373 M_X0_restAt 1 0 := ⟨Or.inl (gt5 133 rfl rfl), ok2_X0_restAt, (gt5 134 rfl rfl), (gt5 135 rfl rfl), TX0, 6, rfl⟩
theorem k_ml_X11_378 : Cv RX11 378 M_X0_takeModuli 2 0 := ⟨Or.inl (gt5 87 rfl rfl), ok2_X0_takeModuli, (gt5 88 rfl rfl), (gt5 89 rfl rfl), TX0, 6, rfl⟩
theorem k_ml_X11_382 : Cv RX11 382 M_X0_product 0 0 := ⟨Or.inl (gt5 95 rfl rfl), ok2_X0_product, (gt5 96 rfl rfl), (gt5 97 rfl rfl), TX0, 6, rfl⟩
theorem k_ml_X11_388 : Cs RX11 388 M_X4_worth 5 := ⟨Or.inr ⟨"ResidueCover", (gn5 142 rfl rfl)⟩, ok2_X4_worth, (gt5 143 rfl rfl)⟩
theorem k_ml_X11_394 : Cs RX11 394 M_X4_bestSwitch 3 := ⟨Or.inl (gt5 156 rfl rfl), ok2_X4_bestSwitch, (gt5 157 rfl rfl)⟩
theorem k_ml_X11_400 : Cs RX11 400 M_X11_commonDivisor 2 := ⟨Or.inl (gt4 198 rfl rfl), ok2_X11_commonDivisor, (gt3 234 rfl rfl)⟩
theorem k_ml_X11_404 : Cs RX11 404 M_X11_partBy 2 := ⟨Or.inl (gt4 199 rfl rfl), ok2_X11_partBy, (gt4 200 rfl rfl)⟩
theorem k_ml_X11_407 : Cs RX11 407 M_X11_ways 2 := ⟨Or.inl (gt5 164 rfl rfl), ok2_X11_ways, (gt5 165 rfl rfl)⟩
theorem k_ml_X11_411 : Cs RX11 411 M_X11_power 2 := ⟨Or.inl (gt5 167 rfl rfl), ok2_X11_power, (gt5 168 rfl rfl)⟩
theorem k_ml_X11_419 : Cv RX11 419 M_X5_run 4 3 := ⟨Or.inl (gt5 178 rfl rfl), ok2_X5_run, (gt5 179 rfl rfl), (gt5 180 rfl rfl), TX5, 9, rfl⟩
theorem k_ml_X11_448 : Xk RX11 448 := ⟨(gt4 11 rfl rfl), (gt2 228 rfl rfl), (gt1 13 rfl rfl), (gt2 229 rfl rfl)⟩
theorem k_ml_X12_78 : Cv RX12 78 M_X12_plain 1 9 := ⟨Or.inl (gt6 16 rfl rfl), ok2_X12_plain, (gt6 18 rfl rfl), (gsel 37 rfl), TX12, 39, rfl⟩
theorem k_ml_X12_88 : Cv RX12 88 M_X12_refuse 1 9 := ⟨Or.inl (gt6 218 rfl rfl), ok2_X12_refuse, (gt6 220 rfl rfl), (gsel 44 rfl), TX12, 39, rfl⟩
theorem k_ml_X12_92 : Cv RX12 92 M_X12_gives 1 9 := ⟨Or.inl (gt7 36 rfl rfl), ok2_X12_gives, (gt7 38 rfl rfl), (gsel 57 rfl), TX12, 39, rfl⟩
theorem k_ml_X12_95 : Cv RX12 95 M_X12_is 1 9 := ⟨Or.inl (gt6 158 rfl rfl), ok2_X12_is, (gt6 160 rfl rfl), (gsel 38 rfl), TX12, 39, rfl⟩
theorem k_ml_X12_99 : Cs RX12 99 M_X12_isTray 1 := ⟨Or.inl (gt6 155 rfl rfl), ok2_X12_isTray, (gt6 156 rfl rfl)⟩
theorem k_ml_X12_102 : Cv RX12 102 M_X12_wrongPlace 2 9 := ⟨Or.inl (gt6 166 rfl rfl), ok2_X12_wrongPlace, (gt6 168 rfl rfl), (gsel 39 rfl), TX12, 39, rfl⟩
theorem k_ml_X12_106 : Cs RX12 106 M_X12_cut 2 := ⟨Or.inl (gt6 170 rfl rfl), ok2_X12_cut, (gt6 171 rfl rfl)⟩
theorem k_ml_X12_115 : Cv RX12 115 M_X12_four 1 9 := ⟨Or.inl (gt6 186 rfl rfl), ok2_X12_four, (gt6 188 rfl rfl), (gsel 40 rfl), TX12, 39, rfl⟩
theorem k_ml_X12_124 : Cv RX12 124 M_X12_byteAt 1 9 := ⟨Or.inl (gt6 206 rfl rfl), ok2_X12_byteAt, (gt6 208 rfl rfl), (gsel 43 rfl), TX12, 39, rfl⟩
theorem k_ml_X12_136 : Cs RX12 136 M_X12_isSmall 1 := ⟨Or.inl (gt6 210 rfl rfl), ok2_X12_isSmall, (gt6 211 rfl rfl)⟩
theorem k_ml_X12_139 : Cs RX12 139 M_X12_isDigit 1 := ⟨Or.inl (gt6 213 rfl rfl), ok2_X12_isDigit, (gt6 214 rfl rfl)⟩
theorem k_ml_X12_143 : Nk RX12 143 := ⟨(gt6 217 rfl rfl), (gt2 225 rfl rfl), (gt1 13 rfl rfl), (gt2 226 rfl rfl)⟩
theorem k_ml_X12_161 : Cv RX12 161 M_X12_ahead 0 9 := ⟨Or.inl (gt6 202 rfl rfl), ok2_X12_ahead, (gt6 204 rfl rfl), (gsel 42 rfl), TX12, 39, rfl⟩
theorem k_ml_X12_164 : Cv RX12 164 M_X12_isSign 1 9 := ⟨Or.inl (gt7 28 rfl rfl), ok2_X12_isSign, (gt7 30 rfl rfl), (gsel 55 rfl), TX12, 39, rfl⟩
theorem k_ml_X12_167 : Cv RX12 167 M_X12_fails 1 9 := ⟨Or.inl (gt7 0 rfl rfl), ok2_X12_fails, (gt7 2 rfl rfl), (gsel 48 rfl), TX12, 39, rfl⟩
theorem k_ml_X12_172 : Cv RX12 172 M_X12_inWords 1 9 := ⟨Or.inl (gt6 227 rfl rfl), ok2_X12_inWords, (gt6 229 rfl rfl), (gsel 46 rfl), TX12, 39, rfl⟩
theorem k_ml_X12_176 : Cv RX12 176 M_X12_nameHere 0 9 := ⟨Or.inl (gt7 12 rfl rfl), ok2_X12_nameHere, (gt7 14 rfl rfl), (gsel 51 rfl), TX12, 39, rfl⟩
theorem k_ml_X12_180 : Cs RX12 180 M_X12_rowOf 1 := ⟨Or.inl (gt6 237 rfl rfl), ok2_X12_rowOf, (gt6 238 rfl rfl)⟩
theorem k_ml_X12_183 : Cv RX12 183 M_X12_isName 0 9 := ⟨Or.inl (gt7 4 rfl rfl), ok2_X12_isName, (gt7 6 rfl rfl), (gsel 49 rfl), TX12, 39, rfl⟩
theorem k_ml_X12_187 : Cv RX12 187 M_X12_findHere 2 9 := ⟨Or.inl (gt7 8 rfl rfl), ok2_X12_findHere, (gt7 10 rfl rfl), (gsel 50 rfl), TX12, 39, rfl⟩
theorem k_ml_X12_190 : Cv RX12 190 M_X12_wantWord 1 9 := ⟨Or.inl (gt7 16 rfl rfl), ok2_X12_wantWord, (gt7 18 rfl rfl), (gsel 52 rfl), TX12, 39, rfl⟩
theorem k_ml_X12_193 : Cv RX12 193 M_X12_number 3 9 := ⟨Or.inl (gt7 20 rfl rfl), ok2_X12_number, (gt7 22 rfl rfl), (gsel 53 rfl), TX12, 39, rfl⟩
theorem k_ml_X12_197 : Cv RX12 197 M_X12_wantSign 1 9 := ⟨Or.inl (gt7 24 rfl rfl), ok2_X12_wantSign, (gt7 26 rfl rfl), (gsel 54 rfl), TX12, 39, rfl⟩
theorem k_ml_X12_200 : Cv RX12 200 M_X12_aClass 0 9 := ⟨Or.inl (gt6 233 rfl rfl), ok2_X12_aClass, (gt6 235 rfl rfl), (gsel 47 rfl), TX12, 39, rfl⟩
theorem k_ml_X12_207 : Cv RX12 207 M_X12_begins 2 9 := ⟨Or.inl (gt6 198 rfl rfl), ok2_X12_begins, (gt6 200 rfl rfl), (gsel 41 rfl), TX12, 39, rfl⟩
theorem k_ml_X12_211 : Cv RX12 211 M_X12_systemPart 0 9 := ⟨Or.inl (gt6 222 rfl rfl), ok2_X12_systemPart, (gt6 224 rfl rfl), (gsel 45 rfl), TX12, 39, rfl⟩
theorem k_ml_X12_214 : Cv RX12 214 M_X12_taken 1 9 := ⟨Or.inl (gt7 32 rfl rfl), ok2_X12_taken, (gt7 34 rfl rfl), (gsel 56 rfl), TX12, 39, rfl⟩
theorem k_ml_X12_217 : Cv RX12 217 M_X12_classTo 1 9 := ⟨Or.inl (gt7 55 rfl rfl), ok2_X12_classTo, (gt7 57 rfl rfl), (gsel 60 rfl), TX12, 39, rfl⟩
theorem k_ml_X12_220 : Cv RX12 220 M_X12_test 1 9 := ⟨Or.inl (gt7 59 rfl rfl), ok2_X12_test, (gt7 61 rfl rfl), (gsel 61 rfl), TX12, 39, rfl⟩
theorem k_ml_X12_223 : Cs RX12 223 M_X12_isOrder 1 := ⟨Or.inl (gt7 48 rfl rfl), ok2_X12_isOrder, (gt7 49 rfl rfl)⟩
theorem k_ml_X12_232 : Cv RX12 232 M_X12_dayOrder 2 9 := ⟨Or.inl (gt7 51 rfl rfl), ok2_X12_dayOrder, (gt7 53 rfl rfl), (gsel 59 rfl), TX12, 39, rfl⟩
theorem k_ml_X12_235 : Cv RX12 235 M_X12_dayStep 0 9 := ⟨Or.inl (gt7 44 rfl rfl), ok2_X12_dayStep, (gt7 46 rfl rfl), (gsel 58 rfl), TX12, 39, rfl⟩
theorem k_ml_X12_238 : Cv RX12 238 M_X12_isOn 1 9 := ⟨Or.inl (gt7 79 rfl rfl), ok2_X12_isOn, (gt7 81 rfl rfl), (gsel 64 rfl), TX12, 39, rfl⟩
theorem k_ml_X12_241 : Cs RX12 241 M_X12_isIn 2 := ⟨Or.inl (gt7 91 rfl rfl), ok2_X12_isIn, (gt7 92 rfl rfl)⟩
theorem k_ml_X12_244 : Cv RX12 244 M_X12_modulusOf 1 9 := ⟨Or.inl (gt7 94 rfl rfl), ok2_X12_modulusOf, (gt7 96 rfl rfl), (gsel 67 rfl), TX12, 39, rfl⟩
theorem k_ml_X12_247 : Cs RX12 247 M_X12_common 2 := ⟨Or.inl (gt7 98 rfl rfl), ok2_X12_common, (gt7 99 rfl rfl)⟩
theorem k_ml_X12_250 : Cv RX12 250 M_X12_spanOf 1 9 := ⟨Or.inl (gt7 87 rfl rfl), ok2_X12_spanOf, (gt7 89 rfl rfl), (gsel 66 rfl), TX12, 39, rfl⟩
theorem k_ml_X12_256 : Cv RX12 256 M_X12_restOf 1 9 := ⟨Or.inl (gt7 101 rfl rfl), ok2_X12_restOf, (gt7 103 rfl rfl), (gsel 68 rfl), TX12, 39, rfl⟩
theorem k_ml_X12_259 : Cv RX12 259 M_X12_onSet 0 9 := ⟨Or.inl (gt7 75 rfl rfl), ok2_X12_onSet, (gt7 77 rfl rfl), (gsel 63 rfl), TX12, 39, rfl⟩
theorem k_ml_X12_262 : Cv RX12 262 M_X12_lays 1 9 := ⟨Or.inl (gt7 83 rfl rfl), ok2_X12_lays, (gt7 85 rfl rfl), (gsel 65 rfl), TX12, 39, rfl⟩
theorem k_ml_X12_265 : Cv RX12 265 M_X12_doMeet 2 9 := ⟨Or.inl (gt7 113 rfl rfl), ok2_X12_doMeet, (gt7 115 rfl rfl), (gsel 71 rfl), TX12, 39, rfl⟩
theorem k_ml_X12_270 : Cs RX12 270 M_X12_isFrom 3 := ⟨Or.inl (gt7 68 rfl rfl), ok2_X12_isFrom, (gt7 69 rfl rfl)⟩
theorem k_ml_X12_274 : Cv RX12 274 M_X12_laysNow 0 9 := ⟨Or.inl (gt7 71 rfl rfl), ok2_X12_laysNow, (gt7 73 rfl rfl), (gsel 62 rfl), TX12, 39, rfl⟩
theorem k_ml_X12_277 : Cv RX12 277 M_X12_justBy 1 9 := ⟨Or.inl (gt7 105 rfl rfl), ok2_X12_justBy, (gt7 107 rfl rfl), (gsel 69 rfl), TX12, 39, rfl⟩
theorem k_ml_X12_280 : Cv RX12 280 M_X12_couples 0 9 := ⟨Or.inl (gt7 109 rfl rfl), ok2_X12_couples, (gt7 111 rfl rfl), (gsel 70 rfl), TX12, 39, rfl⟩
theorem k_ml_X12_283 : Cv RX12 283 M_X12_areUnlike 0 9 := ⟨Or.inl (gt7 117 rfl rfl), ok2_X12_areUnlike, (gt7 119 rfl rfl), (gsel 72 rfl), TX12, 39, rfl⟩
theorem k_ml_X12_286 : Cv RX12 286 M_X12_isClass 1 9 := ⟨Or.inl (gt7 125 rfl rfl), ok2_X12_isClass, (gt7 127 rfl rfl), (gsel 73 rfl), TX12, 39, rfl⟩
theorem k_ml_X12_291 : Cv RX12 291 M_X12_catchers 1 9 := ⟨Or.inl (gt7 134 rfl rfl), ok2_X12_catchers, (gt7 136 rfl rfl), (gsel 74 rfl), TX12, 39, rfl⟩
theorem k_ml_X12_294 : Cv RX12 294 M_X12_orNone 1 9 := ⟨Or.inl (gt7 142 rfl rfl), ok2_X12_orNone, (gt7 144 rfl rfl), (gsel 75 rfl), TX12, 39, rfl⟩
theorem k_ml_X12_301 : Cv RX12 301 M_X12_puts 3 9 := ⟨Or.inl (gt7 156 rfl rfl), ok2_X12_puts, (gt7 158 rfl rfl), (gsel 76 rfl), TX12, 39, rfl⟩
theorem k_ml_X12_305 : Cv RX12 305 M_X12_takesAway 1 9 := ⟨Or.inl (gt7 164 rfl rfl), ok2_X12_takesAway, (gt7 166 rfl rfl), (gsel 77 rfl), TX12, 39, rfl⟩
theorem k_ml_X12_308 : Cv RX12 308 M_X12_shifts 1 9 := ⟨Or.inl (gt7 176 rfl rfl), ok2_X12_shifts, (gt7 178 rfl rfl), (gsel 78 rfl), TX12, 39, rfl⟩
theorem k_ml_X12_313 : Xk RX12 313 := ⟨(gt7 185 rfl rfl), (gt2 228 rfl rfl), (gt1 13 rfl rfl), (gt2 229 rfl rfl)⟩
theorem k_ml_X12_316 : Cv RX12 316 M_X12_whyNotSplit 2 9 := ⟨Or.inl (gt7 190 rfl rfl), ok2_X12_whyNotSplit, (gt7 192 rfl rfl), (gsel 79 rfl), TX12, 39, rfl⟩
theorem k_ml_X12_319 : Cv RX12 319 M_X12_splits 2 9 := ⟨Or.inl (gt7 194 rfl rfl), ok2_X12_splits, (gt7 196 rfl rfl), (gsel 80 rfl), TX12, 39, rfl⟩
theorem k_ml_X12_323 : Cv RX12 323 M_X12_findClass 3 9 := ⟨Or.inl (gt7 202 rfl rfl), ok2_X12_findClass, (gt7 204 rfl rfl), (gsel 81 rfl), TX12, 39, rfl⟩
theorem k_ml_X12_329 : Cv RX12 329 M_X12_tellsBy 2 9 := ⟨Or.inl (gt7 219 rfl rfl), ok2_X12_tellsBy, (gt7 221 rfl rfl), (gsel 82 rfl), TX12, 39, rfl⟩
theorem k_ml_X12_333 : Cs RX12 333 M_X12_bits 1 := ⟨Or.inl (gt8 3 rfl rfl), ok2_X12_bits, (gt8 4 rfl rfl)⟩
theorem k_ml_X12_336 : Cv RX12 336 M_X12_fewestNow 0 9 := ⟨Or.inl (gt7 239 rfl rfl), ok2_X12_fewestNow, (gt8 1 rfl rfl), (gsel 83 rfl), TX12, 39, rfl⟩
theorem k_ml_X12_339 : Cv RX12 339 M_X12_thickNow 0 9 := ⟨Or.inl (gt8 18 rfl rfl), ok2_X12_thickNow, (gt8 20 rfl rfl), (gsel 84 rfl), TX12, 39, rfl⟩
theorem k_ml_X12_342 : Cv RX12 342 M_X12_isLikeBy 1 9 := ⟨Or.inl (gt8 30 rfl rfl), ok2_X12_isLikeBy, (gt8 32 rfl rfl), (gsel 85 rfl), TX12, 39, rfl⟩
theorem k_ml_X12_345 : Cv RX12 345 M_X12_kindOf 2 9 := ⟨Or.inl (gt8 43 rfl rfl), ok2_X12_kindOf, (gt8 45 rfl rfl), (gsel 87 rfl), TX12, 39, rfl⟩
theorem k_ml_X12_348 : Cs RX12 348 M_X12_leastPrime 1 := ⟨Or.inl (gt8 47 rfl rfl), ok2_X12_leastPrime, (gt8 48 rfl rfl)⟩
theorem k_ml_X12_353 : Cv RX12 353 M_X12_laysTree 0 9 := ⟨Or.inl (gt8 39 rfl rfl), ok2_X12_laysTree, (gt8 41 rfl rfl), (gsel 86 rfl), TX12, 39, rfl⟩
theorem k_ml_X12_360 : Cv RX12 360 M_X12_spanBy 1 9 := ⟨Or.inl (gt8 80 rfl rfl), ok2_X12_spanBy, (gt8 82 rfl rfl), (gsel 93 rfl), TX12, 39, rfl⟩
theorem k_ml_X12_363 : Cv RX12 363 M_X12_isAllBy 1 9 := ⟨Or.inl (gt8 76 rfl rfl), ok2_X12_isAllBy, (gt8 78 rfl rfl), (gsel 92 rfl), TX12, 39, rfl⟩
theorem k_ml_X12_366 : Cv RX12 366 M_X12_isNoneTwice 1 9 := ⟨Or.inl (gt8 84 rfl rfl), ok2_X12_isNoneTwice, (gt8 86 rfl rfl), (gsel 94 rfl), TX12, 39, rfl⟩
theorem k_ml_X12_369 : Cv RX12 369 M_X12_wrongChoices 3 9 := ⟨Or.inl (gt8 58 rfl rfl), ok2_X12_wrongChoices, (gt8 60 rfl rfl), (gsel 88 rfl), TX12, 39, rfl⟩
theorem k_ml_X12_373 : Cv RX12 373 M_X12_allWays 1 9 := ⟨Or.inl (gt8 64 rfl rfl), ok2_X12_allWays, (gt8 66 rfl rfl), (gsel 89 rfl), TX12, 39, rfl⟩
theorem k_ml_X12_376 : Cv RX12 376 M_X12_laysWay 2 9 := ⟨Or.inl (gt8 68 rfl rfl), ok2_X12_laysWay, (gt8 70 rfl rfl), (gsel 90 rfl), TX12, 39, rfl⟩
theorem k_ml_X12_379 : Cv RX12 379 M_X12_isGood 2 9 := ⟨Or.inl (gt8 72 rfl rfl), ok2_X12_isGood, (gt8 74 rfl rfl), (gsel 91 rfl), TX12, 39, rfl⟩
theorem k_ml_X12_382 : Cv RX12 382 M_X12_afterBy 2 9 := ⟨Or.inl (gt8 108 rfl rfl), ok2_X12_afterBy, (gt8 110 rfl rfl), (gsel 98 rfl), TX12, 39, rfl⟩
theorem k_ml_X12_385 : Cv RX12 385 M_X12_worthOf 1 9 := ⟨Or.inl (gt8 100 rfl rfl), ok2_X12_worthOf, (gt8 102 rfl rfl), (gsel 96 rfl), TX12, 39, rfl⟩
theorem k_ml_X12_391 : Cv RX12 391 M_X12_leastBy 1 9 := ⟨Or.inl (gt8 112 rfl rfl), ok2_X12_leastBy, (gt8 114 rfl rfl), (gsel 99 rfl), TX12, 39, rfl⟩
theorem k_ml_X12_394 : Cv RX12 394 M_X12_wrongGame 2 9 := ⟨Or.inl (gt8 96 rfl rfl), ok2_X12_wrongGame, (gt8 98 rfl rfl), (gsel 95 rfl), TX12, 39, rfl⟩
theorem k_ml_X12_397 : Cv RX12 397 M_X12_mostBy 2 9 := ⟨Or.inl (gt8 104 rfl rfl), ok2_X12_mostBy, (gt8 106 rfl rfl), (gsel 97 rfl), TX12, 39, rfl⟩
theorem k_ml_X12_406 : Cv RX12 406 M_X12_draw 1 9 := ⟨Or.inl (gt8 157 rfl rfl), ok2_X12_draw, (gt8 159 rfl rfl), (gsel 106 rfl), TX12, 39, rfl⟩
theorem k_ml_X12_409 : Cv RX12 409 M_X12_switches 2 9 := ⟨Or.inl (gt8 141 rfl rfl), ok2_X12_switches, (gt8 143 rfl rfl), (gsel 102 rfl), TX12, 39, rfl⟩
theorem k_ml_X12_412 : Cv RX12 412 M_X12_shiftsOn 1 9 := ⟨Or.inl (gt8 145 rfl rfl), ok2_X12_shiftsOn, (gt8 147 rfl rfl), (gsel 103 rfl), TX12, 39, rfl⟩
theorem k_ml_X12_415 : Cv RX12 415 M_X12_splitsOn 2 9 := ⟨Or.inl (gt8 149 rfl rfl), ok2_X12_splitsOn, (gt8 151 rfl rfl), (gsel 104 rfl), TX12, 39, rfl⟩
theorem k_ml_X12_418 : Cv RX12 418 M_X12_doesAny 0 9 := ⟨Or.inl (gt8 153 rfl rfl), ok2_X12_doesAny, (gt8 155 rfl rfl), (gsel 105 rfl), TX12, 39, rfl⟩
theorem k_ml_X12_424 : Cv RX12 424 M_X12_does 1 9 := ⟨Or.inl (gt8 137 rfl rfl), ok2_X12_does, (gt8 139 rfl rfl), (gsel 101 rfl), TX12, 39, rfl⟩
theorem k_ml_X12_427 : Cv RX12 427 M_X12_holds 1 9 := ⟨Or.inl (gt8 162 rfl rfl), ok2_X12_holds, (gt8 164 rfl rfl), (gsel 107 rfl), TX12, 39, rfl⟩
theorem k_ml_X12_430 : Cv RX12 430 M_X12_behindEnds 1 9 := ⟨Or.inl (gt8 166 rfl rfl), ok2_X12_behindEnds, (gt8 168 rfl rfl), (gsel 108 rfl), TX12, 39, rfl⟩
theorem k_ml_X12_433 : Cv RX12 433 M_X12_lives 1 9 := ⟨Or.inl (gt8 133 rfl rfl), ok2_X12_lives, (gt8 135 rfl rfl), (gsel 100 rfl), TX12, 39, rfl⟩
theorem k_ml_X12_441 : Cv RX12 441 M_X12_keeps 1 9 := ⟨Or.inl (gt8 179 rfl rfl), ok2_X12_keeps, (gt8 181 rfl rfl), (gsel 109 rfl), TX12, 39, rfl⟩
theorem k_ml_X12_444 : Cv RX12 444 M_X12_brings 1 9 := ⟨Or.inl (gt8 183 rfl rfl), ok2_X12_brings, (gt8 185 rfl rfl), (gsel 110 rfl), TX12, 39, rfl⟩
theorem k_ml_X12_450 : Cv RX12 450 M_X12_copies 2 9 := ⟨Or.inl (gt8 191 rfl rfl), ok2_X12_copies, (gt8 193 rfl rfl), (gsel 111 rfl), TX12, 39, rfl⟩
theorem k_ml_X2_39 : Ak RX2 39 := ⟨(gt3 205 rfl rfl), (gt2 207 rfl rfl), (gt2 206 rfl rfl), (gt1 12 rfl rfl)⟩
theorem k_ml_X2_45 : Nk RX2 45 := ⟨(gt3 165 rfl rfl), (gt2 225 rfl rfl), (gt1 13 rfl rfl), (gt2 226 rfl rfl)⟩
theorem k_ml_X3_9 : Cv RX3 9 M_X2_clear 0 2 := ⟨Or.inl (gt3 156 rfl rfl), ok2_X2_clear, (gt3 141 rfl rfl), (gt3 142 rfl rfl), TX2, 9, rfl⟩
theorem k_ml_X3_14 : Cv RX3 14 M_X6_token 0 4 := ⟨Or.inl (gt3 157 rfl rfl), ok2_X6_token, (gt3 88 rfl rfl), (gt3 89 rfl rfl), TX6, 11, rfl⟩
theorem k_ml_X3_20 : Cs RX3 20 M_X3_takeOne 4 := ⟨Or.inl (gt3 158 rfl rfl), ok2_X3_takeOne, (gt3 159 rfl rfl)⟩
theorem k_ml_X3_26 : Cs RX3 26 M_X3_innermostBehind 3 := ⟨Or.inl (gt3 194 rfl rfl), ok2_X3_innermostBehind, (gt3 195 rfl rfl)⟩
theorem k_ml_X3_30 : Cv RX3 30 M_X6_blame 1 4 := ⟨Or.inl (gt3 174 rfl rfl), ok2_X6_blame, (gt3 92 rfl rfl), (gt3 93 rfl rfl), TX6, 11, rfl⟩
theorem k_ml_X3_42 : Cs RX3 42 M_X3_isOpener 1 := ⟨Or.inl (gt3 171 rfl rfl), ok2_X3_isOpener, (gt3 172 rfl rfl)⟩
theorem k_ml_X3_49 : Cv RX3 49 M_X2_pair 2 2 := ⟨Or.inl (gt3 197 rfl rfl), ok2_X2_pair, (gt3 198 rfl rfl), (gt3 199 rfl rfl), TX2, 9, rfl⟩
theorem k_ml_X3_53 : Cv RX3 53 M_X2_append 1 2 := ⟨Or.inl (gt3 161 rfl rfl), ok2_X2_append, (gt3 162 rfl rfl), (gt3 163 rfl rfl), TX2, 9, rfl⟩
theorem k_ml_X3_57 : Cv RX3 57 M_X6_step 0 4 := ⟨Or.inl (gt3 166 rfl rfl), ok2_X6_step, (gt3 99 rfl rfl), (gt3 100 rfl rfl), TX6, 11, rfl⟩
theorem k_ml_X3_60 : Cv RX3 60 M_X6_take 1 4 := ⟨Or.inl (gt3 167 rfl rfl), ok2_X6_take, (gt3 114 rfl rfl), (gt3 115 rfl rfl), TX6, 11, rfl⟩
theorem k_ml_X3_63 : Cs RX3 63 M_X3_isStep 1 := ⟨Or.inl (gt3 168 rfl rfl), ok2_X3_isStep, (gt3 169 rfl rfl)⟩
theorem k_ml_X3_69 : Cs RX3 69 M_X3_depthOf 2 := ⟨Or.inl (gt3 175 rfl rfl), ok2_X3_depthOf, (gt3 176 rfl rfl)⟩
theorem k_ml_X3_73 : Cs RX3 73 M_X3_takeRest 4 := ⟨Or.inl (gt3 178 rfl rfl), ok2_X3_takeRest, (gt3 179 rfl rfl)⟩
theorem k_ml_X3_79 : Cv RX3 79 M_X6_takenNumber 0 4 := ⟨Or.inl (gt3 193 rfl rfl), ok2_X6_takenNumber, (gt3 110 rfl rfl), (gt3 111 rfl rfl), TX6, 11, rfl⟩
theorem k_ml_X3_85 : Cs RX3 85 M_X3_takeWho 4 := ⟨Or.inl (gt3 181 rfl rfl), ok2_X3_takeWho, (gt3 182 rfl rfl)⟩
theorem k_ml_X3_88 : Cv RX3 88 M_X6_takeNumber 2 4 := ⟨Or.inl (gt3 186 rfl rfl), ok2_X6_takeNumber, (gt3 103 rfl rfl), (gt3 104 rfl rfl), TX6, 11, rfl⟩
theorem k_ml_X3_92 : Cs RX3 92 M_X3_takeTest 4 := ⟨Or.inl (gt3 187 rfl rfl), ok2_X3_takeTest, (gt3 188 rfl rfl)⟩
theorem k_ml_X3_98 : Cs RX3 98 M_X3_takeSign 3 := ⟨Or.inl (gt3 190 rfl rfl), ok2_X3_takeSign, (gt3 191 rfl rfl)⟩
theorem k_ml_X3_105 : Cv RX3 105 M_X6_value 0 4 := ⟨Or.inl (gt3 184 rfl rfl), ok2_X6_value, (gt3 121 rfl rfl), (gt3 122 rfl rfl), TX6, 11, rfl⟩
theorem k_ml_X3_109 : Cv RX3 109 M_X1_find 1 1 := ⟨Or.inl (gt3 185 rfl rfl), ok2_X1_find, (gt3 125 rfl rfl), (gt3 126 rfl rfl), TX1, 6, rfl⟩
theorem k_ml_X4_9 : Cv RX4 9 M_X7_fill 2 5 := ⟨Or.inl (gt5 145 rfl rfl), ok2_X7_fill, (gt3 223 rfl rfl), (gt3 224 rfl rfl), TX7, 5, rfl⟩
theorem k_ml_X4_15 : Cv RX4 15 M_X7_countGaps 0 5 := ⟨Or.inl (gt5 146 rfl rfl), ok2_X7_countGaps, (gt4 14 rfl rfl), (gt4 15 rfl rfl), TX7, 5, rfl⟩
theorem k_ml_X4_23 : Cs RX4 23 M_X11_partBy_ 2 := ⟨Or.inr ⟨"ResidueCover", (gn5 147 rfl rfl)⟩, ok2_X11_partBy_, (gt3 237 rfl rfl)⟩
theorem k_ml_X4_27 : Cs RX4 27 M_X4_worth 5 := ⟨Or.inl (gt5 148 rfl rfl), ok2_X4_worth, (gt5 143 rfl rfl)⟩
theorem k_ml_X4_38 : Cv RX4 38 M_X1_spanOf 1 1 := ⟨Or.inl (gt5 149 rfl rfl), ok2_X1_spanOf, (gt3 227 rfl rfl), (gt3 228 rfl rfl), TX1, 6, rfl⟩
theorem k_ml_X4_42 : Xk RX4 42 := ⟨(gt5 150 rfl rfl), (gt2 228 rfl rfl), (gt1 13 rfl rfl), (gt2 229 rfl rfl)⟩
theorem k_ml_X4_47 : Nk RX4 47 := ⟨(gt5 151 rfl rfl), (gt2 225 rfl rfl), (gt1 13 rfl rfl), (gt2 226 rfl rfl)⟩
theorem k_ml_X5_47 : Cv RX5 47 M_X5_follow 4 3 := ⟨Or.inl (gt5 183 rfl rfl), ok2_X5_follow, (gt5 185 rfl rfl), (gsel 30 rfl), TX5, 9, rfl⟩
theorem k_ml_X5_54 : Cv RX5 54 M_X5_behindEnd 2 3 := ⟨Or.inl (gt5 187 rfl rfl), ok2_X5_behindEnd, (gt5 189 rfl rfl), (gsel 31 rfl), TX5, 9, rfl⟩
theorem k_ml_X5_58 : Cs RX5 58 M_X5_isSo 4 := ⟨Or.inl (gt5 191 rfl rfl), ok2_X5_isSo, (gt5 192 rfl rfl)⟩
theorem k_ml_X5_65 : Xk RX5 65 := ⟨(gt5 201 rfl rfl), (gt2 228 rfl rfl), (gt1 13 rfl rfl), (gt2 229 rfl rfl)⟩
theorem k_ml_X5_74 : Cv RX5 74 M_X5_chance 1 3 := ⟨Or.inl (gt5 202 rfl rfl), ok2_X5_chance, (gt5 204 rfl rfl), (gsel 32 rfl), TX5, 9, rfl⟩
theorem k_ml_X5_81 : Cs RX5 81 M_X5_partIfItCan 3 := ⟨Or.inl (gt5 222 rfl rfl), ok2_X5_partIfItCan, (gt5 223 rfl rfl)⟩
theorem k_ml_X5_85 : Cv RX5 85 M_X5_act 3 3 := ⟨Or.inl (gt5 228 rfl rfl), ok2_X5_act, (gt5 230 rfl rfl), (gsel 36 rfl), TX5, 9, rfl⟩
theorem k_ml_X5_92 : Cv RX5 92 M_X1_catchers 1 1 := ⟨Or.inl (gt5 194 rfl rfl), ok2_X1_catchers, (gt4 74 rfl rfl), (gt4 75 rfl rfl), TX1, 6, rfl⟩
theorem k_ml_X5_98 : Cv RX5 98 M_X1_isOn 1 1 := ⟨Or.inl (gt5 195 rfl rfl), ok2_X1_isOn, (gt4 37 rfl rfl), (gt4 38 rfl rfl), TX1, 6, rfl⟩
theorem k_ml_X5_105 : Cv RX5 105 M_X7_fill 2 5 := ⟨Or.inl (gt5 196 rfl rfl), ok2_X7_fill, (gt3 223 rfl rfl), (gt3 224 rfl rfl), TX7, 5, rfl⟩
theorem k_ml_X5_111 : Cv RX5 111 M_X7_countGaps 0 5 := ⟨Or.inl (gt5 197 rfl rfl), ok2_X7_countGaps, (gt4 14 rfl rfl), (gt4 15 rfl rfl), TX7, 5, rfl⟩
theorem k_ml_X5_118 : Cs RX5 118 M_X5_compares 3 := ⟨Or.inl (gt5 198 rfl rfl), ok2_X5_compares, (gt5 199 rfl rfl)⟩
theorem k_ml_X5_122 : Cv RX5 122 M_X1_isThere 1 1 := ⟨Or.inl (gt5 225 rfl rfl), ok2_X1_isThere, (gt4 64 rfl rfl), (gt4 65 rfl rfl), TX1, 6, rfl⟩
theorem k_ml_X5_125 : Cv RX5 125 M_X5_flip 2 3 := ⟨Or.inl (gt5 212 rfl rfl), ok2_X5_flip, (gt5 214 rfl rfl), (gsel 34 rfl), TX5, 9, rfl⟩
theorem k_ml_X5_128 : Cv RX5 128 M_X5_slide 2 3 := ⟨Or.inl (gt5 217 rfl rfl), ok2_X5_slide, (gt5 219 rfl rfl), (gsel 35 rfl), TX5, 9, rfl⟩
theorem k_ml_X5_131 : Cv RX5 131 M_X1_flip 1 1 := ⟨Or.inl (gt5 216 rfl rfl), ok2_X1_flip, (gt4 98 rfl rfl), (gt4 99 rfl rfl), TX1, 6, rfl⟩
theorem k_ml_X5_134 : Cv RX5 134 M_X1_slide 1 1 := ⟨Or.inl (gt5 221 rfl rfl), ok2_X1_slide, (gt4 126 rfl rfl), (gt4 127 rfl rfl), TX1, 6, rfl⟩
theorem k_ml_X5_136 : Cv RX5 136 M_X1_partTrouble 2 1 := ⟨Or.inl (gt5 226 rfl rfl), ok2_X1_partTrouble, (gt4 149 rfl rfl), (gt4 150 rfl rfl), TX1, 6, rfl⟩
theorem k_ml_X5_139 : Cv RX5 139 M_X1_part 2 1 := ⟨Or.inl (gt5 227 rfl rfl), ok2_X1_part, (gt4 153 rfl rfl), (gt4 154 rfl rfl), TX1, 6, rfl⟩
theorem k_ml_X5_144 : Cv RX5 144 M_X5_draw 1 3 := ⟨Or.inl (gt5 206 rfl rfl), ok2_X5_draw, (gt5 208 rfl rfl), (gsel 33 rfl), TX5, 9, rfl⟩
theorem k_ml_X5_151 : Cs RX5 151 M_X11_leftBy 2 := ⟨Or.inr ⟨"ResidueCover", (gn5 211 rfl rfl)⟩, ok2_X11_leftBy, (gt3 133 rfl rfl)⟩
theorem k_ml_X6_49 : Nk RX6 49 := ⟨(gt2 224 rfl rfl), (gt2 225 rfl rfl), (gt1 13 rfl rfl), (gt2 226 rfl rfl)⟩
theorem k_ml_X6_55 : Xk RX6 55 := ⟨(gt2 227 rfl rfl), (gt2 228 rfl rfl), (gt1 13 rfl rfl), (gt2 229 rfl rfl)⟩
theorem k_ml_X6_58 : Cv RX6 58 M_X6_skipBlanks 1 4 := ⟨Or.inl (gt2 230 rfl rfl), ok2_X6_skipBlanks, (gt2 232 rfl rfl), (gsel 7 rfl), TX6, 11, rfl⟩
theorem k_ml_X6_62 : Cv RX6 62 M_X6_findToken 1 4 := ⟨Or.inl (gt2 234 rfl rfl), ok2_X6_findToken, (gt2 236 rfl rfl), (gsel 8 rfl), TX6, 11, rfl⟩
theorem k_ml_X6_65 : Cv RX6 65 M_X6_keep 3 4 := ⟨Or.inl (gt3 64 rfl rfl), ok2_X6_keep, (gt3 66 rfl rfl), (gsel 12 rfl), TX6, 11, rfl⟩
theorem k_ml_X6_69 : Cs RX6 69 M_X6_isLetter 1 := ⟨Or.inl (gt2 238 rfl rfl), ok2_X6_isLetter, (gt2 239 rfl rfl)⟩
theorem k_ml_X6_73 : Cv RX6 73 M_X6_findWord 1 4 := ⟨Or.inl (gt3 1 rfl rfl), ok2_X6_findWord, (gt3 3 rfl rfl), (gsel 9 rfl), TX6, 11, rfl⟩
theorem k_ml_X6_76 : Cs RX6 76 M_X6_isDigit 1 := ⟨Or.inl (gt3 68 rfl rfl), ok2_X6_isDigit, (gt3 69 rfl rfl)⟩
theorem k_ml_X6_79 : Cv RX6 79 M_X6_findNumber 1 4 := ⟨Or.inl (gt3 71 rfl rfl), ok2_X6_findNumber, (gt3 73 rfl rfl), (gsel 13 rfl), TX6, 11, rfl⟩
theorem k_ml_X6_82 : Cs RX6 82 M_X6_signOf 1 := ⟨Or.inl (gt3 77 rfl rfl), ok2_X6_signOf, (gt3 78 rfl rfl)⟩
theorem k_ml_X6_90 : Cv RX6 90 M_X6_wordSort 2 4 := ⟨Or.inl (gt3 7 rfl rfl), ok2_X6_wordSort, (gt3 9 rfl rfl), (gsel 10 rfl), TX6, 11, rfl⟩
theorem k_ml_X6_104 : Cv RX6 104 M_X6_isKeptWord 3 4 := ⟨Or.inl (gt3 22 rfl rfl), ok2_X6_isKeptWord, (gt3 24 rfl rfl), (gsel 11 rfl), TX6, 11, rfl⟩
theorem k_ml_X6_112 : Cv RX6 112 M_X6_blame 1 4 := ⟨Or.inl (gt3 106 rfl rfl), ok2_X6_blame, (gt3 92 rfl rfl), (gt3 93 rfl rfl), TX6, 11, rfl⟩
theorem k_ml_X6_116 : Cv RX6 116 M_X6_step 0 4 := ⟨Or.inl (gt3 108 rfl rfl), ok2_X6_step, (gt3 99 rfl rfl), (gt3 100 rfl rfl), TX6, 11, rfl⟩
theorem k_ml_X6_119 : Cs RX6 119 M_X11_within 3 := ⟨Or.inr ⟨"ResidueCover", (gn3 107 rfl rfl)⟩, ok2_X11_within, (gt2 137 rfl rfl)⟩
theorem k_ml_X7_28 : Cv RX7 28 M_X1_spanOf 1 1 := ⟨Or.inl (gt3 226 rfl rfl), ok2_X1_spanOf, (gt3 227 rfl rfl), (gt3 228 rfl rfl), TX1, 6, rfl⟩
theorem k_ml_X7_34 : Cs RX7 34 M_X11_wordsFor 1 := ⟨Or.inr ⟨"ResidueCover", (gn3 239 rfl rfl)⟩, ok2_X11_wordsFor, (gt4 0 rfl rfl)⟩
theorem k_ml_X7_37 : Cs RX7 37 M_J7_fill_d0a16 2 := ⟨Or.inl (gt4 2 rfl rfl), ok2_J7_fill_d0a16, (gt2 149 rfl rfl)⟩
theorem k_ml_X7_46 : Cs RX7 46 M_X11_isIn 2 := ⟨Or.inr ⟨"ResidueCover", (gn4 3 rfl rfl)⟩, ok2_X11_isIn, (gt3 231 rfl rfl)⟩
theorem k_ml_X7_57 : Cv RX7 57 M_X7_lay 2 5 := ⟨Or.inl (gt4 4 rfl rfl), ok2_X7_lay, (gt4 6 rfl rfl), (gsel 17 rfl), TX7, 5, rfl⟩
theorem k_ml_X7_61 : Cs RX7 61 M_X11_combOf 1 := ⟨Or.inr ⟨"ResidueCover", (gn4 8 rfl rfl)⟩, ok2_X11_combOf, (gt4 9 rfl rfl)⟩
theorem k_ml_X7_65 : Cs RX7 65 M_X11_leftBy 2 := ⟨Or.inr ⟨"ResidueCover", (gn4 12 rfl rfl)⟩, ok2_X11_leftBy, (gt3 133 rfl rfl)⟩
theorem k_ml_X7_71 : Cs RX7 71 M_X11_insideOf 2 := ⟨Or.inr ⟨"ResidueCover", (gn4 22 rfl rfl)⟩, ok2_X11_insideOf, (gt4 23 rfl rfl)⟩
theorem k_ml_X7_75 : Cv RX7 75 M_X7_openIn 1 5 := ⟨Or.inl (gt4 17 rfl rfl), ok2_X7_openIn, (gt4 19 rfl rfl), (gsel 18 rfl), TX7, 5, rfl⟩
theorem k_ml_X7_78 : Cs RX7 78 M_J13_bitCount_95d88 1 := ⟨Or.inl (gt4 26 rfl rfl), ok2_J13_bitCount_95d88, (gt4 27 rfl rfl)⟩
theorem k_ml_X7_84 : Cs RX7 84 M_X7_placeOfBit 2 := ⟨Or.inl (gt4 187 rfl rfl), ok2_X7_placeOfBit, (gt4 188 rfl rfl)⟩
theorem k_ml_X7_88 : Cs RX7 88 M_X11_wordOf 4 := ⟨Or.inr ⟨"ResidueCover", (gn4 219 rfl rfl)⟩, ok2_X11_wordOf, (gt4 220 rfl rfl)⟩
theorem k_ml_X7_92 : Cv RX7 92 M_X1_isOn 1 1 := ⟨Or.inl (gt4 230 rfl rfl), ok2_X1_isOn, (gt4 37 rfl rfl), (gt4 38 rfl rfl), TX1, 6, rfl⟩
theorem k_ml_X7_96 : Cv RX7 96 M_X7_countOnlyBy 2 5 := ⟨Or.inl (gt4 231 rfl rfl), ok2_X7_countOnlyBy, (gt4 216 rfl rfl), (gt4 217 rfl rfl), TX7, 5, rfl⟩
theorem k_ml_X7_100 : Cv RX7 100 M_X1_catchers 1 1 := ⟨Or.inl (gt5 4 rfl rfl), ok2_X1_catchers, (gt4 74 rfl rfl), (gt4 75 rfl rfl), TX1, 6, rfl⟩
theorem k_ml_X7_103 : Cs RX7 103 M_J6_bitCount_0f7a4 1 := ⟨Or.inl (gt5 11 rfl rfl), ok2_J6_bitCount_0f7a4, (gt4 49 rfl rfl)⟩
theorem k_ml_X7_107 : Cv RX7 107 M_X7_findFailing 2 5 := ⟨Or.inl (gt5 0 rfl rfl), ok2_X7_findFailing, (gt5 2 rfl rfl), (gsel 24 rfl), TX7, 5, rfl⟩
theorem k_ml_X7_114 : Cs RX7 114 M_X11_hasBit 2 := ⟨Or.inr ⟨"ResidueCover", (gn5 8 rfl rfl)⟩, ok2_X11_hasBit, (gt5 9 rfl rfl)⟩
theorem k_ml_X7_118 : Cs RX7 118 M_X11_putBit 2 := ⟨Or.inr ⟨"ResidueCover", (gn5 5 rfl rfl)⟩, ok2_X11_putBit, (gt5 6 rfl rfl)⟩
theorem k_ml_X7_122 : Cv RX7 122 M_X7_comesAgainBy 1 5 := ⟨Or.inl (gt5 45 rfl rfl), ok2_X7_comesAgainBy, (gt5 47 rfl rfl), (gsel 25 rfl), TX7, 5, rfl⟩
theorem k_ml_X8_9 : Cv RX8 9 M_X1_clear 0 1 := ⟨Or.inl (gt3 83 rfl rfl), ok2_X1_clear, (gt3 84 rfl rfl), (gt3 85 rfl rfl), TX1, 6, rfl⟩
theorem k_ml_X8_14 : Cv RX8 14 M_X6_token 0 4 := ⟨Or.inl (gt3 87 rfl rfl), ok2_X6_token, (gt3 88 rfl rfl), (gt3 89 rfl rfl), TX6, 11, rfl⟩
theorem k_ml_X8_20 : Cv RX8 20 M_X6_blame 1 4 := ⟨Or.inl (gt3 91 rfl rfl), ok2_X6_blame, (gt3 92 rfl rfl), (gt3 93 rfl rfl), TX6, 11, rfl⟩
theorem k_ml_X8_24 : Cs RX8 24 M_X8_takeOdds 2 := ⟨Or.inl (gt3 95 rfl rfl), ok2_X8_takeOdds, (gt3 96 rfl rfl)⟩
theorem k_ml_X8_34 : Cs RX8 34 M_X8_takeClass 2 := ⟨Or.inl (gt3 117 rfl rfl), ok2_X8_takeClass, (gt3 118 rfl rfl)⟩
theorem k_ml_X8_37 : Cv RX8 37 M_X6_step 0 4 := ⟨Or.inl (gt3 98 rfl rfl), ok2_X6_step, (gt3 99 rfl rfl), (gt3 100 rfl rfl), TX6, 11, rfl⟩
theorem k_ml_X8_40 : Cv RX8 40 M_X6_takeNumber 2 4 := ⟨Or.inl (gt3 102 rfl rfl), ok2_X6_takeNumber, (gt3 103 rfl rfl), (gt3 104 rfl rfl), TX6, 11, rfl⟩
theorem k_ml_X8_44 : Cv RX8 44 M_X6_takenNumber 0 4 := ⟨Or.inl (gt3 109 rfl rfl), ok2_X6_takenNumber, (gt3 110 rfl rfl), (gt3 111 rfl rfl), TX6, 11, rfl⟩
theorem k_ml_X8_50 : Cv RX8 50 M_X6_take 1 4 := ⟨Or.inl (gt3 113 rfl rfl), ok2_X6_take, (gt3 114 rfl rfl), (gt3 115 rfl rfl), TX6, 11, rfl⟩
theorem k_ml_X8_53 : Cv RX8 53 M_X6_value 0 4 := ⟨Or.inl (gt3 120 rfl rfl), ok2_X6_value, (gt3 121 rfl rfl), (gt3 122 rfl rfl), TX6, 11, rfl⟩
theorem k_ml_X8_57 : Cv RX8 57 M_X1_find 1 1 := ⟨Or.inl (gt3 124 rfl rfl), ok2_X1_find, (gt3 125 rfl rfl), (gt3 126 rfl rfl), TX1, 6, rfl⟩
theorem k_ml_X8_61 : Cv RX8 61 M_X1_append 4 1 := ⟨Or.inl (gt3 128 rfl rfl), ok2_X1_append, (gt3 129 rfl rfl), (gt3 130 rfl rfl), TX1, 6, rfl⟩
theorem k_ml_X9_22 : Cs RX9 22 M_J7_fill_d0a16 2 := ⟨Or.inl (gt2 148 rfl rfl), ok2_J7_fill_d0a16, (gt2 149 rfl rfl)⟩
theorem k_ml_X9_28 : Cv RX9 28 M_X9_holds 2 6 := ⟨Or.inl (gt2 179 rfl rfl), ok2_X9_holds, (gt2 172 rfl rfl), (gt2 173 rfl rfl), TX9, 3, rfl⟩
theorem k_ml_X9_34 : Cv RX9 34 M_X9_cut 1 6 := ⟨Or.inl (gt2 180 rfl rfl), ok2_X9_cut, (gt2 182 rfl rfl), (gsel 4 rfl), TX9, 3, rfl⟩
section GG
variable {V : Ev} {Γ : Cn} {M : Mi} {Z : Zt} {pc : Nat} {lv : List (Nat × Value)} {st : List Value} {σ : St}
theorem g_getI {index ci k a : Nat} {fks : List Nat} {ty : FieldType} {fin : Bool} (X : Cx V Γ M) (hF : Fl M.1.cls index ci k ty fin) (hs : shp[a]? = some (.inl (ci, fks))) (hc : fks[k]? = some 0) (hd : decode M.2.1 pc = .ok (.getfield index, 3)) (kk : Go V Γ M Z (pc + 3) lv (.int (σ.1 a k) :: st) σ) : Go V Γ M Z pc lv (.ref (V.2.2.1 + a) :: st) σ := g_get X hF hs hc hd kk
theorem g_getL {index ci k a : Nat} {fks : List Nat} {ty : FieldType} {fin : Bool} (X : Cx V Γ M) (hF : Fl M.1.cls index ci k ty fin) (hs : shp[a]? = some (.inl (ci, fks))) (hc : fks[k]? = some 1) (hd : decode M.2.1 pc = .ok (.getfield index, 3)) (kk : Go V Γ M Z (pc + 3) lv (.long (σ.2 a k) :: st) σ) : Go V Γ M Z pc lv (.ref (V.2.2.1 + a) :: st) σ := g_get X hF hs hc hd kk
theorem g_getR {index ci k a r : Nat} {fks : List Nat} {ty : FieldType} {fin : Bool} (X : Cx V Γ M) (hF : Fl M.1.cls index ci k ty fin) (hs : shp[a]? = some (.inl (ci, fks))) (hc : fks[k]? = some (r + 2)) (hd : decode M.2.1 pc = .ok (.getfield index, 3)) (kk : Go V Γ M Z (pc + 3) lv (.ref (V.2.2.1 + r) :: st) σ) : Go V Γ M Z pc lv (.ref (V.2.2.1 + a) :: st) σ := g_get X hF hs hc hd kk
end GG
