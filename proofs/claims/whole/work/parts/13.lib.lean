/-! PURE PART: rows on the plain functions' words -/
theorem chk_t {α : Type} {b : Bool} {k : Option α} (h : b = true) : chk b k = k := by unfold chk; rw [if_pos h]
theorem bnd_x {α β : Type} (x : α) (k : α → β) : bnd x k = k x := rfl
theorem bd_s {α β : Type} (a : α) (k : α → Option β) : bd (some a) k = k a := rfl
theorem bd2_s {α β γ : Type} (a : α) (b : β) (k : α → β → Option γ) : bd2 (some (a, b)) k = k a b := rfl
theorem bd3_s {α β γ δ : Type} (a : α) (b : β) (c : γ) (k : α → β → γ → Option δ) : bd3 (some (a, b, c)) k = k a b c := rfl
theorem lit (n : Nat) : (OfNat.ofNat n : Int32) = nI n := rfl
theorem litL (n : Nat) : (OfNat.ofNat n : Int64) = lN n := rfl
theorem le_nI {a b : Nat} (ha : a < 2147483648) (hb : b < 2147483648) : (nI a ≤ nI b) = (a ≤ b) := propext (nI_leI ha hb)
theorem lt_nI {a b : Nat} (ha : a < 2147483648) (hb : b < 2147483648) : (nI a < nI b) = (a < b) := propext (nI_ltI ha hb)
theorem eq_nI {a b : Nat} (ha : a < 2147483648) (hb : b < 2147483648) : (nI a = nI b) = (a = b) := propext (nI_eq ha hb)
theorem nlt0 {a : Nat} (ha : a < 2147483648) : (nI a < nI 0) = False := eq_false (nI_pos ha)
theorem tn_nI {a : Nat} (h : a < 2147483648) : tn (nI a) = a := nI_clamp h
theorem ix_nI {a n : Nat} (h : a < n) (hn : n ≤ 2147483648) : ix (nI a) n = true := by
  unfold ix
  rw [nI_toInt (by omega)]
  exact decide_eq_true ⟨by omega, by omega⟩
theorem nz_nI {a : Nat} (h0 : 0 < a) (h : a < 2147483648) : nzI (nI a) = true := decide_eq_true (nI_ne0 h0 h)
theorem nz_lN {a : Nat} (h0 : 0 < a) (h : a < 9223372036854775808) : nzL (lN a) = true := decide_eq_true (fun e => by
  have := (pk_lEQ (a := a) (b := 0) h (by decide)).mp e
  omega)
theorem rem_nI {a d : Nat} (ha : a < 2147483648) (h0 : 0 < d) (hd : d < 2147483648) : jrem (nI a) (nI d) = nI (a % d) := pk_rem ha h0 hd
theorem div_nI {a d : Nat} (ha : a < 2147483648) (h0 : 0 < d) (hd : d < 2147483648) : nI a / nI d = nI (a / d) := pk_div ha h0 hd
theorem sub_nI {a b : Nat} (h : b ≤ a) : nI a - nI b = nI (a - b) := pk_sub h
theorem and_nI (a b : Nat) : nI a &&& nI b = nI (a &&& b) := fa_and a b
theorem or_nI (a b : Nat) : nI a ||| nI b = nI (a ||| b) := fa_or a b
theorem xor_nI (a b : Nat) : nI a ^^^ nI b = nI (a ^^^ b) := fb_xorI a b
theorem ckz0 : ckz (nI 0) = true := rfl
theorem ckz1 : ckz (nI 1) = true := rfl
theorem ckz_if {c : Prop} [Decidable c] : ckz (if c then nI 1 else nI 0) = true := by
  by_cases h : c
  · rw [if_pos h]; rfl
  · rw [if_neg h]; rfl
theorem fuel {n : Nat} (h : n < 1099511627776) : n < FUEL := Nat.lt_of_lt_of_le h FUEL_ge
theorem shl_nI {a k : Nat} (hk : k < 32) (h : a * 2 ^ k < 4294967296) : nI a <<< (nI k &&& nI 31) = nI (a * 2 ^ k) := by
  refine pk_shlN _ k ?_ h
  have := s_l k hk
  exact this
theorem shr_nI {a k : Nat} (hk : k < 32) (h : a < 2147483648) : nI a >>> (nI k &&& nI 31) = nI (a / 2 ^ k) := by
  refine pk_shrN h _ k ?_
  exact s_l k hk
/-- loops that count: the state at k, the exit at hi -/
theorem iter_step {S E : Type} {body : S → Option (S ⊕ E)} {s s' : S} {n : Nat} (h : body s = some (.inl s')) : iter body (n + 1) s = iter body n s' := by
  show (match body s with | none => none | some (.inl s') => iter body n s' | some (.inr e) => some e) = _
  rw [h]
theorem iter_exit {S E : Type} {body : S → Option (S ⊕ E)} {s : S} {e : E} {n : Nat} (h : body s = some (.inr e)) : iter body (n + 1) s = some e := by
  show (match body s with | none => none | some (.inl s') => iter body n s' | some (.inr e) => some e) = _
  rw [h]
theorem iter_for {S E : Type} {body : S → Option (S ⊕ E)} (st : Nat → S) {lo hi n : Nat} {e : E} (hle : lo ≤ hi) (hn : hi - lo < n) (hb : ∀ k, lo ≤ k → k < hi → body (st k) = some (.inl (st (k + 1)))) (he : body (st hi) = some (.inr e)) : iter body n (st lo) = some e := by
  obtain ⟨m, hm⟩ : ∃ m, hi - lo = m := ⟨_, rfl⟩
  induction m generalizing lo n with
  | zero =>
    have : lo = hi := by omega
    subst this
    obtain ⟨n', rfl⟩ : ∃ n', n = n' + 1 := ⟨n - 1, by omega⟩
    exact iter_exit he
  | succ m ih =>
    obtain ⟨n', rfl⟩ : ∃ n', n = n' + 1 := ⟨n - 1, by omega⟩
    rw [iter_step (hb lo (Nat.le_refl _) (by omega))]
    exact ih (by omega) (by omega) (fun k h1 h2 => hb k (by omega) h2) (by omega)
/-- loops with a measure that falls -/
theorem iter_inv {S E : Type} {body : S → Option (S ⊕ E)} (I : S → Prop) (P : E → Prop) (μ : S → Nat) (hs : ∀ s, I s → (∃ s', body s = some (.inl s') ∧ I s' ∧ μ s' < μ s) ∨ ∃ e, body s = some (.inr e) ∧ P e) : ∀ (n : Nat) (s : S), I s → μ s < n → ∃ e, iter body n s = some e ∧ P e := by
  intro n
  induction n with
  | zero => intro s _ h; omega
  | succ n ih =>
    intro s hI hμ
    rcases hs s hI with ⟨s', h1, h2, h3⟩ | ⟨e, h1, h2⟩
    · rw [iter_step h1]
      exact ih s' h2 (by omega)
    · exact ⟨e, iter_exit h1, h2⟩
/-! states: reads behind writes; what stays -/
theorem wI_1 (σ : St) (a i : Nat) (v : Int32) (b j : Nat) : (wI σ a i v).1 b j = if b = a then (if j = i then v else σ.1 b j) else σ.1 b j := rfl
theorem wI_2 (σ : St) (a i : Nat) (v : Int32) : (wI σ a i v).2 = σ.2 := rfl
theorem wL_1 (σ : St) (a i : Nat) (v : Int64) : (wL σ a i v).1 = σ.1 := rfl
theorem wL_2 (σ : St) (a i : Nat) (v : Int64) (b j : Nat) : (wL σ a i v).2 b j = if b = a then (if j = i then v else σ.2 b j) else σ.2 b j := rfl
theorem rI_1 (σ : St) (a : Nat) (g : Nat → Int32) (b j : Nat) : (rI σ a g).1 b j = if b = a then g j else σ.1 b j := rfl
theorem rI_2 (σ : St) (a : Nat) (g : Nat → Int32) : (rI σ a g).2 = σ.2 := rfl
theorem rL_1 (σ : St) (a : Nat) (g : Nat → Int64) : (rL σ a g).1 = σ.1 := rfl
theorem rL_2 (σ : St) (a : Nat) (g : Nat → Int64) (b j : Nat) : (rL σ a g).2 b j = if b = a then g j else σ.2 b j := rfl
/-- outside of A no cell has changed -/
def Fr (A : Nat → Prop) (σ σ' : St) : Prop := ∀ b, ¬ A b → σ'.1 b = σ.1 b ∧ σ'.2 b = σ.2 b
theorem Fr.rf {A : Nat → Prop} {σ : St} : Fr A σ σ := fun _ _ => ⟨rfl, rfl⟩
theorem Fr.tr {A : Nat → Prop} {σ σ1 σ2 : St} (h1 : Fr A σ σ1) (h2 : Fr A σ1 σ2) : Fr A σ σ2 := fun b hb => ⟨(h2 b hb).1.trans (h1 b hb).1, (h2 b hb).2.trans (h1 b hb).2⟩
theorem Fr.mono {A B : Nat → Prop} {σ σ1 : St} (h : Fr A σ σ1) (hAB : ∀ b, A b → B b) : Fr B σ σ1 := fun b hb => h b (fun q => hb (hAB b q))
theorem Fr.wI {A : Nat → Prop} {σ σ1 : St} (h : Fr A σ σ1) {a i : Nat} {v : Int32} (ha : A a) : Fr A σ (wI σ1 a i v) := fun b hb => ⟨(u2_off _ _ _ (fun (e : b = a) => hb (by rw [e]; exact ha))).trans (h b hb).1, (h b hb).2⟩
theorem Fr.wL {A : Nat → Prop} {σ σ1 : St} (h : Fr A σ σ1) {a i : Nat} {v : Int64} (ha : A a) : Fr A σ (wL σ1 a i v) := fun b hb => ⟨(h b hb).1, (u2_off _ _ _ (fun (e : b = a) => hb (by rw [e]; exact ha))).trans (h b hb).2⟩
theorem Fr.rI {A : Nat → Prop} {σ σ1 : St} (h : Fr A σ σ1) {a : Nat} {g : Nat → Int32} (ha : A a) : Fr A σ (rI σ1 a g) := fun b hb => ⟨(ur_off _ _ (fun (e : b = a) => hb (by rw [e]; exact ha))).trans (h b hb).1, (h b hb).2⟩
theorem Fr.rL {A : Nat → Prop} {σ σ1 : St} (h : Fr A σ σ1) {a : Nat} {g : Nat → Int64} (ha : A a) : Fr A σ (rL σ1 a g) := fun b hb => ⟨(h b hb).1, (ur_off _ _ (fun (e : b = a) => hb (by rw [e]; exact ha))).trans (h b hb).2⟩
theorem Fr.i {A : Nat → Prop} {σ σ1 : St} (h : Fr A σ σ1) {b : Nat} (hb : ¬ A b) (j : Nat) : σ1.1 b j = σ.1 b j := by rw [(h b hb).1]
theorem Fr.l {A : Nat → Prop} {σ σ1 : St} (h : Fr A σ σ1) {b : Nat} (hb : ¬ A b) (j : Nat) : σ1.2 b j = σ.2 b j := by rw [(h b hb).2]
/-! sets of small numbers as bits -/
def bset (p : Nat → Bool) : Nat → Nat
  | 0 => 0
  | k + 1 => if p k then bset p k + 2 ^ k else bset p k
theorem bset_lt (p : Nat → Bool) : ∀ n, bset p n < 2 ^ n
  | 0 => Nat.lt_succ_self 0
  | n + 1 => by
    have := bset_lt p n
    have h2 : 2 ^ (n + 1) = 2 ^ n + 2 ^ n := by rw [Nat.pow_succ]; omega
    show (if p n then bset p n + 2 ^ n else bset p n) < _
    split <;> omega
theorem bset_or (p : Nat → Bool) (n : Nat) : bset p n ||| 2 ^ n = bset p n + 2 ^ n := by
  have h := bset_lt p n
  have := Nat.two_pow_add_eq_or_of_lt h 1
  rw [Nat.mul_one] at this
  rw [Nat.or_comm, ← this, Nat.add_comm]
theorem bset_bit (p : Nat → Bool) : ∀ n i, (bset p n).testBit i = (decide (i < n) && p i)
  | 0, i => by simp [bset]
  | n + 1, i => by
    have ih := bset_bit p n i
    have hl := bset_lt p n
    show (if p n then bset p n + 2 ^ n else bset p n).testBit i = _
    by_cases hp : p n = true
    · rw [if_pos hp, ← bset_or, fb_bit_set, ih]
      by_cases e : i = n
      · subst e; simp [hp]
      · have e1 : decide (i < n + 1) = decide (i < n) := by
          apply decide_eq_decide.mpr; omega
        simp [e, e1]
    · rw [if_neg hp, ih]
      by_cases e : i = n
      · subst e; simp [hp]
      · have e1 : decide (i < n + 1) = decide (i < n) := by
          apply decide_eq_decide.mpr; omega
        rw [e1]
theorem bset_cong {p q : Nat → Bool} : ∀ {n : Nat}, (∀ k, k < n → p k = q k) → bset p n = bset q n
  | 0, _ => rfl
  | n + 1, h => by
    show (if p n then _ else _) = (if q n then _ else _)
    rw [h n (by omega), bset_cong (n := n) (fun k hk => h k (by omega))]
theorem bset_self {x n : Nat} (h : x < 2 ^ n) : bset (fun k => x.testBit k) n = x := by
  apply Nat.eq_of_testBit_eq
  intro i
  rw [bset_bit]
  by_cases hi : i < n
  · simp [hi]
  · have : x.testBit i = false := Nat.testBit_lt_two_pow (Nat.lt_of_lt_of_le h (Nat.pow_le_pow_right (by decide) (by omega)))
    simp [hi, this]
