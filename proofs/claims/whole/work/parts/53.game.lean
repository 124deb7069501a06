/-! games -/
def gvl (c : Nat) (rs md : Nat → Nat) (s : Nat) : Nat := gpn c s rs md (spn md s c) * 5040 / spn md s c
theorem gvl_le {c : Nat} {rs md : Nat → Nat} {s : Nat} : gvl c rs md s ≤ 5040 := by
  unfold gvl
  have h := gpn_le c s rs md (spn md s c)
  generalize gpn c s rs md (spn md s c) = G at h
  generalize spn md s c = S at h
  rcases Nat.eq_zero_or_pos S with z | z
  · rw [z, Nat.div_zero]; omega
  · apply Nat.div_le_of_le_mul
    exact Nat.mul_le_mul_right 5040 h
def acf (op : Nat → Nat → Nat) (md : Nat → Nat) (c : Nat) (f : Nat → Nat) (s : Nat) : Nat → Nat
  | 0 => f s
  | k + 1 => if spn md (s ^^^ 2 ^ k) c = 0 then acf op md c f s k else op (acf op md c f s k) (f (s ^^^ 2 ^ k))
theorem acf_s (op : Nat → Nat → Nat) (md : Nat → Nat) (c : Nat) (f : Nat → Nat) (s k : Nat) : acf op md c f s (k + 1) = if spn md (s ^^^ 2 ^ k) c = 0 then acf op md c f s k else op (acf op md c f s k) (f (s ^^^ 2 ^ k)) := rfl
theorem acf_le {op : Nat → Nat → Nat} (ho : ∀ x y, op x y ≤ x ∨ op x y ≤ y) {md : Nat → Nat} {c : Nat} {f : Nat → Nat} (hf : ∀ s, f s ≤ 5040) (s : Nat) : ∀ k, acf op md c f s k ≤ 5040
  | 0 => hf s
  | k + 1 => by
    rw [acf_s]
    have ih := acf_le ho (md := md) (c := c) hf s k
    have h2 := hf (s ^^^ 2 ^ k)
    split
    · exact ih
    · rcases ho (acf op md c f s k) (f (s ^^^ 2 ^ k)) with q | q <;> omega
theorem mn_o (x y : Nat) : min x y ≤ x ∨ min x y ≤ y := by omega
theorem mx_o (x y : Nat) : max x y ≤ x ∨ max x y ≤ y := by omega
theorem jmin_nI {x y : Nat} (hx : x < 2147483648) (hy : y < 2147483648) : jmin (nI x) (nI y) = nI (min x y) := by
  unfold jmin
  by_cases h : y < x
  · rw [if_pos (by rw [lt_nI hy hx]; exact h), Nat.min_eq_right (by omega)]
  · rw [if_neg (by rw [lt_nI hy hx]; exact h), Nat.min_eq_left (by omega)]
def bop (b : Bool) : Nat → Nat → Nat := fun x y => if b then max x y else min x y
theorem bop_o (b : Bool) (x y : Nat) : bop b x y ≤ x ∨ bop b x y ≤ y := by
  unfold bop
  cases b
  · exact mn_o x y
  · exact mx_o x y
section GAM
variable {c od on : Nat} {rs md nm : Nat → Nat}
theorem worth_0 {σ : St} {n s : Nat} {p : Int32} (h : CV σ 7 c od on rs md nm) (w : WF c od on rs md nm) (hs : s < 2 ^ c) (h0 : ¬ spn md s c = 0) : ∃ σ', Ga_worth (n + 1) σ 7 (nI s) 0 p = some (nI (gvl c rs md s), σ') ∧ Fp Asv σ σ' := by
  have hp := p2_12 w.1
  obtain ⟨p1, p2⟩ := spn_pos h0
  obtain ⟨τ, a1, a2⟩ := fillC_n h (by omega) w (s := s) (by omega) h0
  have F : Fp Asv σ τ := (fp_Si_fill (A := Asv) (Fp.rf (σ := σ)) (by unfold Asv; omega) (by unfold Asv; omega) (fun i => by unfold Asv; omega) (fun i => by unfold Asv; omega) _ a1).2
  refine ⟨τ, ?_, F⟩
  have hg := gpn_le c s rs md (spn md s c)
  have hm : gpn c s rs md (spn md s c) * 5040 ≤ 5040 * 5040 := Nat.mul_le_mul_right _ (by omega)
  show Ga_worth_F (Ga_worth n) σ 7 (nI s) 0 p = _
  unfold Ga_worth_F
  rw [if_neg (by decide), a1, bd2_s, if_neg (by decide), gaps_c a2 p2, bd_s, show (5040 : Int32) = nI 5040 from rfl, pk_mul, a2.1, partBy_n (by omega) (by omega) (by omega), bd_s]
  rfl
theorem worth_step {rec : St → Nat → Int32 → Int32 → Int32 → Option (Int32 × St)} {f : Nat → Nat} {t : Nat} {b : Bool} (w : WF c od on rs md nm) (hf : ∀ s, f s ≤ 5040) (ht : t < 100) (hrec : ∀ (σ : St) (s : Nat), CV σ 7 c od on rs md nm → s < 2 ^ c → ¬ spn md s c = 0 → ∃ σ', rec σ 7 (nI s) (nI t) (if b then 0 else 1) = some (nI (f s), σ') ∧ Fp Asv σ σ') {σ : St} {s : Nat} (h : CV σ 7 c od on rs md nm) (hs : s < 2 ^ c) (h0 : ¬ spn md s c = 0) : ∃ σ', Ga_worth_F rec σ 7 (nI s) (nI (t + 1)) (if b then 1 else 0) = some (nI (acf (bop b) md c f s c), σ') ∧ Fp Asv σ σ' := by
  have hc := w.1
  have hp := p2_12 w.1
  obtain ⟨τ, a1, a2⟩ := hrec σ s h hs h0
  obtain ⟨⟨v, ω⟩, c1, c2, c3⟩ := iter_cnt (body := fun u : (Int32 × Int32 × St) => Ga_worth_L58 rec 7 (nI s) (nI (t + 1)) (if b then 1 else 0) u.2.2 u.1 u.2.1) (fun k u => u.1 = nI (acf (bop b) md c f s k) ∧ u.2.1 = nI k ∧ Fp Asv σ u.2.2) (fun e => e.1 = nI (acf (bop b) md c f s c) ∧ Fp Asv σ e.2) (lo := 0) (hi := c) (n := FUEL) (Nat.zero_le _) (fuel (by omega)) (by
    rintro k ⟨v, k', u⟩ _ hk ⟨rfl, rfl, F⟩
    have F' : Fp Asv σ u := F
    have hu : CV u 7 c od on rs md nm := h.keep (F'.sm (fun b i q1 q2 q => by unfold Asv at q; omega))
    have hx : s ^^^ 2 ^ k < 2 ^ c := Nat.xor_lt_two_pow hs (Nat.pow_lt_pow_right (by decide) hk)
    have l1 := acf_le (op := bop b) (bop_o b) (md := md) (c := c) hf s k
    have l2 := hf (s ^^^ 2 ^ k)
    have hsp := spn_le md (s ^^^ 2 ^ k) c
    by_cases z : spn md (s ^^^ 2 ^ k) c = 0
    · refine ⟨(nI (acf (bop b) md c f s (k + 1)), nI (k + 1), u), ?_, rfl, rfl, F⟩
      show Ga_worth_L58 rec 7 (nI s) (nI (t + 1)) (if b then 1 else 0) u (nI (acf (bop b) md c f s k)) (nI k) = _
      unfold Ga_worth_L58
      rw [hu.1, if_neg (by rw [le_nI (by omega) (by omega)]; omega), shl1 (by omega), xor_nI, bnd_x, spanOf_n hu w (by omega), bd_s, z, if_pos (show nI 0 = 0 from rfl), bnd_x, nI_1, acf_s, if_pos z]
    · obtain ⟨υ, d1, d2⟩ := hrec u (s ^^^ 2 ^ k) hu hx z
      refine ⟨(nI (acf (bop b) md c f s (k + 1)), nI (k + 1), υ), ?_, rfl, rfl, F'.tr d2⟩
      show Ga_worth_L58 rec 7 (nI s) (nI (t + 1)) (if b then 1 else 0) u (nI (acf (bop b) md c f s k)) (nI k) = _
      unfold Ga_worth_L58 Ga_worth_J101_58
      rw [hu.1, if_neg (by rw [le_nI (by omega) (by omega)]; omega), shl1 (by omega), xor_nI, bnd_x, spanOf_n hu w (by omega), bd_s, if_neg (by rw [show (0 : Int32) = nI 0 from rfl, eq_nI (by omega) (by omega)]; exact z), sub1, acf_s, if_neg z]
      cases b
      · have d1' : rec u 7 (nI (s ^^^ 2 ^ k)) (nI t) 1 = some (nI (f (s ^^^ 2 ^ k)), υ) := d1
        rw [if_pos (show (if false = true then (1 : Int32) else 0) = 0 from rfl), d1', bd2_s, if_pos (show (if false = true then (1 : Int32) else 0) = 0 from rfl), jmin_nI (by omega) (by omega), bnd_x, bnd_x, nI_1]
        rfl
      · have d1' : rec u 7 (nI (s ^^^ 2 ^ k)) (nI t) 0 = some (nI (f (s ^^^ 2 ^ k)), υ) := d1
        rw [if_neg (by decide), d1', bd2_s, if_neg (by decide), jmax_nI (by omega) (by omega), bnd_x, bnd_x, nI_1]
        rfl) (by
    rintro ⟨v, k', u⟩ ⟨rfl, rfl, F⟩
    have F' : Fp Asv σ u := F
    refine ⟨(nI (acf (bop b) md c f s c), u), ?_, rfl, F⟩
    show Ga_worth_L58 rec 7 (nI s) (nI (t + 1)) (if b then 1 else 0) u (nI (acf (bop b) md c f s c)) (nI c) = _
    unfold Ga_worth_L58
    rw [(F'.i (by unfold Asv; omega)).trans h.1, if_pos (by rw [le_nI (by omega) (by omega)]; omega)]) (s := (nI (f s), 0, τ)) ⟨rfl, rfl, a2⟩
  refine ⟨ω, ?_, c3⟩
  have c2' : v = nI (acf (bop b) md c f s c) := c2
  rw [c2'] at c1
  unfold Ga_worth_F
  rw [if_pos (show (1 : Int32) ≤ nI (t + 1) by rw [show (1 : Int32) = nI 1 from rfl, le_nI (by omega) (by omega)]; omega), sub1]
  cases b
  · have a1' : rec σ 7 (nI s) (nI t) 1 = some (nI (f s), τ) := a1
    rw [if_pos (show (if false = true then (1 : Int32) else 0) = 0 from rfl), a1', bd2_s, c1, bd2_s]
  · have a1' : rec σ 7 (nI s) (nI t) 0 = some (nI (f s), τ) := a1
    rw [if_neg (by decide), a1', bd2_s, c1, bd2_s]
/-- a turn of the second, of the first alone, of both -/
def gv1 (c : Nat) (rs md : Nat → Nat) (s : Nat) : Nat := acf (bop false) md c (gvl c rs md) s c
theorem gv1_le {c : Nat} {rs md : Nat → Nat} {s : Nat} : gv1 c rs md s ≤ 5040 := acf_le (bop_o false) (fun _ => gvl_le) s c
theorem worth_m {σ : St} {n s : Nat} (h : CV σ 7 c od on rs md nm) (w : WF c od on rs md nm) (hs : s < 2 ^ c) (h0 : ¬ spn md s c = 0) : ∃ σ', Ga_worth (n + 2) σ 7 (nI s) 1 0 = some (nI (gv1 c rs md s), σ') ∧ Fp Asv σ σ' :=
  worth_step (rec := Ga_worth (n + 1)) (t := 0) (b := false) w (fun _ => gvl_le) (by omega) (fun σ s h hs h0 => worth_0 h w hs h0) h hs h0
theorem worth_x {σ : St} {n s : Nat} (h : CV σ 7 c od on rs md nm) (w : WF c od on rs md nm) (hs : s < 2 ^ c) (h0 : ¬ spn md s c = 0) : ∃ σ', Ga_worth (n + 2) σ 7 (nI s) 1 1 = some (nI (acf (bop true) md c (gvl c rs md) s c), σ') ∧ Fp Asv σ σ' :=
  worth_step (rec := Ga_worth (n + 1)) (t := 0) (b := true) w (fun _ => gvl_le) (by omega) (fun σ s h hs h0 => worth_0 h w hs h0) h hs h0
theorem worth_2 {σ : St} {n s : Nat} (h : CV σ 7 c od on rs md nm) (w : WF c od on rs md nm) (hs : s < 2 ^ c) (h0 : ¬ spn md s c = 0) : ∃ σ', Ga_worth (n + 3) σ 7 (nI s) 2 1 = some (nI (acf (bop true) md c (gv1 c rs md) s c), σ') ∧ Fp Asv σ σ' :=
  worth_step (rec := Ga_worth (n + 2)) (t := 1) (b := true) w (fun _ => gv1_le) (by omega) (fun σ s h hs h0 => worth_m h w hs h0) h hs h0
/-! the reference's -/
theorem worthM_n {σ : St} {s : Nat} (h : MV σ 0 0 c od on rs md nm) (w : WF c od on rs md nm) (hs : s < 2 ^ c) (h0 : ¬ spn md s c = 0) : ∃ σ', Mo_worthOf σ (nI s) = some (nI (gvl c rs md s), σ') ∧ Fp Aly σ σ' := by
  have hp := p2_12 w.1
  obtain ⟨p1, p2⟩ := spn_pos h0
  obtain ⟨τ, a1, a2, a3⟩ := lays_n h w (s := s) (by omega) h0
  have F : Fp Aly σ τ := (fp_Mo_lays (A := Aly) (Fp.rf (σ := σ)) (fun i => by unfold Aly; omega) (by unfold Aly; omega) _ a1).2
  have hg := gpn_le c s rs md (spn md s c)
  have hm : gpn c s rs md (spn md s c) * 5040 ≤ 5040 * 5040 := Nat.mul_le_mul_right _ (by omega)
  refine ⟨τ, ?_, F⟩
  unfold Mo_worthOf
  rw [a1, bd2_s, if_neg (by decide), gaps_m w.1 p2 a2 a3, bd_s, a2, nz_nI (by omega) (by omega), chk_true, show (5040 : Int32) = nI 5040 from rfl, pk_mul, div_nI (by omega) (by omega) (by omega)]
  rfl
theorem worthM_0 {σ : St} {s : Nat} (h : MV σ 0 0 c od on rs md nm) (w : WF c od on rs md nm) (hs : s < 2 ^ c) (h0 : spn md s c = 0) : ∃ σ', Mo_worthOf σ (nI s) = some (-1, σ') ∧ Fp Aly σ σ' := by
  have hp := p2_12 w.1
  refine ⟨_, ?_, (Fp.rf (σ := σ)).wI (a := 92) (i := 23) (v := -1) (Or.inl ⟨rfl, rfl⟩)⟩
  unfold Mo_worthOf
  rw [lays_0 h w (by omega) h0, bd2_s, if_pos rfl]
/-- a choice's set, its value (0: it can't be) -/
def aft (c s k : Nat) : Nat := if k = c then s else s ^^^ 2 ^ k
def hvl (md : Nat → Nat) (c : Nat) (f : Nat → Nat) (s k : Nat) : Nat := if spn md (aft c s k) c = 0 then 0 else f (aft c s k) + 1
theorem afterBy_n {σ : St} {s k : Nat} (h : MV σ 0 0 c od on rs md nm) (hc : c ≤ 12) (hk : k ≤ c) : Mo_afterBy σ (nI s) (nI k) = some (nI (aft c s k)) := by
  unfold Mo_afterBy aft
  rw [ix00, chk_true, tn00, h.c0]
  by_cases e : k = c
  · rw [if_pos (by rw [e]), if_pos e]
  · rw [if_neg (by rw [eq_nI (by omega) (by omega)]; omega), shl1 (by omega), xor_nI, if_neg e]
theorem aft_lt {s k : Nat} (hs : s < 2 ^ c) (hk : k ≤ c) : aft c s k < 2 ^ c := by
  unfold aft
  by_cases e : k = c
  · rw [if_pos e]; exact hs
  · rw [if_neg e]; exact Nat.xor_lt_two_pow hs (Nat.pow_lt_pow_right (by decide) (by omega))
/-- a number, 0 for none, as NONE or itself -/
def em (m : Nat) : Int32 := nI m - 1
theorem em_0 : em 0 = -1 := by decide
theorem em_s (v : Nat) : em (v + 1) = nI v := sub1
theorem em_i {m : Nat} (h : m < 1000000) : (em m).toInt = (m : Int) - 1 := pk_sub_toInt (a := m) (b := 1) (by omega) (by omega)
theorem em_lt {a b : Nat} (ha : a < 1000000) (hb : b < 1000000) : (em a < em b) = (a < b) := by
  apply propext
  rw [Int32.lt_iff_toInt_lt, em_i ha, em_i hb]
  omega
theorem em_le {a b : Nat} (ha : a < 1000000) (hb : b < 1000000) : (em a ≤ em b) = (a ≤ b) := by
  apply propext
  rw [Int32.le_iff_toInt_le, em_i ha, em_i hb]
  omega
theorem em_m1 {a : Nat} (ha : a < 1000000) : (em a = -1) = (a = 0) := by
  apply propext
  rw [← Int32.toInt_inj, em_i ha, show (-1 : Int32).toInt = -1 from rfl]
  omega
def ls (h : Nat → Nat) : Nat → Nat
  | 0 => 0
  | k + 1 => if h k = 0 then ls h k else if ls h k = 0 then h k else if ls h k ≤ h k then ls h k else h k
theorem ls_s (h : Nat → Nat) (k : Nat) : ls h (k + 1) = if h k = 0 then ls h k else if ls h k = 0 then h k else if ls h k ≤ h k then ls h k else h k := rfl
theorem ls_b {h : Nat → Nat} {b : Nat} (hb : ∀ k, h k ≤ b) : ∀ n, ls h n ≤ b
  | 0 => Nat.zero_le _
  | n + 1 => by
    have := ls_b hb n
    have := hb n
    rw [ls_s]
    split
    · omega
    · split
      · omega
      · split <;> omega
theorem hvl_b {f : Nat → Nat} (hf : ∀ s, f s ≤ 5040) (s k : Nat) : hvl md c f s k ≤ 5041 := by
  unfold hvl
  have := hf (aft c s k)
  split <;> omega
theorem hvl_k {f : Nat → Nat} {s k : Nat} (hk : k < c) : hvl md c f s k = if spn md (s ^^^ 2 ^ k) c = 0 then 0 else f (s ^^^ 2 ^ k) + 1 := by
  have e : aft c s k = s ^^^ 2 ^ k := if_neg (by omega)
  unfold hvl
  rw [e]
theorem hvl_c {f : Nat → Nat} {s : Nat} (h0 : ¬ spn md s c = 0) : hvl md c f s c = f s + 1 := by
  unfold hvl aft
  rw [if_pos rfl, if_neg h0]
theorem ls_acf {f : Nat → Nat} {s : Nat} : ∀ k, k ≤ c → (if ls (hvl md c f s) k = 0 then f s + 1 else min (ls (hvl md c f s) k) (f s + 1)) = acf (bop false) md c f s k + 1
  | 0, _ => rfl
  | k + 1, hk => by
    have ih := ls_acf (f := f) (s := s) k (by omega)
    rw [ls_s, acf_s, hvl_k (by omega)]
    by_cases z : spn md (s ^^^ 2 ^ k) c = 0
    · rw [if_pos z, if_pos z, if_pos rfl]; exact ih
    · rw [if_neg z, if_neg z, if_neg (show ¬ f (s ^^^ 2 ^ k) + 1 = 0 by omega), show bop false (acf (bop false) md c f s k) (f (s ^^^ 2 ^ k)) = min (acf (bop false) md c f s k) (f (s ^^^ 2 ^ k)) from rfl]
      generalize ls (hvl md c f s) k = L at ih
      generalize acf (bop false) md c f s k = A at ih
      generalize f (s ^^^ 2 ^ k) = X
      generalize f s = Y at ih
      by_cases e : L = 0
      · rw [if_pos e] at ih
        rw [if_pos e, if_neg (by omega)]; omega
      · rw [if_neg e] at ih
        rw [if_neg e]
        by_cases q : L ≤ X + 1
        · rw [if_pos q, if_neg e]; omega
        · rw [if_neg q, if_neg (by omega)]; omega
theorem ls_fin {f : Nat → Nat} {s : Nat} (h0 : ¬ spn md s c = 0) : ls (hvl md c f s) (c + 1) = acf (bop false) md c f s c + 1 := by
  have ih := ls_acf (md := md) (c := c) (f := f) (s := s) c (Nat.le_refl _)
  rw [ls_s, hvl_c h0]
  generalize ls (hvl md c f s) c = L at ih
  generalize acf (bop false) md c f s c = A at ih
  generalize f s = Y at ih
  rw [if_neg (by omega)]
  by_cases e : L = 0
  · rw [if_pos e] at ih ⊢; exact ih
  · rw [if_neg e] at ih ⊢
    by_cases q : L ≤ Y + 1
    · rw [if_pos q]; omega
    · rw [if_neg q]; omega
theorem mx_acf {f : Nat → Nat} {s : Nat} : ∀ k, k ≤ c → max (mx (hvl md c f s) k) (f s + 1) = acf (bop true) md c f s k + 1
  | 0, _ => Nat.max_eq_right (Nat.zero_le _)
  | k + 1, hk => by
    have ih := mx_acf (f := f) (s := s) k (by omega)
    rw [mx_s, acf_s, hvl_k (by omega)]
    by_cases z : spn md (s ^^^ 2 ^ k) c = 0
    · rw [if_pos z, if_pos z, Nat.max_zero]; exact ih
    · rw [if_neg z, if_neg z, show bop true (acf (bop true) md c f s k) (f (s ^^^ 2 ^ k)) = max (acf (bop true) md c f s k) (f (s ^^^ 2 ^ k)) from rfl]
      omega
theorem mx_fin {f : Nat → Nat} {s : Nat} (h0 : ¬ spn md s c = 0) : mx (hvl md c f s) (c + 1) = acf (bop true) md c f s c + 1 := by
  rw [mx_s, hvl_c h0]
  exact mx_acf c (Nat.le_refl _)
theorem MV.ly {σ σ1 : St} (h : MV σ 0 0 c od on rs md nm) {A : Nat → Nat → Prop} (F : Fp A σ σ1) (hA : ∀ a i, A a i → a = 92 ∨ a = 101) : MV σ1 0 0 c od on rs md nm := h.keep (F.sm (fun b i q1 q2 q => by have := hA b i q; omega))
theorem Aly.h (a i : Nat) (h : Aly a i) : a = 92 ∨ a = 101 := by unfold Aly at h; omega
theorem leastM_n {σ : St} {s : Nat} (h : MV σ 0 0 c od on rs md nm) (w : WF c od on rs md nm) (hs : s < 2 ^ c) (h0 : ¬ spn md s c = 0) : ∃ σ', Mo_leastBy σ (nI s) = some (nI (gv1 c rs md s), σ') ∧ Fp Aly σ σ' := by
  have hc := w.1
  have hb := hvl_b (md := md) (c := c) (f := gvl c rs md) (fun _ => gvl_le) s
  obtain ⟨⟨v, ω⟩, c1, c2, c3⟩ := iter_cnt (body := fun u : (Int32 × Int32 × St) => Mo_leastBy_L4 (nI s) u.2.2 u.1 u.2.1) (fun k u => u.1 = em (ls (hvl md c (gvl c rs md) s) k) ∧ u.2.1 = nI k ∧ Fp Aly σ u.2.2) (fun e => e.1 = em (ls (hvl md c (gvl c rs md) s) (c + 1)) ∧ Fp Aly σ e.2) (lo := 0) (hi := c + 1) (n := FUEL) (Nat.zero_le _) (fuel (by omega)) (by
    rintro k ⟨v, k', u⟩ _ hk ⟨rfl, rfl, F⟩
    have F' : Fp Aly σ u := F
    have hu : MV u 0 0 c od on rs md nm := h.ly F' Aly.h
    have hx := aft_lt (k := k) hs (by omega)
    have l1 := ls_b hb k
    by_cases z : spn md (aft c s k) c = 0
    · obtain ⟨υ, d1, d2⟩ := worthM_0 hu w hx z
      refine ⟨(em (ls (hvl md c (gvl c rs md) s) (k + 1)), nI (k + 1), υ), ?_, rfl, rfl, F'.tr d2⟩
      show Mo_leastBy_L4 (nI s) u (em (ls (hvl md c (gvl c rs md) s) k)) (nI k) = _
      unfold Mo_leastBy_L4
      rw [ix00, chk_true, tn00, hu.c0, if_neg (by rw [lt_nI (by omega) (by omega)]; omega), afterBy_n hu hc (by omega), bd_s, d1, bd2_s, if_pos rfl, bnd_x, nI_1, ls_s, show hvl md c (gvl c rs md) s k = 0 from if_pos z, if_pos rfl]
    · obtain ⟨υ, d1, d2⟩ := worthM_n hu w hx z
      refine ⟨(em (ls (hvl md c (gvl c rs md) s) (k + 1)), nI (k + 1), υ), ?_, rfl, rfl, F'.tr d2⟩
      have hv : hvl md c (gvl c rs md) s k = gvl c rs md (aft c s k) + 1 := if_neg z
      have gl := gvl_le (c := c) (rs := rs) (md := md) (s := aft c s k)
      show Mo_leastBy_L4 (nI s) u (em (ls (hvl md c (gvl c rs md) s) k)) (nI k) = _
      unfold Mo_leastBy_L4
      rw [ix00, chk_true, tn00, hu.c0, if_neg (by rw [lt_nI (by omega) (by omega)]; omega), afterBy_n hu hc (by omega), bd_s, d1, bd2_s, if_neg (nI_m1 (by omega)), ls_s, hv, if_neg (show ¬ gvl c rs md (aft c s k) + 1 = 0 by omega)]
      by_cases e : ls (hvl md c (gvl c rs md) s) k = 0
      · rw [if_pos (by rw [em_m1 (by omega)]; exact e), bnd_x, nI_1, if_pos e, em_s]
      · rw [if_neg (by rw [em_m1 (by omega)]; exact e), if_neg e, ← em_s (gvl c rs md (aft c s k))]
        by_cases q : ls (hvl md c (gvl c rs md) s) k ≤ gvl c rs md (aft c s k) + 1
        · rw [if_pos (by rw [em_le (by omega) (by omega)]; exact q), bnd_x, nI_1, if_pos q]
        · rw [if_neg (by rw [em_le (by omega) (by omega)]; exact q), bnd_x, nI_1, if_neg q]) (by
    rintro ⟨v, k', u⟩ ⟨rfl, rfl, F⟩
    have F' : Fp Aly σ u := F
    have hu : MV u 0 0 c od on rs md nm := h.ly F' Aly.h
    refine ⟨(em (ls (hvl md c (gvl c rs md) s) (c + 1)), u), ?_, rfl, F⟩
    show Mo_leastBy_L4 (nI s) u (em (ls (hvl md c (gvl c rs md) s) (c + 1))) (nI (c + 1)) = _
    unfold Mo_leastBy_L4
    rw [ix00, chk_true, tn00, hu.c0, if_pos (by rw [lt_nI (by omega) (by omega)]; omega)]) (s := (-1, 0, σ)) ⟨em_0.symm, rfl, Fp.rf⟩
  refine ⟨ω, ?_, c3⟩
  have c2' : v = em (ls (hvl md c (gvl c rs md) s) (c + 1)) := c2
  unfold Mo_leastBy
  rw [c1, bd2_s, c2', ls_fin h0, em_s]
  rfl
def Alb (a i : Nat) : Prop := (a = 92 ∧ (i = 23 ∨ i = 30)) ∨ a = 101
theorem Alb.h (a i : Nat) (h : Alb a i) : a = 92 ∨ a = 101 := by unfold Alb at h; omega
theorem Aly.b (a i : Nat) (h : Aly a i) : Alb a i := by unfold Aly at h; unfold Alb; omega
theorem mostM_g {σ : St} {s n : Nat} {f : Nat → Nat} (h : MV σ 0 0 c od on rs md nm) (w : WF c od on rs md nm) (hs : s < 2 ^ c) (h0 : ¬ spn md s c = 0) (hf : ∀ s, f s ≤ 5040) (hn : (n = 1 ∧ f = gvl c rs md) ∨ (n = 2 ∧ f = gv1 c rs md)) : ∃ σ', Mo_mostBy σ (nI s) (nI n) = some (nI (acf (bop true) md c f s c), σ') ∧ Fp Alb σ σ' ∧ σ'.1 92 30 = nI (am (hvl md c f s) (c + 1)) := by
  have hc := w.1
  have hb := hvl_b (md := md) (c := c) (f := f) hf s
  obtain ⟨⟨v, ω⟩, c1, c2, c3, c4⟩ := iter_cnt (body := fun u : (Int32 × Int32 × St) => Mo_mostBy_L10 (nI s) (nI n) u.2.2 u.1 u.2.1) (fun k u => u.1 = em (mx (hvl md c f s) k) ∧ u.2.1 = nI k ∧ Fp Alb σ u.2.2 ∧ (0 < mx (hvl md c f s) k → u.2.2.1 92 30 = nI (am (hvl md c f s) k))) (fun e => e.1 = em (mx (hvl md c f s) (c + 1)) ∧ Fp Alb σ e.2 ∧ (0 < mx (hvl md c f s) (c + 1) → e.2.1 92 30 = nI (am (hvl md c f s) (c + 1)))) (lo := 0) (hi := c + 1) (n := FUEL) (Nat.zero_le _) (fuel (by omega)) (by
    rintro k ⟨v, k', u⟩ _ hk ⟨rfl, rfl, F, hbf⟩
    have F' : Fp Alb σ u := F
    have hbf' : 0 < mx (hvl md c f s) k → u.1 92 30 = nI (am (hvl md c f s) k) := hbf
    have hu : MV u 0 0 c od on rs md nm := h.ly F' Alb.h
    have hx := aft_lt (k := k) hs (by omega)
    have hp := p2_12 hc
    have l1 := mx_b hb k
    by_cases z : spn md (aft c s k) c = 0
    · have hv : hvl md c f s k = 0 := if_pos z
      refine ⟨(em (mx (hvl md c f s) (k + 1)), nI (k + 1), u), ?_, rfl, rfl, F', ?_⟩
      · show Mo_mostBy_L10 (nI s) (nI n) u (em (mx (hvl md c f s) k)) (nI k) = _
        unfold Mo_mostBy_L10 Mo_mostBy_J64_10
        rw [ix00, chk_true, tn00, hu.c0, if_neg (by rw [lt_nI (by omega) (by omega)]; omega), afterBy_n hu hc (by omega), bd_s, spanM_n hu w (by omega), if_pos z, bd_s, if_pos rfl, ← em_0, if_neg (by rw [em_lt (by omega) (by omega)]; omega), bnd_x, nI_1, mx_s, hv, Nat.max_zero]
      · show 0 < mx (hvl md c f s) (k + 1) → u.1 92 30 = nI (am (hvl md c f s) (k + 1))
        rw [mx_s, am_s, hv, Nat.max_zero, if_pos (Nat.zero_le _)]
        exact hbf'
    · have hv : hvl md c f s k = f (aft c s k) + 1 := if_neg z
      have gl := hf (aft c s k)
      obtain ⟨p1, p2⟩ := spn_pos z
      have hw : ∃ υ, Fp Aly u υ ∧ Mo_mostBy_L10 (nI s) (nI n) u (em (mx (hvl md c f s) k)) (nI k) = Mo_mostBy_J64_10 υ (nI s) (nI n) (em (mx (hvl md c f s) k)) (nI k) (nI (f (aft c s k))) := by
        rcases hn with ⟨rfl, rfl⟩ | ⟨rfl, rfl⟩
        · obtain ⟨υ, d1, d2⟩ := worthM_n hu w hx z
          refine ⟨υ, d2, ?_⟩
          unfold Mo_mostBy_L10
          rw [ix00, chk_true, tn00, hu.c0, if_neg (by rw [lt_nI (by omega) (by omega)]; omega), afterBy_n hu hc (by omega), bd_s, spanM_n hu w (by omega), if_neg z, bd_s, if_neg (nI_m1 (by omega)), if_pos (by decide), d1, bd2_s]
        · obtain ⟨υ, d1, d2⟩ := leastM_n hu w hx z
          refine ⟨υ, d2, ?_⟩
          unfold Mo_mostBy_L10
          rw [ix00, chk_true, tn00, hu.c0, if_neg (by rw [lt_nI (by omega) (by omega)]; omega), afterBy_n hu hc (by omega), bd_s, spanM_n hu w (by omega), if_neg z, bd_s, if_neg (nI_m1 (by omega)), if_neg (by decide), d1, bd2_s]
      obtain ⟨υ, d2, d1⟩ := hw
      by_cases q : hvl md c f s k ≤ mx (hvl md c f s) k
      · refine ⟨(em (mx (hvl md c f s) (k + 1)), nI (k + 1), υ), ?_, rfl, rfl, F'.tr (d2.mono Aly.b), ?_⟩
        · show Mo_mostBy_L10 (nI s) (nI n) u (em (mx (hvl md c f s) k)) (nI k) = _
          rw [d1]
          unfold Mo_mostBy_J64_10
          rw [← em_s, ← hv, if_neg (by rw [em_lt (by omega) (by have := hb k; omega)]; omega), bnd_x, nI_1, mx_s, Nat.max_eq_left q]
        · show 0 < mx (hvl md c f s) (k + 1) → υ.1 92 30 = nI (am (hvl md c f s) (k + 1))
          rw [mx_s, am_s, if_pos q, Nat.max_eq_left q, d2.i (by unfold Aly; omega)]
          exact hbf'
      · refine ⟨(em (mx (hvl md c f s) (k + 1)), nI (k + 1), wI υ 92 30 (nI k)), ?_, rfl, rfl, (F'.tr (d2.mono Aly.b)).wI (by unfold Alb; omega), ?_⟩
        · show Mo_mostBy_L10 (nI s) (nI n) u (em (mx (hvl md c f s) k)) (nI k) = _
          rw [d1]
          unfold Mo_mostBy_J64_10
          rw [← em_s, ← hv, if_pos (by rw [em_lt (by omega) (by have := hb k; omega)]; omega), bnd_x, bnd_x, nI_1, mx_s, Nat.max_eq_right (by omega)]
        · show 0 < mx (hvl md c f s) (k + 1) → (wI υ 92 30 (nI k)).1 92 30 = nI (am (hvl md c f s) (k + 1))
          rw [am_s, if_neg q, wI_s]
          intro _; rfl) (by
    rintro ⟨v, k', u⟩ ⟨rfl, rfl, F, hbf⟩
    have F' : Fp Alb σ u := F
    have hu : MV u 0 0 c od on rs md nm := h.ly F' Alb.h
    refine ⟨(em (mx (hvl md c f s) (c + 1)), u), ?_, rfl, F, hbf⟩
    show Mo_mostBy_L10 (nI s) (nI n) u (em (mx (hvl md c f s) (c + 1))) (nI (c + 1)) = _
    unfold Mo_mostBy_L10
    rw [ix00, chk_true, tn00, hu.c0, if_pos (by rw [lt_nI (by omega) (by omega)]; omega)]) (s := (-1, 0, wI σ 92 30 (-1))) ⟨em_0.symm, rfl, Fp.rf.wI (by unfold Alb; omega), fun q => by exact absurd q (by show ¬ 0 < 0; omega)⟩
  have hfin := mx_fin (md := md) (f := f) h0
  refine ⟨ω, ?_, c3, c4 (by omega)⟩
  have c2' : v = em (mx (hvl md c f s) (c + 1)) := c2
  unfold Mo_mostBy
  rw [bnd_x, c1, bd2_s, c2', hfin, em_s]
end GAM
