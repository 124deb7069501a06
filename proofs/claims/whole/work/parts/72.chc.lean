section CHO
variable {m r : Nat → Nat} {n mode : Nat} {σ : St}
theorem allB1 (hM : MO m n) (h5 : ∀ i, i < n → σ.1 105 i = nI (m i)) : iter (fun s : Int32 => Mo_isAllBy_L2 (nI n) σ s) FUEL 0 = some (if 0 < fb_ct (fun i => decide (m i = 1)) n then .inl 1 else .inr ()) := by
  have hn := hM.1
  have key := iter_ix (body := fun s : Int32 => Mo_isAllBy_L2 (nI n) σ s) (fun k u => ∃ j, k = n - j ∧ u = nI j ∧ j ≤ n ∧ ∀ t, t < j → ¬ m t = 1) (fun e => e = if 0 < fb_ct (fun i => decide (m i = 1)) n then (Sum.inl (1 : Int32) : Int32 ⊕ Unit) else Sum.inr ()) ?_ FUEL n 0 ⟨0, by omega, rfl, by omega, fun t ht => by omega⟩ (fuel (by omega))
  · obtain ⟨e, b1, b2⟩ := key
    rw [b1, b2]
  · rintro k _ ⟨j, rfl, rfl, hj, ht⟩
    by_cases z : j < n
    · obtain ⟨c1, c2⟩ := hM.2.1 j z
      by_cases y : m j = 1
      · right
        refine ⟨_, ?_, (if_pos (fb_ct_pos.mpr ⟨j, z, decide_eq_true y⟩)).symm⟩
        show Mo_isAllBy_L2 (nI n) σ (nI j) = _
        unfold Mo_isAllBy_L2
        rw [if_neg (by rw [le_nI (by omega) (by omega)]; omega), ix_nI (by omega) (by omega), chk_true, tn_nI (by omega), h5 j z, y, if_pos (show nI 1 = 1 from rfl)]
      · left
        refine ⟨nI (j + 1), n - (j + 1), ?_, ⟨j + 1, rfl, rfl, by omega, fun t h => ?_⟩, by omega⟩
        · show Mo_isAllBy_L2 (nI n) σ (nI j) = _
          unfold Mo_isAllBy_L2
          rw [if_neg (by rw [le_nI (by omega) (by omega)]; omega), ix_nI (by omega) (by omega), chk_true, tn_nI (by omega), h5 j z, if_neg (by rw [show (1 : Int32) = nI 1 from rfl, eq_nI (by omega) (by omega)]; exact y), nI_1, bnd_x]
        · by_cases x : t = j
          · rw [x]; exact y
          · exact ht t (by omega)
    · right
      refine ⟨_, ?_, (if_neg (fun y => by
        obtain ⟨t, h1, h2⟩ := fb_ct_pos.mp y
        exact ht t (by omega) (by simpa using h2))).symm⟩
      show Mo_isAllBy_L2 (nI n) σ (nI j) = _
      unfold Mo_isAllBy_L2
      rw [if_pos (by rw [le_nI (by omega) (by omega)]; omega)]
theorem allB2 (hM : MO m n) (h5 : ∀ i, i < n → σ.1 105 i = nI (m i)) (h6 : ∀ i, i < n → σ.1 106 i = nI (r i)) (hr : ∀ i, i < n → r i < m i) {x : Nat} (hx : x < 5040) (L : Int32) : iter (fun s : (Int32 × Int32) => Mo_isAllBy_L51 (nI n) L (nI x) σ s.1 s.2) FUEL (0, 0) = some (if hit m r x n = true then 1 else 0) := by
  have hn := hM.1
  have key := iter_ix (body := fun s : (Int32 × Int32) => Mo_isAllBy_L51 (nI n) L (nI x) σ s.1 s.2) (fun k u => ∃ j, k = n - j ∧ u.1 = (if hit m r x j = true then (1 : Int32) else 0) ∧ u.2 = nI j ∧ j ≤ n) (fun e => e = if hit m r x n = true then (1 : Int32) else 0) ?_ FUEL n (0, 0) ⟨0, by omega, rfl, rfl, by omega⟩ (fuel (by omega))
  · obtain ⟨e, b1, b2⟩ := key
    rw [b1, b2]
  · rintro k ⟨_, _⟩ ⟨j, rfl, rfl, rfl, hj⟩
    by_cases z : j < n
    · obtain ⟨c1, c2⟩ := hM.2.1 j z
      have r1 := hr j z
      have hx1 : x % m j < m j := Nat.mod_lt _ (by omega)
      by_cases y : hit m r x j = true
      · right
        refine ⟨1, ?_, ?_⟩
        · show Mo_isAllBy_L51 (nI n) L (nI x) σ (if hit m r x j = true then (1 : Int32) else 0) (nI j) = _
          unfold Mo_isAllBy_L51
          rw [if_neg (by rw [le_nI (by omega) (by omega)]; omega), if_pos y, if_neg (by decide)]
        · rw [if_pos]
          obtain ⟨i, i1, i2⟩ := hit_ex.mp y
          exact hit_ex.mpr ⟨i, by omega, i2⟩
      · left
        refine ⟨((if hit m r x (j + 1) = true then (1 : Int32) else 0), nI (j + 1)), n - (j + 1), ?_, ⟨j + 1, rfl, rfl, rfl, by omega⟩, by omega⟩
        show Mo_isAllBy_L51 (nI n) L (nI x) σ (if hit m r x j = true then (1 : Int32) else 0) (nI j) = _
        unfold Mo_isAllBy_L51
        rw [if_neg (by rw [le_nI (by omega) (by omega)]; omega), if_neg y, if_pos rfl, ix_nI (by omega) (by omega), chk_true, tn_nI (by omega), h5 j z, nz_nI (by omega) (by omega), chk_true, chk_true, rem_nI (by omega) (by omega) (by omega), h6 j z]
        have eh : hit m r x (j + 1) = decide (x % m j = r j) := by
          show (hit m r x j || decide (x % m j = r j)) = _
          rw [Bool.eq_false_iff.mpr y, Bool.false_or]
        by_cases w : x % m j = r j
        · rw [if_pos (by rw [w]), eh, decide_eq_true w, if_pos rfl, nI_1, bnd_x]
        · rw [if_neg (by rw [eq_nI (by omega) (by omega)]; omega), eh, decide_eq_false w, if_neg (by decide), nI_1, bnd_x]
    · right
      have e : j = n := by omega
      refine ⟨_, ?_, rfl⟩
      show Mo_isAllBy_L51 (nI n) L (nI x) σ (if hit m r x j = true then (1 : Int32) else 0) (nI j) = _
      unfold Mo_isAllBy_L51
      rw [if_pos (by rw [le_nI (by omega) (by omega)]; omega), e]
theorem allBy_n (hM : MO m n) (h5 : ∀ i, i < n → σ.1 105 i = nI (m i)) (h6 : ∀ i, i < n → σ.1 106 i = nI (r i)) (hr : ∀ i, i < n → r i < m i) : Mo_isAllBy σ (nI n) = some (if cov m r (lc m n) n = true then 1 else 0) := by
  have hn := hM.1
  obtain ⟨L, hL⟩ : ∃ L, L = lc m n := ⟨_, rfl⟩
  obtain ⟨l1, l2⟩ := hM.lc (d := n) (Nat.le_refl _)
  rw [← hL] at l1 l2
  unfold Mo_isAllBy
  rw [allB1 hM h5]
  by_cases q : 0 < fb_ct (fun i => decide (m i = 1)) n
  · rw [if_pos q, bs0_l, ← hL]
    obtain ⟨i, i1, i2⟩ := fb_ct_pos.mp q
    have i2' : m i = 1 := by simpa using i2
    have hri := hr i i1
    have : cov m r L n = true := by
      unfold cov
      rw [decide_eq_true_eq, fb_ct_all]
      intro x _
      exact hit_ex.mpr ⟨i, i1, by rw [i2', Nat.mod_one]; omega⟩
    rw [if_pos this]
  · rw [if_neg q, bs0_r, spanBy_n hM h5, bd_s, ← hL]
    have key := iter_ix (body := fun s : (Int32 × Int32) => Mo_isAllBy_L36 (nI n) (nI L) σ s.1 s.2) (fun k u => ∃ j, j ≤ L ∧ u.2 = nI j ∧ ((u.1 = 1 ∧ k = L - j + 1 ∧ ∀ x, x < j → hit m r x n = true) ∨ (u.1 = 0 ∧ k = 0 ∧ ∃ x, x < L ∧ ¬ hit m r x n = true))) (fun e => e = if cov m r L n = true then (1 : Int32) else 0) ?_ FUEL (L + 1) (1, 0) ⟨0, by omega, rfl, Or.inl ⟨rfl, by omega, fun x hx => by omega⟩⟩ (fuel (by omega))
    · obtain ⟨e, b1, b2⟩ := key
      rw [b1, bd_s, b2]
      by_cases c : cov m r L n = true
      · rw [if_pos c, ckl1, chk_true]
      · rw [if_neg c, ckl0, chk_true]
    · rintro k ⟨u1, u2⟩ ⟨j, hj, rfl, hh⟩
      rcases hh with ⟨e1, rfl, ht⟩ | ⟨e1, rfl, x, hx, hx2⟩
      · have e1' : u1 = 1 := e1
        subst e1'
        by_cases z : j < L
        · left
          by_cases y : hit m r j n = true
          · refine ⟨((1 : Int32), nI (j + 1)), L - (j + 1) + 1, ?_, ⟨j + 1, by omega, rfl, Or.inl ⟨rfl, rfl, fun x hx => ?_⟩⟩, by omega⟩
            · show Mo_isAllBy_L36 (nI n) (nI L) σ 1 (nI j) = _
              unfold Mo_isAllBy_L36
              rw [if_neg (by rw [le_nI (by omega) (by omega)]; omega), if_neg (by decide), allB2 hM h5 h6 hr (by omega), bd_s, if_pos y, nI_1, bnd_x]
            · by_cases w : x = j
              · rw [w]; exact y
              · exact ht x (by omega)
          · refine ⟨((0 : Int32), nI (j + 1)), 0, ?_, ⟨j + 1, by omega, rfl, Or.inr ⟨rfl, rfl, j, z, y⟩⟩, by omega⟩
            show Mo_isAllBy_L36 (nI n) (nI L) σ 1 (nI j) = _
            unfold Mo_isAllBy_L36
            rw [if_neg (by rw [le_nI (by omega) (by omega)]; omega), if_neg (by decide), allB2 hM h5 h6 hr (by omega), bd_s, if_neg y, nI_1, bnd_x]
        · right
          have e : j = L := by omega
          refine ⟨1, ?_, ?_⟩
          · show Mo_isAllBy_L36 (nI n) (nI L) σ 1 (nI j) = _
            unfold Mo_isAllBy_L36
            rw [if_pos (by rw [le_nI (by omega) (by omega)]; omega)]
          · rw [if_pos]
            unfold cov
            rw [decide_eq_true_eq, fb_ct_all]
            intro x hx
            exact ht x (by omega)
      · have e1' : u1 = 0 := e1
        subst e1'
        right
        have hc : ¬ cov m r L n = true := fun c => by
          unfold cov at c
          rw [decide_eq_true_eq, fb_ct_all] at c
          exact hx2 (c x hx)
        refine ⟨0, ?_, (if_neg hc).symm⟩
        show Mo_isAllBy_L36 (nI n) (nI L) σ 0 (nI j) = _
        unfold Mo_isAllBy_L36
        by_cases z : nI L ≤ nI j
        · rw [if_pos z]
        · rw [if_neg z, if_pos rfl]
theorem isGood_n (hM : MO m n) (h5 : ∀ i, i < n → σ.1 105 i = nI (m i)) (h6 : ∀ i, i < n → σ.1 106 i = nI (r i)) (hr : ∀ i, i < n → r i < m i) (hmo : mode ≤ 2) : Mo_isGood σ (nI n) (nI mode) = some (if good mode m r (lc m n) n = true then 1 else 0) := by
  have hn := hM.1
  obtain ⟨l1, l2⟩ := hM.lc (d := n) (Nat.le_refl _)
  have hnt := noneTwice_n hM h5 h6 hr
  have hd : ∀ i, i < n → m i ∣ lc m n := fun i hi => lc_dvd hi
  unfold Mo_isGood good
  by_cases z0 : mode = 0
  · rw [if_pos (by rw [z0]; rfl), allBy_n hM h5 h6 hr, bd_s, decide_eq_true z0, Bool.true_or, Bool.true_and, decide_eq_false (show ¬ mode = 2 by omega), Bool.false_or]
    by_cases c : cov m r (lc m n) n = true
    · rw [if_pos c, ckl1, chk_true]
    · rw [if_neg c, ckl0, chk_true]
  · have key := iter_for (body := fun s : (Int32 × Int32) => Mo_isGood_L22 (nI n) (nI mode) (nI (lc m n)) σ s.1 s.2) (fun k => (nI (fb_sm (fun i => lc m n / m i) k), nI k)) (lo := 0) (hi := n) (e := nI (fb_sm (fun i => lc m n / m i) n)) (n := FUEL) (Nat.zero_le _) (fuel (by omega)) (by
      intro k _ hk
      obtain ⟨c1, c2⟩ := hM.2.1 k hk
      show Mo_isGood_L22 (nI n) (nI mode) (nI (lc m n)) σ (nI (fb_sm (fun i => lc m n / m i) k)) (nI k) = some (.inl (nI (fb_sm (fun i => lc m n / m i) (k + 1)), nI (k + 1)))
      unfold Mo_isGood_L22
      rw [if_neg (by rw [le_nI (by omega) (by omega)]; omega), ix_nI (by omega) (by omega), chk_true, tn_nI (by omega), h5 k hk, nz_nI (by omega) (by omega), chk_true, div_nI (by omega) (by omega) (by omega), nI_add, bnd_x, nI_1, bnd_x, fb_sm_succ]) (by
      show Mo_isGood_L22 (nI n) (nI mode) (nI (lc m n)) σ (nI (fb_sm (fun i => lc m n / m i) n)) (nI n) = _
      unfold Mo_isGood_L22
      rw [if_pos (by rw [le_nI (by omega) (by omega)]; omega)])
    have key' : iter (fun s : (Int32 × Int32) => Mo_isGood_L22 (nI n) (nI mode) (nI (lc m n)) σ s.1 s.2) FUEL (0, 0) = some (nI (fb_sm (fun i => lc m n / m i) n)) := key
    have hsb : fb_sm (fun i => lc m n / m i) n ≤ 5040 * n := sm_bd (fun i => Nat.le_trans (Nat.div_le_self _ _) l2) n
    rw [if_neg (by rw [show (0 : Int32) = nI 0 from rfl, eq_nI (by omega) (by omega)]; exact z0), spanBy_n hM h5, bd_s, key', bd_s, decide_eq_false z0, Bool.false_or]
    by_cases z2 : mode = 2
    · rw [if_pos (by rw [z2]; rfl), hnt, bd_s, decide_eq_true z2, Bool.true_or, Bool.and_true]
      by_cases d : djb m r (lc m n) n = true
      · rw [if_pos d, if_neg (by decide)]
      · rw [if_neg d, if_pos rfl]
    · rw [show (2 : Int32) = nI 2 from rfl, if_neg (by rw [eq_nI (by omega) (by omega)]; exact z2), decide_eq_false z2, Bool.false_or]
      by_cases d : djb m r (lc m n) n = true
      · rw [d, Bool.true_and, cov_sum hd hr d]
        by_cases e : fb_sm (fun i => lc m n / m i) n = lc m n
        · rw [if_pos (by rw [e]), hnt, bd_s, if_pos d, if_neg (by decide), if_pos (decide_eq_true e)]
        · rw [if_neg (by rw [eq_nI (by omega) (by omega)]; exact e), if_neg (by simpa using e)]
      · rw [Bool.eq_false_iff.mpr d, Bool.false_and, if_neg (show ¬ false = true by decide)]
        by_cases e : fb_sm (fun i => lc m n / m i) n = lc m n
        · rw [if_pos (by rw [e]), hnt, bd_s, if_neg d, if_pos rfl]
        · rw [if_neg (by rw [eq_nI (by omega) (by omega)]; exact e)]
end CHO
