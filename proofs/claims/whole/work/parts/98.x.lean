theorem fb_zb {σ σ1 : St} (Z : Z40 σ) (B : ByT σ) {A : Nat → Nat → Prop} (F : Fp A σ σ1) (hA : ∀ i, ¬ A 40 i ∧ ¬ A 3 i) : Z40 σ1 ∧ ByT σ1 := ⟨fun w hw => (F.l (hA w).1).trans (Z w hw), fun k => by rw [F.i (hA k).2]; exact B k⟩
theorem zb_s {σ : St} (h : Z40 σ ∧ ByT σ) (v : Int32) : Z40 (wI σ 0 0 v) ∧ ByT (wI σ 0 0 v) := fb_zb h.1 h.2 (A := fun a _ => a = 0) (Fp.wI (A := fun a _ => a = 0) (Fp.rf (A := fun a _ => a = 0)) rfl) (fun i => by omega)
theorem ok_eq {α : Type} {P : α → Prop} {o : Option α} {x : α} (h : o = some x) (hx : P x) : OK P o := fun y hy => by
  rw [h] at hy
  rw [← Option.some.inj hy]; exact hx
theorem z_choices {σ : St} (I : Inv σ) (Z : Z40 σ) (B : ByT σ) (p p2 p3 : Int32) : OK (fun x : (Int32 × St) => Z40 x.2 ∧ ByT x.2) (RC_choices σ p p2 p3) := by
  rcases trouble I p p2 p3 with ⟨e, σc, e1, e2, e3, e4, e5⟩ | ⟨n, mode, m, σc, rfl, rfl, hM, hmo, e3, e4, c3, c7, e5⟩
  · refine ok_eq (x := (-1, wI σc 0 0 e)) ?_ (zb_s (fb_zb Z B e4 (fun i => by unfold Atk; omega)) e)
    unfold RC_choices
    rw [e3, bd2_s, if_neg e2, RC_refuse_n, bd2_s]
  · obtain ⟨τ, t1, t2, t3⟩ := beginC (mode := mode) hM c3 c7
    have hB : CB τ m (fun _ => 0) (lc m n) 0 := fun w hw j hj => by
      have := (hM.lc (d := n) (Nat.le_refl _)).2
      have ez : τ.2 (40 + 0) w = 0 := (t3.l (by omega)).trans ((e4.l (by unfold Atk; omega)).trans (Z w (by omega)))
      rw [ez, lb_0]; rfl
    obtain ⟨ω, o1, o2⟩ := countC hM hmo t2 hB
    have z1 := fb_zb Z B e4 (fun i => by unfold Atk; omega)
    have z2 := fb_zb z1.1 z1.2 t3 (fun i => by omega)
    have z3 := fb_zb z2.1 z2.2 o2 (fun i => by omega)
    refine ok_eq (x := (nI (fb_sm (fun x => gd mode m (lc m n) n (de m n (fun _ => 0) x)) (pr m n)), wI ω 0 0 0)) ?_ (zb_s z3 0)
    unfold RC_choices Ch_countWays
    rw [e3, bd2_s, if_pos rfl, t1, bd_s, o1, bd2_s, bd2_s, RC_answer_n, bd2_s]
theorem z_choiceAt {σ : St} (I : Inv σ) (Z : Z40 σ) (B : ByT σ) (p p2 p3 p4 : Int32) : OK (fun x : (Int32 × St) => Z40 x.2 ∧ ByT x.2) (RC_choiceAt σ p p2 p3 p4) := by
  have hw := within_m1 p4 p2
  by_cases hin : 0 ≤ p4.toInt ∧ p4.toInt < p2.toInt
  · rw [if_pos hin] at hw
    rcases trouble I p p2 p3 with ⟨e, σc, e1, e2, e3, e4, e5⟩ | ⟨n, mode, m, σc, rfl, rfl, hM, hmo, e3, e4, c3, c7, e5⟩
    · refine ok_eq (x := (-1, wI σc 0 0 e)) ?_ (zb_s (fb_zb Z B e4 (fun i => by unfold Atk; omega)) e)
      unfold RC_choiceAt
      rw [hw, bd_s, if_neg (by decide), e3, bd2_s, if_neg e2, RC_refuse_n, bd2_s]
    · have hn6 := hM.1
      have hnt : (nI n).toInt = (n : Int) := nI_toInt (by omega)
      rw [hnt] at hin
      obtain ⟨a, ha, rfl⟩ : ∃ a, a < n ∧ p4 = nI a := by
        refine ⟨p4.toInt.toNat, by omega, ?_⟩
        apply Int32.toInt_inj.mp
        rw [nI_toInt (by omega)]
        omega
      obtain ⟨τ, t1, t2, t3⟩ := beginC (mode := mode) hM c3 c7
      obtain ⟨L1, L2⟩ := hM.lc (d := n) (Nat.le_refl _)
      have hB : CB τ m (fun _ => 0) (lc m n) 0 := fun w hw j hj => by
        have ez : τ.2 (40 + 0) w = 0 := (t3.l (by omega)).trans ((e4.l (by unfold Atk; omega)).trans (Z w (by omega)))
        rw [ez, lb_0]; rfl
      obtain ⟨c, ω, o1, o2, o3⟩ := waysF hM L1 L2 hmo (fun i hi => lc_dvd hi) n 60 0 (fun _ => 0) τ (by omega) (by omega) (Or.inr rfl) t2 hB
      have o1' : Ch_waysFrom 60 τ 0 1 = some (c, ω) := o1
      have z1 := fb_zb Z B e4 (fun i => by unfold Atk; omega)
      have z2 := fb_zb z1.1 z1.2 t3 (fun i => by omega)
      have z3 := fb_zb z2.1 z2.2 o2 (fun i => by unfold Awf; omega)
      rcases o3 with ⟨rfl, F, f1, f2⟩ | ⟨rfl, f0⟩
      · refine ok_eq (x := (nI (F a), wI ω 0 0 0)) ?_ (zb_s z3 0)
        unfold RC_choiceAt Ch_findFirst Ch_restAt
        rw [hw, bd_s, if_neg (by decide), e3, bd2_s, if_pos rfl, t1, bd_s, o1', bd2_s, if_neg (by decide), bd2_s, if_neg (by decide), show (5 : Int64) = (nI 5).toInt64 from rfl, within_y (by omega) (by omega), bd_s, if_neg (by decide), ix_nI (show a < 6 by omega) (by omega), chk_true, tn_nI (show a < 2147483648 by omega), f2 a (by omega) ha, bd_s, RC_answer_n, bd2_s]
      · refine ok_eq (x := (-1, wI ω 0 0 6)) ?_ (zb_s z3 6)
        unfold RC_choiceAt Ch_findFirst
        rw [hw, bd_s, if_neg (by decide), e3, bd2_s, if_pos rfl, t1, bd_s, o1', bd2_s, if_pos (by decide), bd2_s, if_pos rfl, RC_refuse_n, bd2_s]
  · rw [if_neg hin] at hw
    refine ok_eq (x := (-1, wI σ 0 0 1)) ?_ (zb_s ⟨Z, B⟩ 1)
    unfold RC_choiceAt
    rw [hw, bd_s, if_pos rfl, RC_refuse_n, bd2_s]
def An0 (a _ : Nat) : Prop := ¬ a = 40
theorem z_feed {σ : St} (Z : Z40 σ) (B : ByT σ) (p1 p2 p3 p4 p5 : Int32) : OK (fun x : (Int32 × St) => Z40 x.2 ∧ ByT x.2) (RC_feed σ p1 p2 p3 p4 p5) := fun x hx => by
  have F := (fp_RC_feed (A := An0) (Fp.rf (σ := σ)) (by intros; unfold An0; omega) (by intros; unfold An0; omega) x hx).2
  exact ⟨fun w hw => (F.l (by unfold An0; omega)).trans (Z w hw), by_feed B p1 p2 p3 p4 p5 x hx⟩
