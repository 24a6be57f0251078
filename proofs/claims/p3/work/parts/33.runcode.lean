/-! Runs of the code. -/
theorem pR_nextBehind {x : Int32} {σ : hg_M} {P : Int32 → hg_M → Prop} (hc : iC σ) (x0 : 0 ≤ x) (x1 : x < 720) (hP : ∀ r, r ≤ 720 → P r σ) : wC_X1_nextBehind x σ P := by
  unfold wC_X1_nextBehind bC_X1_nextBehind_55 bC_X1_nextBehind_56 bC_X1_nextBehind_75
  have xi := hp_720 x0 x1
  have hr := hc.2.2 _ (hg_lt xi)
  have n1 : P (x + 1) σ := hP _ (by grind)
  refine ⟨xi, fun hne => ⟨xi, fun _ => ⟨fun _ => n1, fun h => absurd rfl h⟩, fun h17 => ⟨xi, ?_⟩⟩, fun h16 => ⟨xi, hP _ (hr.2.2.2.1 h16).2⟩⟩
  have ha := hr.2.2.1 (by grind)
  have hb := hr.2.2.2.2.2.1 h17
  exact ⟨hp_736 ha.1 ha.2, fun _ => ⟨fun _ => n1, fun h => absurd rfl h⟩, fun _ => ⟨fun h => absurd h (by decide), fun _ => ⟨xi, hP _ hb.2⟩⟩⟩
theorem pR_doStep {x : Int32} {σ : hg_M} {P : hg_M → Prop} (hc : iC σ) (h : iD σ) (x0 : 0 ≤ x) (x1 : x < 720) (hP : ∀ σ', iD σ' → gD σ σ' → P σ') : wC_X1_doStep x σ P := by
  unfold wC_X1_doStep bC_X1_doStep_292 bC_X1_doStep_200
  have xi := hp_720 x0 x1
  refine ⟨xi, fun k ek => ⟨xi, fun a ea => ⟨xi, fun b eb => ⟨xi, fun s es => ?_⟩⟩⟩⟩
  have hr := hc.2.2 _ (hg_lt xi)
  rw [← ek, ← ea, ← eb] at hr
  unfold rOK at hr
  obtain ⟨k0, k1, ha, ha2, hb, hb2, hcc, he⟩ := hr
  have lit : ∀ m : Int32, k.toInt = m.toInt → k = m := fun m e => Int32.toInt_inj.mp e
  have t0 := Int32.le_iff_toInt_le.mp k0
  have t1 := Int32.lt_iff_toInt_lt.mp k1
  have e0 : (0 : Int32).toInt = 0 := by decide
  have e19 : (19 : Int32).toInt = 19 := by decide
  rw [e0] at t0; rw [e19] at t1
  have set54 : ∀ (i : Int32) (v : Int32) (σ6 : hg_M), σ6 = hg_set σ 54 i.toNatClampNeg v → P σ6 := fun i v σ6 e => by
    subst e; exact hP _ (h.s (by omega)) (gD.s (by omega))
  have op : (2 ≤ k ∧ k ≤ 12) → vp_in b 736 ∧ (vp_in x 720 ∧ (vp_in (σ 47 x.toNatClampNeg) 736 ∧ (wC_X1_reach k a (σ 54 b.toNatClampNeg) (σ 54 (σ 47 x.toNatClampNeg).toNatClampNeg) s σ (fun σ5 => P σ5)))) := by
    intro hk
    have a1 := ha (by grind)
    have b1 := hb (by grind) (by grind)
    have c1 := hcc (by grind) (by grind)
    exact ⟨hp_736 b1.1 b1.2, xi, hp_736 c1.1 c1.2, pR_reach h a1.1 a1.2 hP⟩
  have opz : ∀ m : Int32, 2 ≤ m → m ≤ 12 → k.toInt = m.toInt → vp_in b 736 ∧ (vp_in x 720 ∧ (vp_in (σ 47 x.toNatClampNeg) 736 ∧ (wC_X1_reach k a (σ 54 b.toNatClampNeg) (σ 54 (σ 47 x.toNatClampNeg).toNatClampNeg) s σ (fun σ5 => P σ5)))) := fun m m0 m1 e => op (by have := lit m e; grind)
  refine ⟨fun hbad => by exfalso; omega, fun e => ?_, fun e => ?_, fun e => opz 2 (by decide) (by decide) e, fun e => opz 3 (by decide) (by decide) e, fun e => opz 4 (by decide) (by decide) e, fun e => opz 5 (by decide) (by decide) e, fun e => opz 6 (by decide) (by decide) e, fun e => opz 7 (by decide) (by decide) e, fun e => opz 8 (by decide) (by decide) e, fun e => opz 9 (by decide) (by decide) e, fun e => opz 10 (by decide) (by decide) e, fun e => opz 11 (by decide) (by decide) e, fun e => opz 12 (by decide) (by decide) e, fun e => ?_, fun e => ?_, fun e => ?_, fun e => hP σ h (gD.refl σ), fun e => hP σ h (gD.refl σ), fun e => ?_⟩
  · have kk := lit 0 e
    have a1 := ha (by grind)
    exact ⟨hp_736 a1.1 a1.2, fun σ6 e6 => set54 a b σ6 e6⟩
  · have kk := lit 1 e
    have a1 := ha (by grind)
    have b1 := hb (by grind) (by grind)
    exact ⟨hp_736 b1.1 b1.2, hp_736 a1.1 a1.2, fun σ6 e6 => set54 a _ σ6 e6⟩
  · have kk := lit 13 e
    have a1 := ha (by grind)
    have b1 := hb (by grind) (by grind)
    have c1 := hcc (by grind) (by grind)
    have d1 := he (by grind)
    exact ⟨hp_736 b1.1 b1.2, fun _ => ⟨xi, hp_736 d1.1 d1.2, hp_736 a1.1 a1.2, fun σ6 e6 => set54 a _ σ6 e6⟩, fun _ => ⟨xi, hp_736 c1.1 c1.2, hp_736 a1.1 a1.2, fun σ6 e6 => set54 a _ σ6 e6⟩⟩
  · have kk := lit 14 e
    have a1 := ha (by grind)
    have b1 := hb (by grind) (by grind)
    exact ⟨hp_736 b1.1 b1.2, pR_load h a1.1 a1.2 hP⟩
  · have kk := lit 15 e
    have a1 := ha (by grind)
    have b1 := hb (by grind) (by grind)
    exact ⟨hp_736 a1.1 a1.2, hp_736 b1.1 b1.2, pR_store h hP⟩
  · have kk := lit 18 e
    have a1 := ha (by grind)
    exact ⟨hp_736 a1.1 a1.2, pR_say h hP⟩
theorem pR_doCode {σ : hg_M} {P : hg_M → Prop} (hc : iC σ) (h : iD σ) (hP : ∀ σ', iD σ' → gD σ σ' → P σ') : wC_X1_doCode σ P := by
  unfold wC_X1_doCode
  have key : ∀ n (k : Int32) (σ' : hg_M), 0 ≤ k → k ≤ 720 → iD σ' → gD σ σ' → hp_n (720 - k) < n → lC_X1_doCode_4 P n k σ' := by
    intro n
    induction n with
    | zero => intro k σ' _ _ _ _ h; omega
    | succ n ih =>
      intro k σ' k0 k1 w g hn
      rw [lC_X1_doCode_4]
      have c' := hc.ofD g
      refine ⟨fun _ => hP σ' w g, fun hl => ⟨fun _ => hP σ' w g, fun _ σ1 e1 => ?_⟩⟩
      have s1 := c'.2.1
      have w1 : iD σ1 := by rw [e1]; exact w.s (by omega)
      have g1 : gD σ σ1 := by rw [e1]; exact g.trans (gD.s (by omega))
      have c1 := hc.ofD g1
      refine pR_nextBehind c1 k0 (by grind) (fun r hr => ?_)
      refine pR_doStep c1 w1 k0 (by grind) (fun σ4 w4 g4 v ev => ?_)
      have hm : k < v ∧ v ≤ 720 := by
        rw [ev]
        unfold hg_max
        split <;> grind
      have hlt := hp_n_lt (a := k) (b := v) (c := 720) k0 hm.1 hm.2
      exact ih v σ4 (by grind) hm.2 w4 (g1.trans g4) (by omega)
  exact ⟨hp_n (720 - 0) + 1, key _ 0 σ (by decide) (by decide) h (gD.refl σ) (by omega)⟩
