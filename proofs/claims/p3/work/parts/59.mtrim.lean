/-! THE REFERENCE: trim. -/
def kp (f : Nat → Int32) : Nat → Nat
  | 0 => 0
  | n + 1 => kp f n + (if f n = 0 then 1 else 0)
theorem kp_le {f : Nat → Int32} : ∀ n, kp f n ≤ n
  | 0 => Nat.le_refl _
  | n + 1 => by
    have := kp_le (f := f) n
    show kp f n + (if f n = 0 then 1 else 0) ≤ n + 1
    split <;> omega
theorem kp_mono {f : Nat → Int32} {a b : Nat} (h : a ≤ b) : kp f a ≤ kp f b := by
  induction b with
  | zero => have : a = 0 := by omega
            subst this; exact Nat.le_refl _
  | succ b ih =>
    by_cases e : a = b + 1
    · subst e; exact Nat.le_refl _
    · have := ih (by omega)
      show kp f a ≤ kp f b + _
      omega
theorem kp_lt {f : Nat → Int32} {a b : Nat} (h : a < b) (e : f a = 0) : kp f a < kp f b := by
  have h1 : kp f (a + 1) ≤ kp f b := kp_mono h
  have h2 : kp f (a + 1) = kp f a + (if f a = 0 then 1 else 0) := rfl
  rw [if_pos e] at h2
  omega
theorem kp_set {f g : Nat → Int32} {i : Nat} : ∀ n, (∀ j, j ≠ i → g j = f j) → f i = 0 → g i ≠ 0 → kp g n + (if i < n then 1 else 0) = kp f n
  | 0, _, _, _ => by rw [if_neg (by omega)]; rfl
  | n + 1, h, h0, h1 => by
    have ih := kp_set n h h0 h1
    show kp g n + (if g n = 0 then 1 else 0) + _ = kp f n + (if f n = 0 then 1 else 0)
    have a1 : i < n → (if i < n then 1 else 0 : Nat) = 1 := fun l => if_pos l
    have a2 : ¬ i < n → (if i < n then 1 else 0 : Nat) = 0 := fun l => if_neg l
    have a3 : i < n + 1 → (if i < n + 1 then 1 else 0 : Nat) = 1 := fun l => if_pos l
    have a4 : ¬ i < n + 1 → (if i < n + 1 then 1 else 0 : Nat) = 0 := fun l => if_neg l
    by_cases e : n = i
    · have b1 : (if g n = 0 then 1 else 0 : Nat) = 0 := if_neg (by rw [e]; exact h1)
      have b2 : (if f n = 0 then 1 else 0 : Nat) = 1 := if_pos (by rw [e]; exact h0)
      have := a2 (by omega)
      have := a3 (by omega)
      omega
    · rw [h n e]
      by_cases l : i < n
      · have := a1 l
        have := a3 (by omega)
        omega
      · have := a2 l
        have := a4 (by omega)
        omega
section MT2
variable {σ : hg_M}
theorem hm60 {j : Int32} (j0 : 0 ≤ j) (j1 : j.toNatClampNeg < 4000) : (6 * j).toNatClampNeg = 6 * j.toNatClampNeg ∧ 0 ≤ 6 * j ∧ vp_in (6 * j) 24000 := by
  have r := hm_lin (a := 6) (A := 6) (s := j) (k := 0) (N := 24000) (by decide) j0 (by decide) (by rw [tn0]; omega) (by omega) (by omega)
  have e : (6 : Int32) * j + 0 = 6 * j := by grind
  rw [e, tn0] at r
  exact r
theorem qM_names {i r : Int32} {Q : Int32 → hg_M → Prop} (i0 : 0 ≤ i) (i1 : i.toNatClampNeg < 4000) (h0 : Q 0 σ) (h1 : Q 1 σ) : wM_X6_names i r σ Q := by
  have b0 := hm60 i0 i1
  unfold wM_X6_names
  intro v ev
  rw [← ev] at b0
  have ad : ∀ (c : Int32) (m : Nat), c.toNatClampNeg = m → 0 ≤ c → m < 6 → vp_in (v + c) 24000 := by
    intro c m hc c0 hm
    exact (hm_add (N := 24000) b0.2.1 c0 (by rw [b0.1, hc]; omega) (by omega)).2.2
  have a1 := ad 1 1 tn1 (by decide) (by omega)
  have a2 := ad 2 2 tn2 (by decide) (by omega)
  have a3 := ad 3 3 tn3 (by decide) (by omega)
  have a4 := ad 4 4 tn4 (by decide) (by omega)
  have z0 : ((0 : Int32) = 0 ∨ (0 : Int32) = 1) ∧ Q 0 σ := ⟨Or.inl rfl, h0⟩
  have z1 : ((1 : Int32) = 0 ∨ (1 : Int32) = 1) ∧ Q 1 σ := ⟨Or.inr rfl, h1⟩
  refine ⟨b0.2.2, fun w ew => ?_⟩
  unfold bM_X6_names_238 bM_X6_names_208 bM_X6_names_148 bM_X6_names_243 bM_X6_names_213 bM_X6_names_171 bM_X6_names_153 bM_X6_names_123
  have op : vp_in (v + 2) 24000 ∧ (((σ 12 (v + 2).toNatClampNeg = r → (((1 : Int32) = 0 ∨ (1 : Int32) = 1) ∧ Q 1 σ)) ∧ (¬ σ 12 (v + 2).toNatClampNeg = r → vp_in (v + 3) 24000 ∧ (((σ 12 (v + 3).toNatClampNeg ≠ r → (((0 : Int32) = 0 ∨ (0 : Int32) = 1) ∧ Q 0 σ)) ∧ (σ 12 (v + 3).toNatClampNeg = r → (((1 : Int32) = 0 ∨ (1 : Int32) = 1) ∧ Q 1 σ))))))) := ⟨a2, fun _ => z1, fun _ => ⟨a3, fun _ => z0, fun _ => z1⟩⟩
  have two : vp_in (v + 2) 24000 ∧ ((σ 12 (v + 2).toNatClampNeg ≠ r → (((0 : Int32) = 0 ∨ (0 : Int32) = 1) ∧ Q 0 σ)) ∧ (σ 12 (v + 2).toNatClampNeg = r → (((1 : Int32) = 0 ∨ (1 : Int32) = 1) ∧ Q 1 σ))) := ⟨a2, fun _ => z0, fun _ => z1⟩
  have one : vp_in (v + 1) 24000 ∧ ((σ 12 (v + 1).toNatClampNeg ≠ r → (((0 : Int32) = 0 ∨ (0 : Int32) = 1) ∧ Q 0 σ)) ∧ (σ 12 (v + 1).toNatClampNeg = r → (((1 : Int32) = 0 ∨ (1 : Int32) = 1) ∧ Q 1 σ))) := ⟨a1, fun _ => z0, fun _ => z1⟩
  exact ⟨fun _ => op, fun _ => z0, fun _ => two, fun _ => op, fun _ => op, fun _ => op, fun _ => op, fun _ => op, fun _ => op, fun _ => op, fun _ => op, fun _ => op, fun _ => op, fun _ => op, fun _ => ⟨a2, fun _ => z1, fun _ => ⟨a3, fun _ => z1, fun _ => ⟨a4, fun _ => z0, fun _ => z1⟩⟩⟩, fun _ => two, fun _ => ⟨a1, fun _ => z1, fun _ => ⟨a2, fun _ => z0, fun _ => z1⟩⟩, fun _ => z0, fun _ => one, fun _ => one⟩
theorem tn4000 : (4000 : Int32).toNatClampNeg = 4000 := by decide
/-- the step after i -/
theorem hm_s {i v : Int32} (i0 : 0 ≤ i) (h : i.toNatClampNeg < 5000) (e : v = i + 1) : v.toNatClampNeg = i.toNatClampNeg + 1 ∧ 0 ≤ v := by
  have r := hm_add (N := 6000) (s := i) (k := 1) i0 (by decide) (by rw [tn1]; omega) (by omega)
  rw [tn1, ← e] at r
  exact ⟨r.1, r.2.1⟩
theorem hm_nle {a b : Int32} (a0 : 0 ≤ a) (b0 : 0 ≤ b) (h : ¬ a ≤ b) : b.toNatClampNeg < a.toNatClampNeg := by
  have : ¬ a.toNatClampNeg ≤ b.toNatClampNeg := fun e => h ((hm_le a0 b0).mpr e)
  omega
theorem qM_isUseless {i : Int32} {Q : Int32 → hg_M → Prop} (n0 : 0 ≤ σ 0 20) (n1 : (σ 0 20).toNatClampNeg ≤ 3990) (i0 : 0 ≤ i) (i1 : i.toNatClampNeg < (σ 0 20).toNatClampNeg) (h0 : Q 0 σ) (h1 : σ 23 i.toNatClampNeg = 0 → σ 12 (6 * i.toNatClampNeg) ≠ 16 → σ 12 (6 * i.toNatClampNeg) ≠ 17 → Q 1 σ) : wM_X6_isUseless i σ Q := by
  have b0 := hm60 i0 (by omega)
  have b1 := hm6 (j := i) tn1 (by decide) (by omega) i0 (by omega)
  have gi : vp_in i 4000 := hm_in i0 (by omega)
  have z0 : ((0 : Int32) = 0 ∨ (0 : Int32) = 1) ∧ Q 0 σ := ⟨Or.inl rfl, h0⟩
  have h68 : ∀ r t, (t = 0 → σ 12 (6 * i.toNatClampNeg) ≠ 16 ∧ σ 12 (6 * i.toNatClampNeg) ≠ 17) → bM_X6_isUseless_68 Q i r t σ := by
    intro r t ht
    unfold bM_X6_isUseless_68 bM_X6_isUseless_90
    refine ⟨gi, fun _ => z0, fun hg => ⟨fun _ => z0, fun et => ⟨fun _ => ?_, fun _ => z0⟩⟩⟩
    have key : ∀ n (k : Int32), 0 ≤ k → k.toNatClampNeg ≤ 4000 → 4000 - k.toNatClampNeg < n → lM_X6_isUseless_95 Q n i r k σ := by
      intro n
      induction n with
      | zero => intro k _ _ h; omega
      | succ n ih =>
        intro k k0 k1 hn
        rw [lM_X6_isUseless_95]
        refine ⟨fun _ => ⟨Or.inr rfl, h1 hg (ht et).1 (ht et).2⟩, fun hk => ?_⟩
        have kl := hm_nle n0 k0 hk
        have go : bM_X6_isUseless_132 Q (fun k0 k1 k2 k3 => lM_X6_isUseless_95 Q n k0 k1 k2 k3) i r k σ := by
          unfold bM_X6_isUseless_132
          intro v ev
          have es := hm_s k0 (by omega) ev
          exact ih v es.2 (by omega) (by omega)
        exact ⟨fun _ => go, fun _ => ⟨hm_in k0 (by omega), fun _ => go, fun _ => qM_names k0 (by omega) ⟨fun _ => go, fun h => absurd rfl h⟩ ⟨fun h => absurd h (by decide), fun _ => z0⟩⟩⟩
    exact ⟨4001, key _ 0 (by decide) (by rw [tn0]; omega) (by rw [tn0]; omega)⟩
  have h63 : ∀ r, bM_X6_isUseless_63 Q i r σ := fun r => h68 r 1 (fun h => absurd h (by decide))
  unfold wM_X6_isUseless
  rw [b0.1]
  refine ⟨b0.2.2, fun v1 e1 => ⟨b1.2, fun v2 e2 => ⟨fun _ => h63 v2, fun _ => ⟨fun _ => h63 v2, fun n16 => ⟨fun _ => h63 v2, fun n17 => ⟨fun _ => h63 v2, fun _ => ⟨fun _ => h63 v2, fun _ => ⟨fun _ => h63 v2, fun _ => ⟨fun _ => h68 v2 0 (fun _ => ?_), fun _ => h63 v2⟩⟩⟩⟩⟩⟩⟩⟩⟩
  rw [← e1]
  exact ⟨n16, n17⟩
theorem qM_goneBefore {t : Int32} {Q : Int32 → hg_M → Prop} (t0 : 0 ≤ t) (t1 : t.toNatClampNeg ≤ 4000) (h : ∀ r, 0 ≤ r → r.toNatClampNeg + kp (σ 23) t.toNatClampNeg = t.toNatClampNeg → Q r σ) : wM_X6_goneBefore t σ Q := by
  have key : ∀ n (c k : Int32), 0 ≤ k → k.toNatClampNeg ≤ t.toNatClampNeg → 0 ≤ c → c.toNatClampNeg + kp (σ 23) k.toNatClampNeg = k.toNatClampNeg → 4000 - k.toNatClampNeg < n → lM_X6_goneBefore_4 Q n t c k σ := by
    intro n
    induction n with
    | zero => intro c k _ _ _ _ h; omega
    | succ n ih =>
      intro c k k0 k1 c0 hc hn
      rw [lM_X6_goneBefore_4]
      refine ⟨fun hk => ?_, fun hk => ?_⟩
      · have : k.toNatClampNeg = t.toNatClampNeg := by have := (hm_le t0 k0).mp hk; omega
        rw [this] at hc
        exact h c c0 hc
      · have kl := hm_nle t0 k0 hk
        have hs : kp (σ 23) (k.toNatClampNeg + 1) = kp (σ 23) k.toNatClampNeg + (if σ 23 k.toNatClampNeg = 0 then 1 else 0) := rfl
        refine ⟨hm_in k0 (by omega), fun hz => ?_, fun hz => ?_⟩
        · unfold bM_X6_goneBefore_24
          intro v1 e1 v2 e2
          have es := hm_s k0 (by omega) e2
          rw [if_pos hz] at hs
          have ec : v1 = c := by rw [e1]; grind
          have r : lM_X6_goneBefore_4 Q n t v1 v2 σ := ih v1 v2 es.2 (by omega) (by rw [ec]; exact c0) (by rw [ec, es.1, hs]; omega) (by omega)
          exact r
        · unfold bM_X6_goneBefore_24
          intro v1 e1 v2 e2
          have es := hm_s k0 (by omega) e2
          rw [if_neg hz] at hs
          have ec := hm_s c0 (by omega) e1
          have r : lM_X6_goneBefore_4 Q n t v1 v2 σ := ih v1 v2 es.2 (by omega) ec.2 (by rw [ec.1, es.1, hs]; omega) (by omega)
          exact r
  exact ⟨4001, key _ 0 0 (by decide) (by rw [tn0]; omega) (by decide) (by rw [tn0]; rfl) (by rw [tn0]; omega)⟩
/-- what trim leaves alone -/
def gU9 (σ σ' : hg_M) : Prop := (∀ q, q ≠ 0 → q ≠ 12 → q ≠ 23 → σ' q = σ q) ∧ ∀ i, i ≠ 0 → i ≠ 20 → σ' 0 i = σ 0 i
theorem qM_trim {Q : Int32 → hg_M → Prop} (h : cOK σ) (hP : ∀ r σ', gU9 σ σ' → cOK σ' → Q r σ') : wM_X6_trim σ Q := by
  obtain ⟨⟨n0, n1⟩, hc, htl⟩ := h
  obtain ⟨N, eN⟩ : ∃ N, N = (σ 0 20).toNatClampNeg := ⟨_, rfl⟩
  rw [← eN] at n1 hc htl
  unfold wM_X6_trim
  intro σ1 e1
  have y1 : ∀ i, i ≠ 0 → σ1 0 i = σ 0 i := fun i hi => by rw [e1, hs_ne hi]
  have c1 : ∀ q, q ≠ 0 → σ1 q = σ q := fun q hq => by rw [e1, hg_set_ne hq]
  -- D: the steps that stay move up
  have keyD : ∀ n (w m i : Int32) (τ fC : hg_M), τ 0 = σ1 0 → (∀ q, q ≠ 12 → q ≠ 23 → τ q = σ1 q) → τ 23 = fC 23 → 0 ≤ i → i.toNatClampNeg ≤ N → 0 ≤ m → m.toNatClampNeg = kp (fC 23) i.toNatClampNeg →
      (∀ j, j < N → sOK (fC 12) j) → (∀ j, j < N → fC 23 j = 0 → (fC 12 (6 * j) = 16 → 0 ≤ fC 12 (6 * j + 1) ∧ kp (fC 23) j < (fC 12 (6 * j + 1)).toNatClampNeg ∧ (fC 12 (6 * j + 1)).toNatClampNeg ≤ kp (fC 23) N) ∧ (fC 12 (6 * j) = 17 → 0 ≤ fC 12 (6 * j + 2) ∧ kp (fC 23) j < (fC 12 (6 * j + 2)).toNatClampNeg ∧ (fC 12 (6 * j + 2)).toNatClampNeg ≤ kp (fC 23) N)) → tl (fC 12) N ≤ 60 →
      (∀ j, 6 * i.toNatClampNeg ≤ j → τ 12 j = fC 12 j) → (∀ j, j < m.toNatClampNeg → sOK (τ 12) j ∧ jk (τ 12) (kp (fC 23) N) j) → tl (τ 12) m.toNatClampNeg ≤ tl (fC 12) i.toNatClampNeg → N - i.toNatClampNeg < n → lM_X6_trim_173 Q n w m i τ := by
    intro n
    induction n with
    | zero => intro w m i τ fC _ _ _ _ _ _ _ _ _ _ _ _ _ h; omega
    | succ n ih =>
      intro w m i τ fC y0 c c23 i0 i1 m0 em hs hj ht hun hnew htm hn
      rw [lM_X6_trim_173]
      have yy : ∀ k, τ 0 k = σ1 0 k := fun k => by rw [y0]
      have tN : (τ 0 20).toNatClampNeg = N := by rw [yy, y1 20 (by decide), eN]
      have t0 : 0 ≤ τ 0 20 := by rw [yy, y1 20 (by decide)]; exact n0
      refine ⟨fun hi σ13 e13 => ?_, fun hi => ?_⟩
      · have iN : i.toNatClampNeg = N := by have := (hm_le t0 i0).mp hi; omega
        rw [iN] at em htm
        have f20 : σ13 0 20 = m := by rw [e13, hs_me]
        have c13 : ∀ q, q ≠ 0 → σ13 q = τ q := fun q hq => by rw [e13, hg_set_ne hq]
        refine hP w σ13 ⟨fun q a0 a12 a23 => by rw [c13 q a0, c q a12 a23, c1 q a0], fun k a0 a20 => by rw [e13, hs_ne a20, yy, y1 k a0]⟩ ⟨⟨by rw [f20]; exact m0, by rw [f20, em]; have := kp_le (f := fC 23) N; omega⟩, fun j hj2 => ?_, ?_⟩
        · rw [f20] at hj2 ⊢
          rw [c13 12 (by decide)]
          have := hnew j hj2
          rw [em]
          exact this
        · rw [f20, c13 12 (by decide)]; omega
      · have il := hm_nle t0 i0 hi
        rw [tN] at il
        have hk : kp (fC 23) (i.toNatClampNeg + 1) = kp (fC 23) i.toNatClampNeg + (if fC 23 i.toNatClampNeg = 0 then 1 else 0) := rfl
        have mi : m.toNatClampNeg ≤ i.toNatClampNeg := by rw [em]; exact kp_le _
        have ht1 : tl (fC 12) (i.toNatClampNeg + 1) = tl (fC 12) i.toNatClampNeg + (if fC 12 (6 * i.toNatClampNeg) = 18 then 1 else 0) := rfl
        refine ⟨hm_in i0 (by omega), fun hg => ?_, fun hg => ?_⟩
        · rw [c23] at hg
          rw [if_neg hg] at hk
          unfold bM_X6_trim_236
          intro v ev
          have es := hm_s i0 (by omega) ev
          refine ih w m v τ fC y0 c c23 es.2 (by omega) m0 (by rw [es.1, hk]; omega) hs hj ht (fun j hj2 => hun j (by omega)) hnew ?_ (by omega)
          rw [es.1, ht1]; omega
        · rw [c23] at hg
          rw [if_pos hg] at hk
          have keyI : ∀ p (x : Int32) (τ2 : hg_M), 0 ≤ x → x.toNatClampNeg ≤ 6 → (∀ q, q ≠ 12 → τ2 q = τ q) → (∀ j, (j < 6 * m.toNatClampNeg ∨ 6 * m.toNatClampNeg + x.toNatClampNeg ≤ j) → τ2 12 j = τ 12 j) → (∀ k, k < x.toNatClampNeg → τ2 12 (6 * m.toNatClampNeg + k) = fC 12 (6 * i.toNatClampNeg + k)) → 6 - x.toNatClampNeg < p → lM_X6_trim_195 Q (fun k0 k1 k2 k3 => lM_X6_trim_173 Q n k0 k1 k2 k3) p w m i x τ2 := by
            intro p
            induction p with
            | zero => intro x τ2 _ _ _ _ _ h; omega
            | succ p ihp =>
              intro x τ2 x0 x6 d dold dnew hp
              rw [lM_X6_trim_195]
              refine ⟨fun hx v14 e14 => ?_, fun hx => ?_⟩
              · have ex : x.toNatClampNeg = 6 := by
                  have := (hm_le (x := 6) (by decide) x0).mp hx
                  rw [tn6] at this
                  omega
                rw [ex] at dold dnew
                unfold bM_X6_trim_236
                intro v ev
                have es := hm_s i0 (by omega) ev
                have em1 := hm_s m0 (by omega) e14
                have fl : ∀ k, k < 6 → τ2 12 (6 * m.toNatClampNeg + k) = fC 12 (6 * i.toNatClampNeg + k) := dnew
                have k0 := fl 0 (by omega)
                rw [Nat.add_zero, Nat.add_zero] at k0
                refine ih w v14 v τ2 fC (by rw [d 0 (by decide)]; exact y0) (fun q a b => by rw [d q a]; exact c q a b) (by rw [d 23 (by decide)]; exact c23) es.2 (by omega) em1.2 (by rw [em1.1, es.1, hk]; omega) hs hj ht (fun j hj2 => by rw [dold j (by omega)]; exact hun j (by omega)) (fun j hj2 => ?_) ?_ (by omega)
                · by_cases ej : j < m.toNatClampNeg
                  · have := hnew j ej
                    exact ⟨this.1.congr (fun k hk2 => dold _ (by omega)), this.2.congr (fun k hk2 => dold _ (by omega))⟩
                  · have : j = m.toNatClampNeg := by omega
                    subst this
                    have hh := hj i.toNatClampNeg il hg
                    refine ⟨?_, ?_⟩
                    · have := hs i.toNatClampNeg il
                      unfold sOK at this ⊢
                      rw [k0, fl 1 (by omega), fl 2 (by omega), fl 3 (by omega), fl 4 (by omega)]
                      exact this
                    · unfold jk
                      rw [k0, fl 1 (by omega), fl 2 (by omega), em]
                      exact hh
                · rw [em1.1, es.1, ht1]
                  show tl (τ2 12) m.toNatClampNeg + (if τ2 12 (6 * m.toNatClampNeg) = 18 then 1 else 0) ≤ _
                  rw [k0, tl_congr (g := τ 12) _ (fun j hj2 => dold _ (by omega))]
                  omega
              · have xl := hm_nle (a := 6) (by decide) x0 hx
                rw [tn6] at xl
                have ii := hm6 (j := i) (c := x) rfl x0 xl i0 (by omega)
                have mm := hm6 (j := m) (c := x) rfl x0 xl m0 (by omega)
                refine ⟨ii.2, mm.2, fun σ15 e15 v16 ev => ?_⟩
                rw [mm.1, ii.1] at e15
                have es := hm_s x0 (by omega) ev
                refine ihp v16 σ15 es.2 (by omega) (fun q hq => by rw [e15, hg_set_ne hq]; exact d q hq) (fun j hj2 => ?_) (fun k hk2 => ?_) (by omega)
                · rw [e15, hs_ne (by omega)]; exact dold j (by omega)
                · rw [e15, hs_eq]
                  by_cases ek : k = x.toNatClampNeg
                  · rw [if_pos (by omega), dold _ (by omega), hun _ (by omega), ek]
                  · rw [if_neg (by omega)]; exact dnew k (by omega)
          exact ⟨7, keyI _ 0 τ (by decide) (by rw [tn0]; omega) (fun _ _ => rfl) (fun _ _ => rfl) (fun k hk2 => by rw [tn0] at hk2; omega) (by rw [tn0]; omega)⟩
  -- C: jumps lead to where their steps will be
  have keyC : ∀ n (w i : Int32) (τ : hg_M) (g : Nat → Int32), τ 0 = σ1 0 → (∀ q, q ≠ 12 → q ≠ 23 → τ q = σ1 q) → τ 23 = g → 0 ≤ i → i.toNatClampNeg ≤ N → (∀ j, j < N → g j ≠ 0 → σ 12 (6 * j) ≠ 16 ∧ σ 12 (6 * j) ≠ 17) →
      (∀ j, j < N → τ 12 (6 * j) = σ 12 (6 * j)) → (∀ j, j < N → sOK (τ 12) j) → (∀ j, j < N → i.toNatClampNeg ≤ j → jk (τ 12) N j) → (∀ j, j < i.toNatClampNeg → (τ 12 (6 * j) = 16 → 0 ≤ τ 12 (6 * j + 1) ∧ kp g j < (τ 12 (6 * j + 1)).toNatClampNeg ∧ (τ 12 (6 * j + 1)).toNatClampNeg ≤ kp g N) ∧ (τ 12 (6 * j) = 17 → 0 ≤ τ 12 (6 * j + 2) ∧ kp g j < (τ 12 (6 * j + 2)).toNatClampNeg ∧ (τ 12 (6 * j + 2)).toNatClampNeg ≤ kp g N)) → N - i.toNatClampNeg < n → lM_X6_trim_79 Q n w i τ := by
    intro n
    induction n with
    | zero => intro w i τ g _ _ _ _ _ _ _ _ _ _ h; omega
    | succ n ih =>
      intro w i τ g y0 c c23 i0 i1 hg hk hs hjo hjn hn
      rw [lM_X6_trim_79]
      have yy : ∀ k, τ 0 k = σ1 0 k := fun k => by rw [y0]
      have tN : (τ 0 20).toNatClampNeg = N := by rw [yy, y1 20 (by decide), eN]
      have t0 : 0 ≤ τ 0 20 := by rw [yy, y1 20 (by decide)]; exact n0
      refine ⟨fun hi => ?_, fun hi => ?_⟩
      · have iN : i.toNatClampNeg = N := by have := (hm_le t0 i0).mp hi; omega
        refine ⟨N + 1, keyD _ w 0 0 τ τ y0 c rfl (by decide) (by rw [tn0]; omega) (by decide) (by rw [tn0]; rfl) hs (fun j hj _ => ?_) ?_ (fun _ _ => rfl) (fun j hj => by rw [tn0] at hj; omega) (by rw [tn0]; exact Nat.le_refl _) (by rw [tn0]; omega)⟩
        · rw [c23]; exact hjn j (by omega)
        · rw [tl_congr (g := σ 12) _ (fun j hj => hk j hj)]; exact htl
      · have il := hm_nle t0 i0 hi
        rw [tN] at il
        have b0 := hm60 i0 (by omega)
        have go : ∀ τ2, τ2 0 = σ1 0 → (∀ q, q ≠ 12 → τ2 q = τ q) → (∀ j, (∀ k, k < 6 → j ≠ 6 * i.toNatClampNeg + k) → τ2 12 j = τ 12 j) → τ2 12 (6 * i.toNatClampNeg) = τ 12 (6 * i.toNatClampNeg) → sOK (τ2 12) i.toNatClampNeg → ((τ2 12 (6 * i.toNatClampNeg) = 16 → 0 ≤ τ2 12 (6 * i.toNatClampNeg + 1) ∧ kp g i.toNatClampNeg < (τ2 12 (6 * i.toNatClampNeg + 1)).toNatClampNeg ∧ (τ2 12 (6 * i.toNatClampNeg + 1)).toNatClampNeg ≤ kp g N) ∧ (τ2 12 (6 * i.toNatClampNeg) = 17 → 0 ≤ τ2 12 (6 * i.toNatClampNeg + 2) ∧ kp g i.toNatClampNeg < (τ2 12 (6 * i.toNatClampNeg + 2)).toNatClampNeg ∧ (τ2 12 (6 * i.toNatClampNeg + 2)).toNatClampNeg ≤ kp g N)) → bM_X6_trim_162 Q (fun k0 k1 k2 => lM_X6_trim_79 Q n k0 k1 k2) w i τ2 := by
          intro τ2 z0 d dold dk ds dj
          unfold bM_X6_trim_162
          intro v ev
          have es := hm_s i0 (by omega) ev
          refine ih w v τ2 g z0 (fun q a b => by rw [d q a]; exact c q a b) (by rw [d 23 (by decide)]; exact c23) es.2 (by omega) hg (fun j hj => ?_) (fun j hj => ?_) (fun j hj hj2 => ?_) (fun j hj => ?_) (by omega)
          · by_cases e : j = i.toNatClampNeg
            · subst e; rw [dk]; exact hk _ hj
            · rw [dold _ (fun k hk2 => by omega)]; exact hk j hj
          · by_cases e : j = i.toNatClampNeg
            · subst e; exact ds
            · exact (hs j hj).congr (fun k hk2 => dold _ (fun k2 hk3 => by omega))
          · exact (hjo j hj (by omega)).congr (fun k hk2 => dold _ (fun k2 hk3 => by omega))
          · by_cases e : j = i.toNatClampNeg
            · subst e; exact dj
            · have := hjn j (by omega)
              rw [dold (6 * j) (fun k hk2 => by omega), dold (6 * j + 1) (fun k hk2 => by omega), dold (6 * j + 2) (fun k hk2 => by omega)]
              exact this
        have stay : (τ 12 (6 * i.toNatClampNeg) ≠ 16) → (τ 12 (6 * i.toNatClampNeg) ≠ 17) → bM_X6_trim_124 Q (fun k0 k1 k2 => lM_X6_trim_79 Q n k0 k1 k2) w i 0 τ := by
          intro a b
          unfold bM_X6_trim_124
          exact ⟨fun _ => go τ y0 (fun _ _ => rfl) (fun _ _ => rfl) rfl (hs _ il) ⟨fun e => absurd e a, fun e => absurd e b⟩, fun h => absurd (show (0 : Int32) ≤ 0 by decide) h⟩
        have turn : ∀ (p : Int32) (pn9 : Nat), p.toNatClampNeg = pn9 → 0 ≤ p → ¬ p ≤ 0 → (pn9 = 1 ∧ τ 12 (6 * i.toNatClampNeg) = 16 ∨ pn9 = 2 ∧ τ 12 (6 * i.toNatClampNeg) = 17) → bM_X6_trim_124 Q (fun k0 k1 k2 => lM_X6_trim_79 Q n k0 k1 k2) w i p τ := by
          intro p pn9 hp p0 pp hc9
          have ix := hm6 (j := i) (c := p) hp p0 (by omega) i0 (by omega)
          unfold bM_X6_trim_124
          refine ⟨fun h => absurd h pp, fun _ => ⟨ix.2, ix.2, ?_⟩⟩
          rw [ix.1]
          have jo := hjo _ il (Nat.le_refl _)
          have tgt : 0 ≤ τ 12 (6 * i.toNatClampNeg + pn9) ∧ i.toNatClampNeg < (τ 12 (6 * i.toNatClampNeg + pn9)).toNatClampNeg ∧ (τ 12 (6 * i.toNatClampNeg + pn9)).toNatClampNeg ≤ N := by
            rcases hc9 with ⟨rfl, e⟩ | ⟨rfl, e⟩
            · exact jo.1 e
            · exact jo.2 e
          have kept : g i.toNatClampNeg = 0 := by
            by_cases e : g i.toNatClampNeg = 0
            · exact e
            · have := hg _ il e
              rw [← hk _ il] at this
              rcases hc9 with ⟨-, e2⟩ | ⟨-, e2⟩
              · exact absurd e2 this.1
              · exact absurd e2 this.2
          refine qM_goneBefore tgt.1 (by omega) (fun r r0 hr => ⟨ix.2, fun σ11 e11 => ?_⟩)
          rw [c23] at hr
          have sb := hm_sub (s := τ 12 (6 * i.toNatClampNeg + pn9)) (k := r) tgt.1 r0 (by omega)
          have ev : (τ 12 (6 * i.toNatClampNeg + pn9) - r).toNatClampNeg = kp g (τ 12 (6 * i.toNatClampNeg + pn9)).toNatClampNeg := by omega
          have k1 := kp_lt (f := g) tgt.2.1 kept
          have k2 := kp_mono (f := g) tgt.2.2
          have d11 : ∀ j, σ11 12 j = if j = 6 * i.toNatClampNeg + pn9 then τ 12 (6 * i.toNatClampNeg + pn9) - r else τ 12 j := fun j => by rw [e11, hs_eq]
          have hso := hs _ il
          refine go σ11 (by rw [e11, hg_set_ne (by decide)]; exact y0) (fun q hq => by rw [e11, hg_set_ne hq]) (fun j hj => by rw [d11, if_neg (hj pn9 (by omega))]) (by rw [d11, if_neg (by omega)]) ?_ ?_
          · unfold sOK at hso ⊢
            rcases hc9 with ⟨rfl, e⟩ | ⟨rfl, e⟩
            · rw [d11, if_neg (by omega), d11, if_pos rfl, d11, if_neg (by omega), d11, if_neg (by omega), d11, if_neg (by omega), e]
              exact ⟨by decide, by decide, fun h => absurd rfl h, fun _ h => absurd h (by decide), fun _ h => absurd h (by decide), fun h => absurd h (by decide)⟩
            · rw [d11, if_neg (by omega), d11, if_neg (by omega), d11, if_pos rfl, d11, if_neg (by omega), d11, if_neg (by omega), e]
              rw [e] at hso
              exact ⟨by decide, by decide, fun _ => hso.2.2.1 (by decide), fun _ h => absurd h (by decide), fun _ h => absurd h (by decide), fun h => absurd h (by decide)⟩
          · rcases hc9 with ⟨rfl, e⟩ | ⟨rfl, e⟩
            · rw [d11 (6 * i.toNatClampNeg), if_neg (by omega), d11 (6 * i.toNatClampNeg + 1), if_pos rfl, ev, e]
              exact ⟨fun _ => ⟨sb.2, by omega, by omega⟩, fun h => absurd h (by decide)⟩
            · rw [d11 (6 * i.toNatClampNeg), if_neg (by omega), d11 (6 * i.toNatClampNeg + 2), if_pos rfl, ev, e]
              exact ⟨fun h => absurd h (by decide), fun _ => ⟨sb.2, by omega, by omega⟩⟩
        rw [b0.1]
        exact ⟨b0.2.2, fun a => ⟨b0.2.2, fun b => stay a b, fun b => turn 2 2 tn2 (by decide) (by decide) (Or.inr ⟨rfl, b⟩)⟩, fun a => turn 1 1 tn1 (by decide) (by decide) (Or.inl ⟨rfl, a⟩)⟩
  -- B: what is useless is marked, round after round
  have keyB : ∀ n (w x : Int32) (τ : hg_M), (∀ q, q ≠ 23 → τ q = σ1 q) → (∀ j, j < N → τ 23 j ≠ 0 → σ 12 (6 * j) ≠ 16 ∧ σ 12 (6 * j) ≠ 17) → (x ≠ 0 → kp (τ 23) N + 1 < n) → 0 < n → lM_X6_trim_32 Q n w x τ := by
    intro n
    induction n with
    | zero => intro w x τ _ _ _ h; omega
    | succ n ih =>
      intro w x τ c hg hn _
      rw [lM_X6_trim_32]
      have q12 : τ 12 = σ 12 := by rw [c 12 (by decide), c1 12 (by decide)]
      refine ⟨fun _ => ?_, fun hx => ?_⟩
      · exact ⟨N + 1, keyC _ w 0 τ (τ 23) (c 0 (by decide)) (fun q _ b => c q b) rfl (by decide) (by rw [tn0]; omega) hg (fun j _ => by rw [q12]) (fun j hj => by rw [q12]; exact (hc j hj).1) (fun j hj _ => by rw [q12]; exact (hc j hj).2) (fun j hj => by rw [tn0] at hj; omega) (by rw [tn0]; omega)⟩
      · have hn := hn hx
        have key40 : ∀ p (w x2 i : Int32) (τ2 : hg_M), (∀ q, q ≠ 23 → τ2 q = σ1 q) → (∀ j, j < N → τ2 23 j ≠ 0 → σ 12 (6 * j) ≠ 16 ∧ σ 12 (6 * j) ≠ 17) → kp (τ2 23) N ≤ kp (τ 23) N → (x2 ≠ 0 → kp (τ2 23) N < kp (τ 23) N) → 0 ≤ i → i.toNatClampNeg ≤ N → N - i.toNatClampNeg < p → lM_X6_trim_40 Q (fun k0 k1 k2 => lM_X6_trim_32 Q n k0 k1 k2) p w x2 i τ2 := by
          intro p
          induction p with
          | zero => intro w x2 i τ2 _ _ _ _ _ _ h; omega
          | succ p ihp =>
            intro w x2 i τ2 d hg2 hle hlt i0 i1 hp
            rw [lM_X6_trim_40]
            have q20 : τ2 0 20 = σ 0 20 := by rw [d 0 (by decide), y1 20 (by decide)]
            have p12 : τ2 12 = σ 12 := by rw [d 12 (by decide), c1 12 (by decide)]
            rw [q20]
            refine ⟨fun _ => ih w x2 τ2 d hg2 (fun h => by have := hlt h; omega) (by omega), fun hi => ?_⟩
            have il := hm_nle n0 i0 hi
            rw [← eN] at il
            have go : ∀ (w x2 : Int32) τ3, (∀ q, q ≠ 23 → τ3 q = σ1 q) → (∀ j, j < N → τ3 23 j ≠ 0 → σ 12 (6 * j) ≠ 16 ∧ σ 12 (6 * j) ≠ 17) → kp (τ3 23) N ≤ kp (τ 23) N → (x2 ≠ 0 → kp (τ3 23) N < kp (τ 23) N) → bM_X6_trim_68 Q (fun k0 k1 k2 => lM_X6_trim_32 Q n k0 k1 k2) (fun k0 k1 k2 k3 => lM_X6_trim_40 Q (fun k0 k1 k2 => lM_X6_trim_32 Q n k0 k1 k2) p k0 k1 k2 k3) w x2 i τ3 := by
              intro w x2 τ3 d3 hg3 hle3 hlt3
              unfold bM_X6_trim_68
              intro v ev
              have es := hm_s i0 (by omega) ev
              exact ihp w x2 v τ3 d3 hg3 hle3 hlt3 es.2 (by omega) (by omega)
            refine qM_isUseless (by rw [q20]; exact n0) (by rw [q20]; omega) i0 (by rw [q20]; omega) ⟨fun _ => go w x2 τ2 d hg2 hle hlt, fun h => absurd rfl h⟩ (fun hz n16 n17 => ⟨fun h => absurd h (by decide), fun _ => ⟨hm_in i0 (by omega), fun σ6 e6 v7 _ => ?_⟩⟩)
            rw [nar1] at e6
            rw [p12] at n16 n17
            have ks := kp_set (f := τ2 23) (g := σ6 23) (i := i.toNatClampNeg) N (fun j hj => by rw [e6, hs_ne hj]) hz (by rw [e6, hs_me]; decide)
            rw [if_pos il] at ks
            refine go v7 1 σ6 (fun q hq => by rw [e6, hg_set_ne hq]; exact d q hq) (fun j hj hnz => ?_) (by omega) (fun _ => by omega)
            by_cases e : j = i.toNatClampNeg
            · subst e; exact ⟨n16, n17⟩
            · rw [e6, hs_ne e] at hnz
              exact hg2 j hj hnz
        exact ⟨N + 1, key40 _ w 0 0 τ c hg (Nat.le_refl _) (fun h => absurd rfl h) (by decide) (by rw [tn0]; omega) (by rw [tn0]; omega)⟩
  -- A: nothing is marked at first
  have keyA : ∀ n (i : Int32) (τ : hg_M), (∀ q, q ≠ 23 → τ q = σ1 q) → (∀ j, j < i.toNatClampNeg → τ 23 j = 0) → 0 ≤ i → i.toNatClampNeg ≤ N → N - i.toNatClampNeg < n → lM_X6_trim_7 Q n i τ := by
    intro n
    induction n with
    | zero => intro i τ _ _ _ _ h; omega
    | succ n ih =>
      intro i τ c hz i0 i1 hn
      rw [lM_X6_trim_7]
      have q20 : τ 0 20 = σ 0 20 := by rw [c 0 (by decide), y1 20 (by decide)]
      rw [q20]
      refine ⟨fun hi => ?_, fun hi => ?_⟩
      · have iN : i.toNatClampNeg = N := by have := (hm_le n0 i0).mp hi; omega
        refine ⟨kp (τ 23) N + 3, keyB _ 0 1 τ c (fun j hj h => absurd (hz j (by omega)) h) (fun _ => by omega) (by omega)⟩
      · have il := hm_nle n0 i0 hi
        rw [← eN] at il
        refine ⟨hm_in i0 (by omega), fun σ2 e2 v ev => ?_⟩
        rw [nar0] at e2
        have es := hm_s i0 (by omega) ev
        refine ih v σ2 (fun q hq => by rw [e2, hg_set_ne hq]; exact c q hq) (fun j hj => ?_) es.2 (by omega) (by omega)
        rw [e2, hs_eq]
        split
        · rfl
        · exact hz j (by omega)
  exact ⟨N + 1, keyA _ 0 σ1 (fun _ _ => rfl) (fun j hj => by rw [tn0] at hj; omega) (by decide) (by rw [tn0]; omega) (by rw [tn0]; omega)⟩
end MT2
