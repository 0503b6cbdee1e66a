/-! Copies of States. -/
/-- the same, as far as a State lives -/
def Leq (v u : Nat → Nat → Int) : Prop := (v 0 0 = u 0 0 ∧ v 0 1 = u 0 1 ∧ v 0 3 = u 0 3 ∧ v 0 5 = u 0 5 ∧ v 0 7 = u 0 7) ∧ (∀ j, j < 7 → v 1 j = u 1 j) ∧ (∀ s : Nat, (s : Int) < v 0 3 → (∀ j, j < 7 → v (5 + 2 * s) j = u (5 + 2 * s) j) ∧ ∀ j, j < 64 → v (6 + 2 * s) j = u (6 + 2 * s) j) ∧ (∀ r : Nat, (r : Int) < v 0 5 → ∀ j, j < 4 → v (17 + r) j = u (17 + r) j) ∧ ∀ k : Nat, (k : Int) < v 0 7 → ∀ j, j < 11 → v (25 + k) j = u (25 + k) j
theorem Leq.rf {v : Nat → Nat → Int} : Leq v v := ⟨⟨rfl, rfl, rfl, rfl, rfl⟩, fun _ _ => rfl, fun _ _ => ⟨fun _ _ => rfl, fun _ _ => rfl⟩, fun _ _ _ _ => rfl, fun _ _ _ _ => rfl⟩
theorem Leq.sym {v u : Nat → Nat → Int} (h : Leq v u) : Leq u v := by
  obtain ⟨⟨a1, a2, a3, a4, a5⟩, b, c, d, e⟩ := h
  refine ⟨⟨a1.symm, a2.symm, a3.symm, a4.symm, a5.symm⟩, fun j hj => (b j hj).symm, fun s hs => ?_, fun r hr j hj => (d r (by omega) j hj).symm, fun k hk j hj => (e k (by omega) j hj).symm⟩
  exact ⟨fun j hj => ((c s (by omega)).1 j hj).symm, fun j hj => ((c s (by omega)).2 j hj).symm⟩
theorem Leq.ceq {v u : Nat → Nat → Int} (h : Leq v u) : Ceq v u := by
  obtain ⟨⟨a1, a2, a3, a4, a5⟩, b, c, d, e⟩ := h
  exact ⟨⟨a1, a2, a5⟩, fun j hj => b j (by omega), fun k hk => ⟨fun j hj => e k hk j (by omega), e k hk 9 (by omega), fun _ => ⟨e k hk 6 (by omega), e k hk 7 (by omega)⟩⟩⟩
theorem Leq.wf {v u : Nat → Nat → Int} (h : Leq v u) (w : WF v) : WF u := by
  obtain ⟨⟨a1, a2, a3, a4, a5⟩, b, c, d, e⟩ := h
  obtain ⟨w1, w2, w3, w4, w5, w6, w7, w8, w9⟩ := w
  refine ⟨by rw [← a1]; exact w1, by rw [← a2]; exact w2, by rw [← a3]; exact w3, by rw [← a4]; exact w4, by rw [← a5]; exact w5, fun j hj => by rw [← b j hj]; exact w6 j hj, fun s hs => ?_, fun r hr => ?_, fun k hk => ?_⟩
  · rw [← a3] at hs
    obtain ⟨c1, c2⟩ := c s hs
    obtain ⟨x1, x2, x3, x4, x5, x6⟩ := w7 s hs
    unfold WFs
    rw [← a1, ← c1 1 (by decide), ← c1 2 (by decide), ← c1 3 (by decide), ← c1 4 (by decide), ← c1 5 (by decide), ← c1 6 (by decide)]
    exact ⟨x1, x2, x3, x4, x5, fun j hj => by rw [← c2 j hj]; exact x6 j hj⟩
  · rw [← a4] at hr
    unfold WFr
    rw [← a3, ← d r hr 0 (by decide), ← d r hr 1 (by decide), ← d r hr 2 (by decide), ← d r hr 3 (by decide)]
    exact w8 r hr
  · rw [← a5] at hk
    unfold WFc
    rw [← a1, ← a2, ← a3, ← b 0 (by decide), ← b 1 (by decide), ← b 2 (by decide), ← e k hk 0 (by decide), ← e k hk 1 (by decide), ← e k hk 2 (by decide), ← e k hk 3 (by decide), ← e k hk 4 (by decide), ← e k hk 5 (by decide), ← e k hk 6 (by decide), ← e k hk 7 (by decide), ← e k hk 8 (by decide), ← e k hk 9 (by decide), ← e k hk 10 (by decide)]
    exact w9 k hk
theorem Leq.mr {v u : Nat → Nat → Int} {N T : Nat → Int} (h : Leq v u) (m : MR v N T) : MR u N T := by
  obtain ⟨⟨a1, a2, a3, a4, a5⟩, b, c, d, e⟩ := h
  obtain ⟨w1, w2, w3, w4, w5, w6, w7, w8, w9⟩ := m
  refine ⟨by rw [← a1]; exact w1, by rw [← a2]; exact w2, by rw [← a3]; exact w3, by rw [← a4]; exact w4, by rw [← a5]; exact w5, fun j hj => by rw [← b j hj]; exact w6 j hj, fun s hs => ?_, fun r hr => ?_, fun k hk => ?_⟩
  · rw [← a3] at hs
    obtain ⟨c1, c2⟩ := c s hs
    obtain ⟨x1, x2, x3, x4, x5, x6, x7, x8⟩ := w7 s hs
    unfold MRs
    rw [← c1 0 (by decide), ← c1 1 (by decide), ← c1 2 (by decide), ← c1 3 (by decide), ← c1 4 (by decide), ← c1 5 (by decide), ← c1 6 (by decide)]
    exact ⟨x1, x2, x3, x4, x5, x6, x7, fun j hj => by rw [← c2 j hj]; exact x8 j hj⟩
  · rw [← a4] at hr
    unfold MRr
    rw [← d r hr 0 (by decide), ← d r hr 1 (by decide), ← d r hr 2 (by decide), ← d r hr 3 (by decide)]
    exact w8 r hr
  · rw [← a5] at hk
    unfold MRc
    rw [← e k hk 0 (by decide), ← e k hk 1 (by decide), ← e k hk 2 (by decide), ← e k hk 3 (by decide), ← e k hk 4 (by decide), ← e k hk 5 (by decide), ← e k hk 6 (by decide), ← e k hk 7 (by decide), ← e k hk 8 (by decide), ← e k hk 9 (by decide), ← e k hk 10 (by decide)]
    exact w9 k hk
theorem Leq.gi {v u : Nat → Nat → Int} (h : Leq v u) (g : GI v) : GI u := by
  have hc := h.ceq
  obtain ⟨⟨a1, a2, a3, a4, a5⟩, b, c, d, e⟩ := h
  have b1 := b 1 (by decide)
  refine ⟨fun k l hk hl hkl k5 l5 hcf => ?_, fun k hk k5 cc t h0 h1 hF => ?_, fun k hk k5 => ?_⟩
  · rw [← a5] at hk hl
    rw [← e k hk 5 (by decide)] at k5
    rw [← e l hl 5 (by decide)] at l5
    unfold cfl at hcf
    rw [← e k hk 0 (by decide), ← e k hk 1 (by decide), ← e k hk 6 (by decide), ← e l hl 0 (by decide), ← e l hl 1 (by decide), ← e l hl 6 (by decide)] at hcf
    rw [← e k hk 3 (by decide), ← e k hk 7 (by decide), ← e l hl 3 (by decide), ← e l hl 7 (by decide), ← b1]
    exact g.1 k l hk hl hkl k5 l5 hcf
  · rw [← a5] at hk
    rw [← e k hk 5 (by decide)] at k5
    exact g.2.1 k hk k5 cc t h0 (by rw [a2]; exact h1) ((hc.fit hk).mpr hF)
  · rw [← a5] at hk
    rw [← e k hk 5 (by decide)] at k5
    rw [← e k hk 9 (by decide)]
    exact g.2.2 k hk k5
theorem Leq.good {v u : Nat → Nat → Int} (h : Leq v u) (g : Good v) : Good u := ⟨h.wf g.1, h.gi g.2⟩
theorem e0_copy {h : zH} {P Q : Nat} (h1 : Q ≠ P) : ∃ hc, q_X0_copyFrom h P Q = some ((), hc) ∧ hc.2 = h.2 ∧ (∀ q j, q ≠ P → hc.1 q j = h.1 q j) ∧ ∀ j, j < 11 → hc.1 P j = h.1 Q j := by
  unfold q_X0_copyFrom
  simp only [zlet_b]
  refine ⟨_, rfl, rfl, fun q j q1 => ?_, fun j hj => ?_⟩
  · simp only [zput_1]
    simp [q1]
  · simp only [zput_1]
    obtain rfl | rfl | rfl | rfl | rfl | rfl | rfl | rfl | rfl | rfl | rfl : j = 0 ∨ j = 1 ∨ j = 2 ∨ j = 3 ∨ j = 4 ∨ j = 5 ∨ j = 6 ∨ j = 7 ∨ j = 8 ∨ j = 9 ∨ j = 10 := by omega
    all_goals simp [h1]
theorem e3_copy {h : zH} {P Q : Nat} (h1 : Q ≠ P) : ∃ hc, q_X3_copyFrom h P Q = some ((), hc) ∧ hc.2 = h.2 ∧ (∀ q j, q ≠ P → hc.1 q j = h.1 q j) ∧ ∀ j, j < 4 → hc.1 P j = h.1 Q j := by
  unfold q_X3_copyFrom
  simp only [zlet_b]
  refine ⟨_, rfl, rfl, fun q j q1 => ?_, fun j hj => ?_⟩
  · simp only [zput_1]
    simp [q1]
  · simp only [zput_1]
    obtain rfl | rfl | rfl | rfl : j = 0 ∨ j = 1 ∨ j = 2 ∨ j = 3 := by omega
    all_goals simp [h1]
section CP
variable {A A' : Nat}
/-- apart -/
def Apt (A A' : Nat) : Prop := A + 41 ≤ A' ∨ A' + 41 ≤ A
theorem m_cps {N : Nat} (hN6 : N ≤ 6) (hd : Apt A A') {K : Int → zH → Option (Unit × zH)} : ∀ (r i f : Nat) (g : zH), i + r = N → r < f → cly g.2 A → cly g.2 A' → g.1 A 3 = (N : Int) → (∀ s, s < i → (∀ j, j < 7 → g.1 (A + (5 + 2 * s)) j = g.1 (A' + (5 + 2 * s)) j) ∧ ∀ j, j < 64 → g.1 (A + (6 + 2 * s)) j = g.1 (A' + (6 + 2 * s)) j) →
    ∃ g', q_X4_copyFrom_L57 A A' K f (i : Int) g = K (N : Int) g' ∧ (∀ s, s < N → (∀ j, j < 7 → g'.1 (A + (5 + 2 * s)) j = g'.1 (A' + (5 + 2 * s)) j) ∧ ∀ j, j < 64 → g'.1 (A + (6 + 2 * s)) j = g'.1 (A' + (6 + 2 * s)) j) ∧ g'.2 = g.2 ∧ ∀ q j, (q < A + 5 ∨ A + 17 ≤ q) → g'.1 q j = g.1 q j := by
  unfold Apt at hd
  intro r
  induction r with
  | zero =>
    intro i f g q1 q2 hl hl' h3 hp
    obtain ⟨f', rfl⟩ : ∃ f', f = f' + 1 := ⟨f - 1, by omega⟩
    have e : i = N := by omega
    subst e
    refine ⟨g, ?_, hp, rfl, fun _ _ _ => rfl⟩
    rw [q_X4_copyFrom_L57, h3, if_pos (Int.le_refl _)]
  | succ r ih =>
    intro i f g q1 q2 hl hl' h3 hp
    obtain ⟨f', rfl⟩ : ∃ f', f = f' + 1 := ⟨f - 1, by omega⟩
    have hi6 : i < 6 := by omega
    have hii : i < 1000000 := by omega
    have hni : ¬ (N : Int) ≤ (i : Int) := by omega
    have e1 : g.2 (A + (5 + 2 * i)) 7 = A + (6 + 2 * i) := hl.er hi6
    have e2 : g.2 (A' + (5 + 2 * i)) 7 = A' + (6 + 2 * i) := hl'.er hi6
    obtain ⟨gc, k1, k2, k3, k4, k5⟩ := e5_copy (h := g) (P := A + (5 + 2 * i)) (A := A' + (5 + 2 * i)) (by omega) (by rw [e1]; omega) (by rw [e2]; omega)
    rw [e1] at k3 k5
    rw [e2] at k5
    have ko : ∀ q j, (q < A + 5 + 2 * i ∨ A + 7 + 2 * i ≤ q) → gc.1 q j = g.1 q j := fun q j hq => k3 q j (by omega) (by omega)
    obtain ⟨g', p1, p2, p3, p4⟩ := ih (i + 1) f' gc (by omega) (by omega) (by rw [k2]; exact hl) (by rw [k2]; exact hl') (by rw [ko _ _ (by omega)]; exact h3) (fun s hs => by
      by_cases e : s = i
      · subst e
        exact ⟨fun j hj => (k4 j hj).trans (ko _ _ (by omega)).symm, fun j hj => (k5 j hj).trans (ko _ _ (by omega)).symm⟩
      · obtain ⟨x1, x2⟩ := hp s (by omega)
        exact ⟨fun j hj => by rw [ko _ _ (by omega), ko _ _ (by omega)]; exact x1 j hj, fun j hj => by rw [ko _ _ (by omega), ko _ _ (by omega)]; exact x2 j hj⟩)
    refine ⟨g', ?_, p2, p3.trans k2, fun q j hq => (p4 q j hq).trans (ko q j (by omega))⟩
    rw [q_X4_copyFrom_L57, h3, if_neg hni, zgpos hi6, zgpos hi6, Int.toNat_natCast, hl.sts, hl.st, hl'.sts, hl'.st, k1, zbd_some]
    simp only [zlet_b]
    rw [zw_s hii]
    exact p1
theorem m_cpr {N : Nat} (hN : N ≤ 8) (hd : Apt A A') {K : Int → zH → Option (Unit × zH)} : ∀ (r i f : Nat) (g : zH), i + r = N → r < f → cly g.2 A → cly g.2 A' → g.1 A 5 = (N : Int) → (∀ s, s < i → ∀ j, j < 4 → g.1 (A + (17 + s)) j = g.1 (A' + (17 + s)) j) →
    ∃ g', q_X4_copyFrom_L88 A A' K f (i : Int) g = K (N : Int) g' ∧ (∀ s, s < N → ∀ j, j < 4 → g'.1 (A + (17 + s)) j = g'.1 (A' + (17 + s)) j) ∧ g'.2 = g.2 ∧ ∀ q j, (q < A + 17 ∨ A + 25 ≤ q) → g'.1 q j = g.1 q j := by
  unfold Apt at hd
  intro r
  induction r with
  | zero =>
    intro i f g q1 q2 hl hl' h3 hp
    obtain ⟨f', rfl⟩ : ∃ f', f = f' + 1 := ⟨f - 1, by omega⟩
    have e : i = N := by omega
    subst e
    refine ⟨g, ?_, hp, rfl, fun _ _ _ => rfl⟩
    rw [q_X4_copyFrom_L88, h3, if_pos (Int.le_refl _)]
  | succ r ih =>
    intro i f g q1 q2 hl hl' h3 hp
    obtain ⟨f', rfl⟩ : ∃ f', f = f' + 1 := ⟨f - 1, by omega⟩
    have hi8 : i < 8 := by omega
    have hii : i < 1000000 := by omega
    have hni : ¬ (N : Int) ≤ (i : Int) := by omega
    obtain ⟨gc, k1, k2, k3, k4⟩ := e3_copy (h := g) (P := A + (17 + i)) (Q := A' + (17 + i)) (by omega)
    have ko : ∀ q j, (q < A + 17 + i ∨ A + 18 + i ≤ q) → gc.1 q j = g.1 q j := fun q j hq => k3 q j (by omega)
    obtain ⟨g', p1, p2, p3, p4⟩ := ih (i + 1) f' gc (by omega) (by omega) (by rw [k2]; exact hl) (by rw [k2]; exact hl') (by rw [ko _ _ (by omega)]; exact h3) (fun s hs j hj => by
      by_cases e : s = i
      · subst e
        exact (k4 j hj).trans (ko _ _ (by omega)).symm
      · rw [ko _ _ (by omega), ko _ _ (by omega)]
        exact hp s (by omega) j hj)
    refine ⟨g', ?_, p2, p3.trans k2, fun q j hq => (p4 q j hq).trans (ko q j (by omega))⟩
    rw [q_X4_copyFrom_L88, h3, if_neg hni, zgpos hi8, zgpos hi8, Int.toNat_natCast, hl.rns, hl.rn, hl'.rns, hl'.rn, k1, zbd_some]
    simp only [zlet_b]
    rw [zw_s hii]
    exact p1
theorem m_cpc {N : Nat} (hN : N ≤ 16) (hd : Apt A A') {K : Int → zH → Option (Unit × zH)} : ∀ (r i f : Nat) (g : zH), i + r = N → r < f → cly g.2 A → cly g.2 A' → g.1 A 7 = (N : Int) → (∀ s, s < i → ∀ j, j < 11 → g.1 (A + (25 + s)) j = g.1 (A' + (25 + s)) j) →
    ∃ g', q_X4_copyFrom_L119 A A' K f (i : Int) g = K (N : Int) g' ∧ (∀ s, s < N → ∀ j, j < 11 → g'.1 (A + (25 + s)) j = g'.1 (A' + (25 + s)) j) ∧ g'.2 = g.2 ∧ ∀ q j, (q < A + 25 ∨ A + 41 ≤ q) → g'.1 q j = g.1 q j := by
  unfold Apt at hd
  intro r
  induction r with
  | zero =>
    intro i f g q1 q2 hl hl' h3 hp
    obtain ⟨f', rfl⟩ : ∃ f', f = f' + 1 := ⟨f - 1, by omega⟩
    have e : i = N := by omega
    subst e
    refine ⟨g, ?_, hp, rfl, fun _ _ _ => rfl⟩
    rw [q_X4_copyFrom_L119, h3, if_pos (Int.le_refl _)]
  | succ r ih =>
    intro i f g q1 q2 hl hl' h3 hp
    obtain ⟨f', rfl⟩ : ∃ f', f = f' + 1 := ⟨f - 1, by omega⟩
    have hi16 : i < 16 := by omega
    have hii : i < 1000000 := by omega
    have hni : ¬ (N : Int) ≤ (i : Int) := by omega
    obtain ⟨gc, k1, k2, k3, k4⟩ := e0_copy (h := g) (P := A + (25 + i)) (Q := A' + (25 + i)) (by omega)
    have ko : ∀ q j, (q < A + 25 + i ∨ A + 26 + i ≤ q) → gc.1 q j = g.1 q j := fun q j hq => k3 q j (by omega)
    obtain ⟨g', p1, p2, p3, p4⟩ := ih (i + 1) f' gc (by omega) (by omega) (by rw [k2]; exact hl) (by rw [k2]; exact hl') (by rw [ko _ _ (by omega)]; exact h3) (fun s hs j hj => by
      by_cases e : s = i
      · subst e
        exact (k4 j hj).trans (ko _ _ (by omega)).symm
      · rw [ko _ _ (by omega), ko _ _ (by omega)]
        exact hp s (by omega) j hj)
    refine ⟨g', ?_, p2, p3.trans k2, fun q j hq => (p4 q j hq).trans (ko q j (by omega))⟩
    rw [q_X4_copyFrom_L119, h3, if_neg hni, zgpos hi16, zgpos hi16, Int.toNat_natCast, hl.cls, hl.cl, hl'.cls, hl'.cl, k1, zbd_some]
    simp only [zlet_b]
    rw [zw_s hii]
    exact p1
theorem e4_copy {h : zH} (hl : cly h.2 A) (hc : CV h A') (hd : Apt A A') : ∃ h', q_X4_copyFrom h A A' = some ((), h') ∧ Leq (vw h.1 A') (vw h'.1 A) ∧ Frm A h h' := by
  have hs := hc.2.nS
  have hr := hc.2.nR
  have hn := hc.2.nC
  have hl' := hc.1
  have hd' := hd
  unfold Apt at hd'
  unfold q_X4_copyFrom
  simp only [zlet_b]
  generalize hg0 : zput (zput (zput (zput (zput h A 0 (h.1 A' 0)) A 1 ((zput h A 0 (h.1 A' 0)).1 A' 1)) A 3 ((zput (zput h A 0 (h.1 A' 0)) A 1 ((zput h A 0 (h.1 A' 0)).1 A' 1)).1 A' 3)) A 5 ((zput (zput (zput h A 0 (h.1 A' 0)) A 1 ((zput h A 0 (h.1 A' 0)).1 A' 1)) A 3 ((zput (zput h A 0 (h.1 A' 0)) A 1 ((zput h A 0 (h.1 A' 0)).1 A' 1)).1 A' 3)).1 A' 5)) A 7 ((zput (zput (zput (zput h A 0 (h.1 A' 0)) A 1 ((zput h A 0 (h.1 A' 0)).1 A' 1)) A 3 ((zput (zput h A 0 (h.1 A' 0)) A 1 ((zput h A 0 (h.1 A' 0)).1 A' 1)).1 A' 3)) A 5 ((zput (zput (zput h A 0 (h.1 A' 0)) A 1 ((zput h A 0 (h.1 A' 0)).1 A' 1)) A 3 ((zput (zput h A 0 (h.1 A' 0)) A 1 ((zput h A 0 (h.1 A' 0)).1 A' 1)).1 A' 3)).1 A' 5)).1 A' 7) = g0
  have hAA : A' ≠ A := by omega
  have g2 : g0.2 = h.2 := by rw [← hg0]; rfl
  have go : ∀ q j, q ≠ A → g0.1 q j = h.1 q j := fun q j hq => by
    rw [← hg0]
    simp only [zput_1]
    simp [hq]
  have ga : ∀ j, (j = 0 ∨ j = 1 ∨ j = 3 ∨ j = 5 ∨ j = 7) → g0.1 A j = h.1 A' j := fun j hj => by
    rw [← hg0]
    simp only [zput_1]
    rcases hj with rfl | rfl | rfl | rfl | rfl <;> simp [hAA]
  clear hg0
  rw [g2, hl.set, hl'.set]
  generalize hg1 : zcpy g0 (A' + 1) (A + 1) 7 = g1
  have c2 : g1.2 = h.2 := by rw [← hg1]; exact g2
  have co : ∀ q j, q ≠ A → q ≠ A + 1 → g1.1 q j = h.1 q j := fun q j q1 q2 => by
    rw [← hg1, zcpy_ne (Or.inl q2), go q j q1]
  have ca : ∀ j, (j = 0 ∨ j = 1 ∨ j = 3 ∨ j = 5 ∨ j = 7) → g1.1 A j = h.1 A' j := fun j hj => by
    rw [← hg1, zcpy_ne (Or.inl (by omega)), ga j hj]
  have cs : ∀ j, j < 7 → g1.1 (A + 1) j = h.1 (A' + 1) j := fun j hj => by
    rw [← hg1, zcpy_at hj, go _ j (by omega)]
  clear hg1
  have n3 : g1.1 A 3 = (nSt (vw h.1 A') : Int) := (ca 3 (by omega)).trans (a_n3 hc)
  obtain ⟨gs, s1, s2, s3, s4⟩ := m_cps (A := A) (A' := A') (N := nSt (vw h.1 A')) hs.2 hd (K := fun x9 h10 => q_X4_copyFrom_L88 A A' (fun x13 h14 => q_X4_copyFrom_L119 A A' (fun x17 h18 => some ((), h18)) zF 0 h14) zF 0 h10) (nSt (vw h.1 A')) 0 zF g1 (Nat.zero_add _) (by unfold zF; omega) (by rw [c2]; exact hl) (by rw [c2]; exact hl') n3 (fun s hs => by omega)
  have s1' := s1
  rw [show ((0 : Nat) : Int) = 0 from rfl] at s1'
  rw [s1']
  have n5 : gs.1 A 5 = (nRn (vw h.1 A') : Int) := by rw [s4 _ _ (by omega), ca 5 (by omega)]; exact a_n5 hc
  obtain ⟨gr, r1, r2, r3, r4⟩ := m_cpr (A := A) (A' := A') (N := nRn (vw h.1 A')) hr.2 hd (K := fun x13 h14 => q_X4_copyFrom_L119 A A' (fun x17 h18 => some ((), h18)) zF 0 h14) (nRn (vw h.1 A')) 0 zF gs (Nat.zero_add _) (by unfold zF; omega) (by rw [s3, c2]; exact hl) (by rw [s3, c2]; exact hl') n5 (fun s hs => by omega)
  have r1' := r1
  rw [show ((0 : Nat) : Int) = 0 from rfl] at r1'
  rw [r1']
  have n7 : gr.1 A 7 = (nCl (vw h.1 A') : Int) := by rw [r4 _ _ (by omega), s4 _ _ (by omega), ca 7 (by omega)]; exact a_n7 hc
  obtain ⟨gc, l1, l2, l3, l4⟩ := m_cpc (A := A) (A' := A') (N := nCl (vw h.1 A')) hn.2 hd (K := fun x17 h18 => some ((), h18)) (nCl (vw h.1 A')) 0 zF gr (Nat.zero_add _) (by unfold zF; omega) (by rw [r3, s3, c2]; exact hl) (by rw [r3, s3, c2]; exact hl') n7 (fun s hs => by omega)
  have l1' := l1
  rw [show ((0 : Nat) : Int) = 0 from rfl] at l1'
  have out : ∀ q j, (q < A ∨ A + 41 ≤ q) → gc.1 q j = h.1 q j := fun q j hq => by
    rw [l4 _ _ (by omega), r4 _ _ (by omega), s4 _ _ (by omega), co _ _ (by omega) (by omega)]
  have row0 : ∀ j, (j = 0 ∨ j = 1 ∨ j = 3 ∨ j = 5 ∨ j = 7) → vw h.1 A' 0 j = vw gc.1 A 0 j := fun j hj => by
    rw [vw_at (by decide), vw_at (by decide)]
    show h.1 A' j = gc.1 A j
    rw [l4 _ _ (by omega), r4 _ _ (by omega), s4 _ _ (by omega), ca j hj]
  refine ⟨gc, l1', ⟨⟨row0 0 (by omega), row0 1 (by omega), row0 3 (by omega), row0 5 (by omega), row0 7 (by omega)⟩, fun j hj => ?_, fun s hs7 => ⟨fun j hj => ?_, fun j hj => ?_⟩, fun r hr7 j hj => ?_, fun k hk7 j hj => ?_⟩, ⟨l3.trans (r3.trans (s3.trans c2)), out⟩⟩
  · rw [vw_at (by decide), vw_at (by decide), l4 _ _ (by omega), r4 _ _ (by omega), s4 _ _ (by omega), cs j hj]
  · rw [vw_at (by omega), vw_at (by omega), l4 _ _ (by omega), r4 _ _ (by omega), (s2 s (by omega)).1 j hj, s4 _ _ (by omega), co _ _ (by omega) (by omega)]
  · rw [vw_at (by omega), vw_at (by omega), l4 _ _ (by omega), r4 _ _ (by omega), (s2 s (by omega)).2 j hj, s4 _ _ (by omega), co _ _ (by omega) (by omega)]
  · rw [vw_at (by omega), vw_at (by omega), l4 _ _ (by omega), r2 r (by omega) j hj, r4 _ _ (by omega), s4 _ _ (by omega), co _ _ (by omega) (by omega)]
  · rw [vw_at (by omega), vw_at (by omega), l2 k (by omega) j hj, l4 _ _ (by omega), r4 _ _ (by omega), s4 _ _ (by omega), co _ _ (by omega) (by omega)]
end CP
