/-! What whole's parts 70 71 72 73 74 75 say of the class alone. -/
/-- the same, as far as a State lives -/
def Leq (v u : Nat → Nat → Int) : Prop := (v 0 0 = u 0 0 ∧ v 0 1 = u 0 1 ∧ v 0 3 = u 0 3 ∧ v 0 5 = u 0 5 ∧ v 0 7 = u 0 7) ∧ (∀ j, j < 7 → v 1 j = u 1 j) ∧ (∀ s : Nat, (s : Int) < v 0 3 → (∀ j, j < 7 → v (5 + 2 * s) j = u (5 + 2 * s) j) ∧ ∀ j, j < 64 → v (6 + 2 * s) j = u (6 + 2 * s) j) ∧ (∀ r : Nat, (r : Int) < v 0 5 → ∀ j, j < 4 → v (17 + r) j = u (17 + r) j) ∧ ∀ k : Nat, (k : Int) < v 0 7 → ∀ j, j < 11 → v (25 + k) j = u (25 + k) j
theorem Leq.rf {v : Nat → Nat → Int} : Leq v v := ⟨⟨rfl, rfl, rfl, rfl, rfl⟩, fun _ _ => rfl, fun _ _ => ⟨fun _ _ => rfl, fun _ _ => rfl⟩, fun _ _ _ _ => rfl, fun _ _ _ _ => rfl⟩
theorem Leq.sym {v u : Nat → Nat → Int} (h : Leq v u) : Leq u v := by
  obtain ⟨⟨a1, a2, a3, a4, a5⟩, b, c, d, e⟩ := h
  refine ⟨⟨a1.symm, a2.symm, a3.symm, a4.symm, a5.symm⟩, fun j hj => (b j hj).symm, fun s hs => ?_, fun r hr j hj => (d r (by omega) j hj).symm, fun k hk j hj => (e k (by omega) j hj).symm⟩
  exact ⟨fun j hj => ((c s (by omega)).1 j hj).symm, fun j hj => ((c s (by omega)).2 j hj).symm⟩
theorem Leq.ceq {v u : Nat → Nat → Int} (h : Leq v u) : Ceq v u := by
  obtain ⟨⟨a1, a2, a3, a4, a5⟩, b, c, d, e⟩ := h
  exact ⟨⟨a1, a2, a5⟩, fun j hj => b j (by omega), fun k hk => ⟨fun j hj => e k hk j (by omega), e k hk 9 (by omega), fun _ => ⟨e k hk 6 (by omega), e k hk 7 (by omega)⟩⟩⟩
theorem Leq.wf {v u : Nat → Nat → Int} (h : Leq v u) (w : WF v) : WF u := by
  obtain ⟨⟨a1, a2, a3, a4, a5⟩, b, c, d, e⟩ := h
  obtain ⟨w1, w2, w3, w4, w5, w6, w7, w8, w9⟩ := w
  refine ⟨by rw [← a1]; exact w1, by rw [← a2]; exact w2, by rw [← a3]; exact w3, by rw [← a4]; exact w4, by rw [← a5]; exact w5, fun j hj => by rw [← b j hj]; exact w6 j hj, fun s hs => ?_, fun r hr => ?_, fun k hk => ?_⟩
  · rw [← a3] at hs
    obtain ⟨c1, c2⟩ := c s hs
    obtain ⟨x1, x2, x3, x4, x5, x6⟩ := w7 s hs
    unfold WFs
    rw [← a1, ← c1 1 (by decide), ← c1 2 (by decide), ← c1 3 (by decide), ← c1 4 (by decide), ← c1 5 (by decide), ← c1 6 (by decide)]
    exact ⟨x1, x2, x3, x4, x5, fun j hj => by rw [← c2 j hj]; exact x6 j hj⟩
  · rw [← a4] at hr
    unfold WFr
    rw [← a3, ← d r hr 0 (by decide), ← d r hr 1 (by decide), ← d r hr 2 (by decide), ← d r hr 3 (by decide)]
    exact w8 r hr
  · rw [← a5] at hk
    unfold WFc
    rw [← a1, ← a2, ← a3, ← b 0 (by decide), ← b 1 (by decide), ← b 2 (by decide), ← e k hk 0 (by decide), ← e k hk 1 (by decide), ← e k hk 2 (by decide), ← e k hk 3 (by decide), ← e k hk 4 (by decide), ← e k hk 5 (by decide), ← e k hk 6 (by decide), ← e k hk 7 (by decide), ← e k hk 8 (by decide), ← e k hk 9 (by decide), ← e k hk 10 (by decide)]
    exact w9 k hk
theorem Leq.gi {v u : Nat → Nat → Int} (h : Leq v u) (g : GI v) : GI u := by
  have hc := h.ceq
  obtain ⟨⟨a1, a2, a3, a4, a5⟩, b, c, d, e⟩ := h
  have b1 := b 1 (by decide)
  refine ⟨fun k l hk hl hkl k5 l5 hcf => ?_, fun k hk k5 cc t h0 h1 hF => ?_, fun k hk k5 => ?_⟩
  · rw [← a5] at hk hl
    rw [← e k hk 5 (by decide)] at k5
    rw [← e l hl 5 (by decide)] at l5
    unfold cfl at hcf
    rw [← e k hk 0 (by decide), ← e k hk 1 (by decide), ← e k hk 6 (by decide), ← e l hl 0 (by decide), ← e l hl 1 (by decide), ← e l hl 6 (by decide)] at hcf
    rw [← e k hk 3 (by decide), ← e k hk 7 (by decide), ← e l hl 3 (by decide), ← e l hl 7 (by decide), ← b1]
    exact g.1 k l hk hl hkl k5 l5 hcf
  · rw [← a5] at hk
    rw [← e k hk 5 (by decide)] at k5
    exact g.2.1 k hk k5 cc t h0 (by rw [a2]; exact h1) ((hc.fit hk).mpr hF)
  · rw [← a5] at hk
    rw [← e k hk 5 (by decide)] at k5
    rw [← e k hk 9 (by decide)]
    exact g.2.2 k hk k5
theorem Leq.good {v u : Nat → Nat → Int} (h : Leq v u) (g : Good v) : Good u := ⟨h.wf g.1, h.gi g.2⟩
theorem e0_copy {h : zH} {P Q : Nat} (h1 : Q ≠ P) : ∃ hc, q_X0_copyFrom h P Q = some ((), hc) ∧ hc.2 = h.2 ∧ (∀ q j, q ≠ P → hc.1 q j = h.1 q j) ∧ ∀ j, j < 11 → hc.1 P j = h.1 Q j := by
  unfold q_X0_copyFrom
  simp only [zlet_b]
  refine ⟨_, rfl, rfl, fun q j q1 => ?_, fun j hj => ?_⟩
  · simp only [zput_1]
    simp [q1]
  · simp only [zput_1]
    obtain rfl | rfl | rfl | rfl | rfl | rfl | rfl | rfl | rfl | rfl | rfl : j = 0 ∨ j = 1 ∨ j = 2 ∨ j = 3 ∨ j = 4 ∨ j = 5 ∨ j = 6 ∨ j = 7 ∨ j = 8 ∨ j = 9 ∨ j = 10 := by omega
    all_goals simp [h1]
theorem e3_copy {h : zH} {P Q : Nat} (h1 : Q ≠ P) : ∃ hc, q_X3_copyFrom h P Q = some ((), hc) ∧ hc.2 = h.2 ∧ (∀ q j, q ≠ P → hc.1 q j = h.1 q j) ∧ ∀ j, j < 4 → hc.1 P j = h.1 Q j := by
  unfold q_X3_copyFrom
  simp only [zlet_b]
  refine ⟨_, rfl, rfl, fun q j q1 => ?_, fun j hj => ?_⟩
  · simp only [zput_1]
    simp [q1]
  · simp only [zput_1]
    obtain rfl | rfl | rfl | rfl : j = 0 ∨ j = 1 ∨ j = 2 ∨ j = 3 := by omega
    all_goals simp [h1]
section CP
variable {A A' : Nat}
/-- apart -/
def Apt (A A' : Nat) : Prop := A + 41 ≤ A' ∨ A' + 41 ≤ A
theorem m_cps {N : Nat} (hN6 : N ≤ 6) (hd : Apt A A') {K : Int → zH → Option (Unit × zH)} : ∀ (r i f : Nat) (g : zH), i + r = N → r < f → cly g.2 A → cly g.2 A' → g.1 A 3 = (N : Int) → (∀ s, s < i → (∀ j, j < 7 → g.1 (A + (5 + 2 * s)) j = g.1 (A' + (5 + 2 * s)) j) ∧ ∀ j, j < 64 → g.1 (A + (6 + 2 * s)) j = g.1 (A' + (6 + 2 * s)) j) →
    ∃ g', q_X4_copyFrom_L57 A A' K f (i : Int) g = K (N : Int) g' ∧ (∀ s, s < N → (∀ j, j < 7 → g'.1 (A + (5 + 2 * s)) j = g'.1 (A' + (5 + 2 * s)) j) ∧ ∀ j, j < 64 → g'.1 (A + (6 + 2 * s)) j = g'.1 (A' + (6 + 2 * s)) j) ∧ g'.2 = g.2 ∧ ∀ q j, (q < A + 5 ∨ A + 17 ≤ q) → g'.1 q j = g.1 q j := by
  unfold Apt at hd
  intro r
  induction r with
  | zero =>
    intro i f g q1 q2 hl hl' h3 hp
    obtain ⟨f', rfl⟩ : ∃ f', f = f' + 1 := ⟨f - 1, by omega⟩
    have e : i = N := by omega
    subst e
    refine ⟨g, ?_, hp, rfl, fun _ _ _ => rfl⟩
    rw [q_X4_copyFrom_L57, h3, if_pos (Int.le_refl _)]
  | succ r ih =>
    intro i f g q1 q2 hl hl' h3 hp
    obtain ⟨f', rfl⟩ : ∃ f', f = f' + 1 := ⟨f - 1, by omega⟩
    have hi6 : i < 6 := by omega
    have hii : i < 1000000 := by omega
    have hni : ¬ (N : Int) ≤ (i : Int) := by omega
    have e1 : g.2 (A + (5 + 2 * i)) 7 = A + (6 + 2 * i) := hl.er hi6
    have e2 : g.2 (A' + (5 + 2 * i)) 7 = A' + (6 + 2 * i) := hl'.er hi6
    obtain ⟨gc, k1, k2, k3, k4, k5⟩ := e5_copy (h := g) (P := A + (5 + 2 * i)) (A := A' + (5 + 2 * i)) (by omega) (by rw [e1]; omega) (by rw [e2]; omega)
    rw [e1] at k3 k5
    rw [e2] at k5
    have ko : ∀ q j, (q < A + 5 + 2 * i ∨ A + 7 + 2 * i ≤ q) → gc.1 q j = g.1 q j := fun q j hq => k3 q j (by omega) (by omega)
    obtain ⟨g', p1, p2, p3, p4⟩ := ih (i + 1) f' gc (by omega) (by omega) (by rw [k2]; exact hl) (by rw [k2]; exact hl') (by rw [ko _ _ (by omega)]; exact h3) (fun s hs => by
      by_cases e : s = i
      · subst e
        exact ⟨fun j hj => (k4 j hj).trans (ko _ _ (by omega)).symm, fun j hj => (k5 j hj).trans (ko _ _ (by omega)).symm⟩
      · obtain ⟨x1, x2⟩ := hp s (by omega)
        exact ⟨fun j hj => by rw [ko _ _ (by omega), ko _ _ (by omega)]; exact x1 j hj, fun j hj => by rw [ko _ _ (by omega), ko _ _ (by omega)]; exact x2 j hj⟩)
    refine ⟨g', ?_, p2, p3.trans k2, fun q j hq => (p4 q j hq).trans (ko q j (by omega))⟩
    rw [q_X4_copyFrom_L57, h3, if_neg hni, zgpos hi6, zgpos hi6, Int.toNat_natCast, hl.sts, hl.st, hl'.sts, hl'.st, k1, zbd_some]
    simp only [zlet_b]
    rw [zw_s hii]
    exact p1
theorem m_cpr {N : Nat} (hN : N ≤ 8) (hd : Apt A A') {K : Int → zH → Option (Unit × zH)} : ∀ (r i f : Nat) (g : zH), i + r = N → r < f → cly g.2 A → cly g.2 A' → g.1 A 5 = (N : Int) → (∀ s, s < i → ∀ j, j < 4 → g.1 (A + (17 + s)) j = g.1 (A' + (17 + s)) j) →
    ∃ g', q_X4_copyFrom_L88 A A' K f (i : Int) g = K (N : Int) g' ∧ (∀ s, s < N → ∀ j, j < 4 → g'.1 (A + (17 + s)) j = g'.1 (A' + (17 + s)) j) ∧ g'.2 = g.2 ∧ ∀ q j, (q < A + 17 ∨ A + 25 ≤ q) → g'.1 q j = g.1 q j := by
  unfold Apt at hd
  intro r
  induction r with
  | zero =>
    intro i f g q1 q2 hl hl' h3 hp
    obtain ⟨f', rfl⟩ : ∃ f', f = f' + 1 := ⟨f - 1, by omega⟩
    have e : i = N := by omega
    subst e
    refine ⟨g, ?_, hp, rfl, fun _ _ _ => rfl⟩
    rw [q_X4_copyFrom_L88, h3, if_pos (Int.le_refl _)]
  | succ r ih =>
    intro i f g q1 q2 hl hl' h3 hp
    obtain ⟨f', rfl⟩ : ∃ f', f = f' + 1 := ⟨f - 1, by omega⟩
    have hi8 : i < 8 := by omega
    have hii : i < 1000000 := by omega
    have hni : ¬ (N : Int) ≤ (i : Int) := by omega
    obtain ⟨gc, k1, k2, k3, k4⟩ := e3_copy (h := g) (P := A + (17 + i)) (Q := A' + (17 + i)) (by omega)
    have ko : ∀ q j, (q < A + 17 + i ∨ A + 18 + i ≤ q) → gc.1 q j = g.1 q j := fun q j hq => k3 q j (by omega)
    obtain ⟨g', p1, p2, p3, p4⟩ := ih (i + 1) f' gc (by omega) (by omega) (by rw [k2]; exact hl) (by rw [k2]; exact hl') (by rw [ko _ _ (by omega)]; exact h3) (fun s hs j hj => by
      by_cases e : s = i
      · subst e
        exact (k4 j hj).trans (ko _ _ (by omega)).symm
      · rw [ko _ _ (by omega), ko _ _ (by omega)]
        exact hp s (by omega) j hj)
    refine ⟨g', ?_, p2, p3.trans k2, fun q j hq => (p4 q j hq).trans (ko q j (by omega))⟩
    rw [q_X4_copyFrom_L88, h3, if_neg hni, zgpos hi8, zgpos hi8, Int.toNat_natCast, hl.rns, hl.rn, hl'.rns, hl'.rn, k1, zbd_some]
    simp only [zlet_b]
    rw [zw_s hii]
    exact p1
theorem m_cpc {N : Nat} (hN : N ≤ 16) (hd : Apt A A') {K : Int → zH → Option (Unit × zH)} : ∀ (r i f : Nat) (g : zH), i + r = N → r < f → cly g.2 A → cly g.2 A' → g.1 A 7 = (N : Int) → (∀ s, s < i → ∀ j, j < 11 → g.1 (A + (25 + s)) j = g.1 (A' + (25 + s)) j) →
    ∃ g', q_X4_copyFrom_L119 A A' K f (i : Int) g = K (N : Int) g' ∧ (∀ s, s < N → ∀ j, j < 11 → g'.1 (A + (25 + s)) j = g'.1 (A' + (25 + s)) j) ∧ g'.2 = g.2 ∧ ∀ q j, (q < A + 25 ∨ A + 41 ≤ q) → g'.1 q j = g.1 q j := by
  unfold Apt at hd
  intro r
  induction r with
  | zero =>
    intro i f g q1 q2 hl hl' h3 hp
    obtain ⟨f', rfl⟩ : ∃ f', f = f' + 1 := ⟨f - 1, by omega⟩
    have e : i = N := by omega
    subst e
    refine ⟨g, ?_, hp, rfl, fun _ _ _ => rfl⟩
    rw [q_X4_copyFrom_L119, h3, if_pos (Int.le_refl _)]
  | succ r ih =>
    intro i f g q1 q2 hl hl' h3 hp
    obtain ⟨f', rfl⟩ : ∃ f', f = f' + 1 := ⟨f - 1, by omega⟩
    have hi16 : i < 16 := by omega
    have hii : i < 1000000 := by omega
    have hni : ¬ (N : Int) ≤ (i : Int) := by omega
    obtain ⟨gc, k1, k2, k3, k4⟩ := e0_copy (h := g) (P := A + (25 + i)) (Q := A' + (25 + i)) (by omega)
    have ko : ∀ q j, (q < A + 25 + i ∨ A + 26 + i ≤ q) → gc.1 q j = g.1 q j := fun q j hq => k3 q j (by omega)
    obtain ⟨g', p1, p2, p3, p4⟩ := ih (i + 1) f' gc (by omega) (by omega) (by rw [k2]; exact hl) (by rw [k2]; exact hl') (by rw [ko _ _ (by omega)]; exact h3) (fun s hs j hj => by
      by_cases e : s = i
      · subst e
        exact (k4 j hj).trans (ko _ _ (by omega)).symm
      · rw [ko _ _ (by omega), ko _ _ (by omega)]
        exact hp s (by omega) j hj)
    refine ⟨g', ?_, p2, p3.trans k2, fun q j hq => (p4 q j hq).trans (ko q j (by omega))⟩
    rw [q_X4_copyFrom_L119, h3, if_neg hni, zgpos hi16, zgpos hi16, Int.toNat_natCast, hl.cls, hl.cl, hl'.cls, hl'.cl, k1, zbd_some]
    simp only [zlet_b]
    rw [zw_s hii]
    exact p1
theorem e4_copy {h : zH} (hl : cly h.2 A) (hc : CV h A') (hd : Apt A A') : ∃ h', q_X4_copyFrom h A A' = some ((), h') ∧ Leq (vw h.1 A') (vw h'.1 A) ∧ Frm A h h' := by
  have hs := hc.2.nS
  have hr := hc.2.nR
  have hn := hc.2.nC
  have hl' := hc.1
  have hd' := hd
  unfold Apt at hd'
  unfold q_X4_copyFrom
  simp only [zlet_b]
  generalize hg0 : zput (zput (zput (zput (zput h A 0 (h.1 A' 0)) A 1 ((zput h A 0 (h.1 A' 0)).1 A' 1)) A 3 ((zput (zput h A 0 (h.1 A' 0)) A 1 ((zput h A 0 (h.1 A' 0)).1 A' 1)).1 A' 3)) A 5 ((zput (zput (zput h A 0 (h.1 A' 0)) A 1 ((zput h A 0 (h.1 A' 0)).1 A' 1)) A 3 ((zput (zput h A 0 (h.1 A' 0)) A 1 ((zput h A 0 (h.1 A' 0)).1 A' 1)).1 A' 3)).1 A' 5)) A 7 ((zput (zput (zput (zput h A 0 (h.1 A' 0)) A 1 ((zput h A 0 (h.1 A' 0)).1 A' 1)) A 3 ((zput (zput h A 0 (h.1 A' 0)) A 1 ((zput h A 0 (h.1 A' 0)).1 A' 1)).1 A' 3)) A 5 ((zput (zput (zput h A 0 (h.1 A' 0)) A 1 ((zput h A 0 (h.1 A' 0)).1 A' 1)) A 3 ((zput (zput h A 0 (h.1 A' 0)) A 1 ((zput h A 0 (h.1 A' 0)).1 A' 1)).1 A' 3)).1 A' 5)).1 A' 7) = g0
  have hAA : A' ≠ A := by omega
  have g2 : g0.2 = h.2 := by rw [← hg0]; rfl
  have go : ∀ q j, q ≠ A → g0.1 q j = h.1 q j := fun q j hq => by
    rw [← hg0]
    simp only [zput_1]
    simp [hq]
  have ga : ∀ j, (j = 0 ∨ j = 1 ∨ j = 3 ∨ j = 5 ∨ j = 7) → g0.1 A j = h.1 A' j := fun j hj => by
    rw [← hg0]
    simp only [zput_1]
    rcases hj with rfl | rfl | rfl | rfl | rfl <;> simp [hAA]
  clear hg0
  rw [g2, hl.set, hl'.set]
  generalize hg1 : zcpy g0 (A' + 1) (A + 1) 7 = g1
  have c2 : g1.2 = h.2 := by rw [← hg1]; exact g2
  have co : ∀ q j, q ≠ A → q ≠ A + 1 → g1.1 q j = h.1 q j := fun q j q1 q2 => by
    rw [← hg1, zcpy_ne (Or.inl q2), go q j q1]
  have ca : ∀ j, (j = 0 ∨ j = 1 ∨ j = 3 ∨ j = 5 ∨ j = 7) → g1.1 A j = h.1 A' j := fun j hj => by
    rw [← hg1, zcpy_ne (Or.inl (by omega)), ga j hj]
  have cs : ∀ j, j < 7 → g1.1 (A + 1) j = h.1 (A' + 1) j := fun j hj => by
    rw [← hg1, zcpy_at hj, go _ j (by omega)]
  clear hg1
  have n3 : g1.1 A 3 = (nSt (vw h.1 A') : Int) := (ca 3 (by omega)).trans (a_n3 hc)
  obtain ⟨gs, s1, s2, s3, s4⟩ := m_cps (A := A) (A' := A') (N := nSt (vw h.1 A')) hs.2 hd (K := fun x9 h10 => q_X4_copyFrom_L88 A A' (fun x13 h14 => q_X4_copyFrom_L119 A A' (fun x17 h18 => some ((), h18)) zF 0 h14) zF 0 h10) (nSt (vw h.1 A')) 0 zF g1 (Nat.zero_add _) (by unfold zF; omega) (by rw [c2]; exact hl) (by rw [c2]; exact hl') n3 (fun s hs => by omega)
  have s1' := s1
  rw [show ((0 : Nat) : Int) = 0 from rfl] at s1'
  rw [s1']
  have n5 : gs.1 A 5 = (nRn (vw h.1 A') : Int) := by rw [s4 _ _ (by omega), ca 5 (by omega)]; exact a_n5 hc
  obtain ⟨gr, r1, r2, r3, r4⟩ := m_cpr (A := A) (A' := A') (N := nRn (vw h.1 A')) hr.2 hd (K := fun x13 h14 => q_X4_copyFrom_L119 A A' (fun x17 h18 => some ((), h18)) zF 0 h14) (nRn (vw h.1 A')) 0 zF gs (Nat.zero_add _) (by unfold zF; omega) (by rw [s3, c2]; exact hl) (by rw [s3, c2]; exact hl') n5 (fun s hs => by omega)
  have r1' := r1
  rw [show ((0 : Nat) : Int) = 0 from rfl] at r1'
  rw [r1']
  have n7 : gr.1 A 7 = (nCl (vw h.1 A') : Int) := by rw [r4 _ _ (by omega), s4 _ _ (by omega), ca 7 (by omega)]; exact a_n7 hc
  obtain ⟨gc, l1, l2, l3, l4⟩ := m_cpc (A := A) (A' := A') (N := nCl (vw h.1 A')) hn.2 hd (K := fun x17 h18 => some ((), h18)) (nCl (vw h.1 A')) 0 zF gr (Nat.zero_add _) (by unfold zF; omega) (by rw [r3, s3, c2]; exact hl) (by rw [r3, s3, c2]; exact hl') n7 (fun s hs => by omega)
  have l1' := l1
  rw [show ((0 : Nat) : Int) = 0 from rfl] at l1'
  have out : ∀ q j, (q < A ∨ A + 41 ≤ q) → gc.1 q j = h.1 q j := fun q j hq => by
    rw [l4 _ _ (by omega), r4 _ _ (by omega), s4 _ _ (by omega), co _ _ (by omega) (by omega)]
  have row0 : ∀ j, (j = 0 ∨ j = 1 ∨ j = 3 ∨ j = 5 ∨ j = 7) → vw h.1 A' 0 j = vw gc.1 A 0 j := fun j hj => by
    rw [vw_at (by decide), vw_at (by decide)]
    show h.1 A' j = gc.1 A j
    rw [l4 _ _ (by omega), r4 _ _ (by omega), s4 _ _ (by omega), ca j hj]
  refine ⟨gc, l1', ⟨⟨row0 0 (by omega), row0 1 (by omega), row0 3 (by omega), row0 5 (by omega), row0 7 (by omega)⟩, fun j hj => ?_, fun s hs7 => ⟨fun j hj => ?_, fun j hj => ?_⟩, fun r hr7 j hj => ?_, fun k hk7 j hj => ?_⟩, ⟨l3.trans (r3.trans (s3.trans c2)), out⟩⟩
  · rw [vw_at (by decide), vw_at (by decide), l4 _ _ (by omega), r4 _ _ (by omega), s4 _ _ (by omega), cs j hj]
  · rw [vw_at (by omega), vw_at (by omega), l4 _ _ (by omega), r4 _ _ (by omega), (s2 s (by omega)).1 j hj, s4 _ _ (by omega), co _ _ (by omega) (by omega)]
  · rw [vw_at (by omega), vw_at (by omega), l4 _ _ (by omega), r4 _ _ (by omega), (s2 s (by omega)).2 j hj, s4 _ _ (by omega), co _ _ (by omega) (by omega)]
  · rw [vw_at (by omega), vw_at (by omega), l4 _ _ (by omega), r2 r (by omega) j hj, r4 _ _ (by omega), s4 _ _ (by omega), co _ _ (by omega) (by omega)]
  · rw [vw_at (by omega), vw_at (by omega), l2 k (by omega) j hj, l4 _ _ (by omega), r4 _ _ (by omega), s4 _ _ (by omega), co _ _ (by omega) (by omega)]
end CP
section OPS
variable {B : Nat}
/-- the kept State j -/
def HV (B : Nat) (h : zH) (j : Nat) : Nat → Nat → Int := vw h.1 (h.2 (B + 86) j)
/-- the kept States lie in their places, in some order -/
def Prm (B : Nat) (h : zH) : Prop := ∃ σ : Nat → Nat, (∀ j, j < 10 → σ j < 10) ∧ (∀ i j, i < 10 → j < 10 → σ i = σ j → i = j) ∧ ∀ j, j < 10 → h.2 (B + 86) j = B + (87 + 41 * σ j)
theorem zInv.prm {h : zH} (hI : zInv B h) : Prm B h := by
  obtain ⟨a1, ⟨σ, b1, b2, b3⟩, _⟩ := hI
  exact ⟨σ, b1, b2, b3⟩
theorem i_clyK {h : zH} (hI : zInv B h) {i : Nat} (hi : i < 10) : cly h.2 (B + (87 + 41 * i)) := by
  intro o ho j
  have := hI.1 (87 + 41 * i + o) (by omega) (by omega) j
  rw [gO_87 hi ho] at this
  rw [Nat.add_assoc, this]
  omega
theorem m_drop {h : zH} {r1 : Nat} {K : Int → zH → Option (Unit × zH)} (h85 : h.2 (B + 85) 1 = B + 86) : ∀ (r i f : Nat) (g : zH), i + r = 10 → 1 ≤ i → r < f → g.1 = h.1 → (∀ q j, q ≠ B + 86 → g.2 q j = h.2 q j) → (∀ j, j + 1 < i → g.2 (B + 86) j = h.2 (B + 86) (j + 1)) → (∀ j, i ≤ j + 1 → g.2 (B + 86) j = h.2 (B + 86) j) →
    ∃ g', q_X1_dropOldest_L9 (B + 85) r1 K f (i : Int) g = K 10 g' ∧ g'.1 = h.1 ∧ (∀ q j, q ≠ B + 86 → g'.2 q j = h.2 q j) ∧ (∀ j, j < 9 → g'.2 (B + 86) j = h.2 (B + 86) (j + 1)) ∧ g'.2 (B + 86) 9 = h.2 (B + 86) 9 := by
  intro r
  induction r with
  | zero =>
    intro i f g q1 q0 q2 e1 e2 e3 e4
    obtain ⟨f', rfl⟩ : ∃ f', f = f' + 1 := ⟨f - 1, by omega⟩
    have e : i = 10 := by omega
    subst e
    refine ⟨g, ?_, e1, e2, fun j hj => e3 j (by omega), e4 9 (by omega)⟩
    rw [q_X1_dropOldest_L9]
    exact if_pos (by decide)
  | succ r ih =>
    intro i f g q1 q0 q2 e1 e2 e3 e4
    obtain ⟨f', rfl⟩ : ∃ f', f = f' + 1 := ⟨f - 1, by omega⟩
    obtain ⟨i, rfl⟩ : ∃ i', i = i' + 1 := ⟨i - 1, by omega⟩
    have hni : ¬ (10 : Int) ≤ ((i + 1 : Nat) : Int) := by omega
    have hi10 : i + 1 < 10 := by omega
    have hi10' : i < 10 := by omega
    have z1 : zw (((i + 1 : Nat) : Int) - 1) = (i : Int) := by rw [zw_id ⟨by omega, by omega⟩]; omega
    have g85 : g.2 (B + 85) 1 = B + 86 := (e2 _ _ (by omega)).trans h85
    have pR : ∀ (q j : Nat), (zputR g (B + 86) i (h.2 (B + 86) (i + 1))).2 q j = if q = B + 86 ∧ j = i then h.2 (B + 86) (i + 1) else g.2 q j := fun _ _ => rfl
    obtain ⟨g', p1, p2, p3, p4, p5⟩ := ih (i + 1 + 1) f' (zputR g (B + 86) i (h.2 (B + 86) (i + 1))) (by omega) (by omega) (by omega) e1 (fun q j hq => by rw [pR, if_neg (fun z => hq z.1)]; exact e2 q j hq) (fun j hj => by
      rw [pR]
      by_cases e : j = i
      · rw [if_pos ⟨rfl, e⟩, e]
      · rw [if_neg (fun z => e z.2)]
        exact e3 j (by omega)) (fun j hj => by
      rw [pR, if_neg (by omega)]
      exact e4 j (by omega))
    refine ⟨g', ?_, p2, p3, p4, p5⟩
    rw [q_X1_dropOldest_L9, if_neg hni, z1]
    clear z1
    simp only [zlet_b]
    rw [zgpos hi10, zgpos hi10', Int.toNat_natCast, Int.toNat_natCast, g85, e4 (i + 1) (by omega), zw_s (by omega)]
    exact p1
/-- how a State is kept -/
def Kpt (B : Nat) (h g : zH) (np sh : Nat) : Prop := Prm B g ∧ (∀ q j, q ≠ B + 86 → g.2 q j = h.2 q j) ∧ g.1 (B + 85) 0 = ((np + 1 : Nat) : Int) ∧ (∀ j, j < np → HV B g j = HV B h (j + sh)) ∧ Leq (vw h.1 (B + 1)) (HV B g np) ∧ (∀ q j, ¬ (B + 87 ≤ q ∧ q < B + 497) → ¬ (q = B + 85 ∧ j = 0) → g.1 q j = h.1 q j)
def KNum (n : Int) (np sh : Nat) : Prop := (n = (np : Int) ∧ np < 10 ∧ sh = 0) ∨ (n = 10 ∧ np = 9 ∧ sh = 1)
theorem KNum.ex {n : Int} (h0 : 0 ≤ n ∧ n ≤ 10) : ∃ np sh, KNum n np sh := by
  by_cases e : n = 10
  · exact ⟨9, 1, Or.inr ⟨e, rfl, rfl⟩⟩
  · exact ⟨n.toNat, 0, Or.inl ⟨by omega, by omega, rfl⟩⟩
theorem k_copy {h g0 : zH} (hI : zInv B h) (hP : Prm B g0) (h1 : g0.1 = h.1 ∨ (∀ q j, ¬ (q = B + 85 ∧ j = 0) → g0.1 q j = h.1 q j)) (h2 : ∀ q j, q ≠ B + 86 → g0.2 q j = h.2 q j) {np sh : Nat} (hn : np < 10) (hs : ∀ j, j < np → g0.2 (B + 86) j = h.2 (B + 86) (j + sh)) :
    ∃ g1, q_X4_copyFrom g0 (g0.2 (B + 86) np) (B + 1) = some ((), g1) ∧ g1.1 (B + 85) 0 = g0.1 (B + 85) 0 ∧ Kpt B h (zput g1 (B + 85) 0 ((np + 1 : Nat) : Int)) np sh := by
  have h1' : ∀ q j, ¬ (q = B + 85 ∧ j = 0) → g0.1 q j = h.1 q j := by
    rcases h1 with e | e
    · intro q j _; rw [e]
    · exact e
  have hP' := hP
  obtain ⟨σ, s1, s2, s3⟩ := hP
  have hcl : cly g0.2 (B + (87 + 41 * σ np)) := fun o ho j => by
    rw [h2 _ _ (by omega)]
    exact i_clyK hI (s1 np hn) o ho j
  have ev : vw g0.1 (B + 1) = vw h.1 (B + 1) := vw_ext fun o ho j => h1' _ _ (by omega)
  have hcv : CV g0 (B + 1) := ⟨fun o ho j => by rw [h2 _ _ (by omega)]; exact hI.cly o ho j, by rw [ev]; exact hI.wf⟩
  have hsn := s1 np hn
  obtain ⟨g1, k1, k2, k3⟩ := e4_copy hcl hcv (Or.inr (by omega))
  rw [s3 np hn]
  have r2 : (zput g1 (B + 85) 0 ((np + 1 : Nat) : Int)).2 = g0.2 := k3.1
  refine ⟨g1, k1, k3.2 _ _ (by omega), ⟨σ, s1, s2, fun j hj => by rw [r2]; exact s3 j hj⟩, fun q j hq => by rw [r2]; exact h2 q j hq, zput_self, fun j hj => ?_, ?_, fun q j hq hq2 => ?_⟩
  · have es := hs j hj
    have ej := s3 j (by omega)
    unfold HV
    rw [r2, ← es, ej]
    refine vw_ext fun o ho i => ?_
    have hne : σ j ≠ σ np := fun z => by
      have := s2 j np (by omega) hn z
      omega
    have hsj := s1 j (by omega)
    rw [zput_ne (by omega), k3.2 _ _ (by omega), h1' _ _ (by omega)]
  · unfold HV
    rw [r2, s3 np hn]
    have e : vw (zput g1 (B + 85) 0 ((np + 1 : Nat) : Int)).1 (B + (87 + 41 * σ np)) = vw g1.1 (B + (87 + 41 * σ np)) := vw_ext fun o ho i => zput_ne (by omega)
    rw [e, ← ev]
    exact k2
  · rw [zput_ne hq2, k3.2 _ _ (by omega), h1' _ _ hq2]
theorem e1_keep {h : zH} (hI : zInv B h) {np sh : Nat} (hk : KNum (h.1 (B + 85) 0) np sh) : ∃ g, q_X1_keep h (B + 85) (B + 1) = some ((), g) ∧ Kpt B h g np sh := by
  have h85 : h.2 (B + 85) 1 = B + 86 := hI.1 85 (by decide) (by decide) 1
  unfold q_X1_keep
  rcases hk with ⟨k1, k2, k3⟩ | ⟨k1, k2, k3⟩
  · subst k3
    have hlt : h.1 (B + 85) 0 < 10 := by omega
    obtain ⟨g1, p1, p2, p3⟩ := k_copy hI hI.prm (Or.inl rfl) (fun _ _ _ => rfl) (np := np) (sh := 0) k2 (fun j _ => rfl)
    have e : h.1 (B + 85) 0 = (np : Int) := k1
    rw [if_pos hlt, h85, e, zgpos k2, Int.toNat_natCast, p1, zbd_some]
    simp only [zlet_b]
    rw [p2, e, zw_s (by omega)]
    exact ⟨_, rfl, p3⟩
  · subst k2 k3
    have hlt : ¬ h.1 (B + 85) 0 < 10 := by omega
    rw [if_neg hlt]
    unfold q_X1_dropOldest
    simp only [zlet_b]
    rw [h85]
    obtain ⟨g0, d1, d2, d3, d4, d5⟩ := m_drop (B := B) (h := h) (r1 := h.2 (B + 86) 0) (K := fun x4 h5 => zgi 10 9 (some ((), zput (zputR h5 (h5.2 (B + 85) 1) (9 : Int).toNat (h.2 (B + 86) 0)) (B + 85) 0 9))) h85 9 1 zF h (by omega) (by omega) (by unfold zF; omega) rfl (fun _ _ _ => rfl) (fun j hj => by omega) (fun j hj => rfl)
    have d1' := d1
    rw [show ((1 : Nat) : Int) = 1 from rfl] at d1'
    rw [d1']
    have g85 : g0.2 (B + 85) 1 = B + 86 := (d3 _ _ (by omega)).trans h85
    rw [zgi_pos (by omega) (by omega), g85, zbd_some]
    generalize hg : zput (zputR g0 (B + 86) (9 : Int).toNat (h.2 (B + 86) 0)) (B + 85) 0 9 = g2
    have pR : ∀ (q j : Nat), g2.2 q j = if q = B + 86 ∧ j = 9 then h.2 (B + 86) 0 else g0.2 q j := fun q j => by rw [← hg]; rfl
    have p1 : ∀ q j, ¬ (q = B + 85 ∧ j = 0) → g2.1 q j = h.1 q j := fun q j hq => by
      rw [← hg, zput_ne hq, ← d2]
      rfl
    have p0 : g2.1 (B + 85) 0 = 9 := by rw [← hg, zput_self]
    clear hg
    obtain ⟨σ, s1, s2, s3⟩ := hI.prm
    have hP : Prm B g2 := by
      refine ⟨fun j => if j = 9 then σ 0 else σ (j + 1), fun j hj => ?_, fun i j hi hj e => ?_, fun j hj => ?_⟩
      · show (if j = 9 then σ 0 else σ (j + 1)) < 10
        split
        · exact s1 0 (by omega)
        · exact s1 _ (by omega)
      · have e' : (if i = 9 then σ 0 else σ (i + 1)) = if j = 9 then σ 0 else σ (j + 1) := e
        by_cases ei : i = 9 <;> by_cases ej : j = 9
        · omega
        · rw [if_pos ei, if_neg ej] at e'
          have := s2 0 (j + 1) (by omega) (by omega) e'
          omega
        · rw [if_neg ei, if_pos ej] at e'
          have := s2 (i + 1) 0 (by omega) (by omega) e'
          omega
        · rw [if_neg ei, if_neg ej] at e'
          have := s2 (i + 1) (j + 1) (by omega) (by omega) e'
          omega
      · show g2.2 (B + 86) j = B + (87 + 41 * (if j = 9 then σ 0 else σ (j + 1)))
        rw [pR]
        by_cases e : j = 9
        · rw [if_pos ⟨rfl, e⟩, if_pos e]
          exact s3 0 (by omega)
        · rw [if_neg (fun z => e z.2), if_neg e, d4 j (by omega)]
          exact s3 (j + 1) (by omega)
    obtain ⟨g1, c1, c2, c3⟩ := k_copy hI hP (Or.inr p1) (fun q j hq => by rw [pR, if_neg (fun z => hq z.1)]; exact d3 q j hq) (np := 9) (sh := 1) (by omega) (fun j hj => by rw [pR, if_neg (by omega)]; exact d4 j hj)
    have r85 : g2.2 (B + 85) 1 = B + 86 := by rw [pR, if_neg (by omega)]; exact g85
    rw [p0, zgi_pos (by omega) (by omega), r85]
    have c1' : q_X4_copyFrom g2 (g2.2 (B + 86) (9 : Int).toNat) (B + 1) = some ((), g1) := c1
    rw [c1', zbd_some]
    rw [c2, p0]
    have w9 : zw (9 + 1) = ((9 + 1 : Nat) : Int) := by rw [zw_id ⟨by omega, by omega⟩]; rfl
    rw [w9]
    exact ⟨_, rfl, c3⟩
end OPS
section OPS
variable {B : Nat}
end OPS
theorem Ceq.gi {v u : Nat → Nat → Int} (hc : Ceq v u) (g : GI v) : GI u := by
  have hc' := hc
  obtain ⟨⟨a1, a2, a5⟩, b, e⟩ := hc'
  have b1 := b 1 (by decide)
  refine ⟨fun k l hk hl hkl k5 l5 hcf => ?_, fun k hk k5 cc t h0 h1 hF => ?_, fun k hk k5 => ?_⟩
  · rw [← a5] at hk hl
    obtain ⟨ek, _, ek2⟩ := e k hk
    obtain ⟨el, _, el2⟩ := e l hl
    rw [← ek 5 (by decide)] at k5
    rw [← el 5 (by decide)] at l5
    unfold cfl at hcf
    rw [← ek 0 (by decide), ← ek 1 (by decide), ← (ek2 k5).1, ← el 0 (by decide), ← el 1 (by decide), ← (el2 l5).1] at hcf
    rw [← ek 3 (by decide), ← (ek2 k5).2, ← el 3 (by decide), ← (el2 l5).2, ← b1]
    exact g.1 k l hk hl hkl k5 l5 hcf
  · rw [← a5] at hk
    rw [← (e k hk).1 5 (by decide)] at k5
    exact g.2.1 k hk k5 cc t h0 (by rw [a2]; exact h1) ((hc.fit hk).mpr hF)
  · rw [← a5] at hk
    rw [← (e k hk).1 5 (by decide)] at k5
    rw [← (e k hk).2.1]
    exact g.2.2 k hk k5
theorem WF.set1 {v : Nat → Nat → Int} {j : Nat} {x : Int} (w : WF v) (h4 : 4 ≤ j) (h7 : j < 7) (hx : zsV 0 j ≤ x ∧ x ≤ zsV 1 j) : WF (vup v 1 j x) := by
  have e0 : vup v 1 j x 0 = v 0 := funext fun i => vup_ne (by omega)
  have eo : ∀ o, o ≠ 1 → vup v 1 j x o = v o := fun o ho => funext fun i => vup_ne (by omega)
  obtain ⟨a1, a2, a3, a4, a5, a6, a7, a8, a9⟩ := w
  refine ⟨by rw [e0]; exact a1, by rw [e0]; exact a2, by rw [e0]; exact a3, by rw [e0]; exact a4, by rw [e0]; exact a5, fun i hi => ?_, fun s hs => ?_, fun r hr => ?_, fun l hl => ?_⟩
  · by_cases e : i = j
    · rw [e, vup_at]
      exact hx
    · rw [vup_ne (by omega)]
      exact a6 i hi
  · rw [e0] at hs
    unfold WFs
    rw [e0, eo _ (by omega), eo _ (by omega)]
    exact a7 s hs
  · rw [e0] at hr
    unfold WFr
    rw [e0, eo _ (by omega)]
    exact a8 r hr
  · rw [e0] at hl
    unfold WFc
    rw [e0, eo (25 + l) (by omega), vup_ne (i := 0) (by omega), vup_ne (i := 1) (by omega), vup_ne (i := 2) (by omega)]
    exact a9 l hl
theorem WF.stn {v u : Nat → Nat → Int} {s : Nat} (w : WF v) (hs6 : s < 6) (he : ∀ o j, o ≠ 5 + 2 * s → o ≠ 6 + 2 * s → u o j = v o j) (hc : (s : Int) < v 0 3 → WFs u s) : WF u := by
  have eo : ∀ o, o ≠ 5 + 2 * s → o ≠ 6 + 2 * s → u o = v o := fun o h1 h2 => funext fun i => he o i h1 h2
  have e0 := eo 0 (by omega) (by omega)
  have e1 := eo 1 (by omega) (by omega)
  obtain ⟨a1, a2, a3, a4, a5, a6, a7, a8, a9⟩ := w
  refine ⟨by rw [e0]; exact a1, by rw [e0]; exact a2, by rw [e0]; exact a3, by rw [e0]; exact a4, by rw [e0]; exact a5, by rw [e1]; exact a6, fun t ht => ?_, fun r hr => ?_, fun l hl => ?_⟩
  · rw [e0] at ht
    by_cases e : t = s
    · subst e
      exact hc ht
    · unfold WFs
      rw [e0, eo (5 + 2 * t) (by omega) (by omega), eo (6 + 2 * t) (by omega) (by omega)]
      exact a7 t ht
  · rw [e0] at hr
    unfold WFr
    rw [e0, eo (17 + r) (by omega) (by omega)]
    exact a8 r hr
  · rw [e0] at hl
    unfold WFc
    rw [e0, e1, eo (25 + l) (by omega) (by omega)]
    exact a9 l hl
section OPS
variable {B : Nat}
/-- the State behind keeping -/
theorem kpt_cur {h g : zH} {np sh : Nat} (hI : zInv B h) (hk : Kpt B h g np sh) : CV g (B + 1) ∧ vw g.1 (B + 1) = vw h.1 (B + 1) ∧ g.2 B 0 = B + 1 ∧ g.2 B 1 = B + 42 ∧ g.2 B 3 = B + 85 := by
  obtain ⟨K1, K2, K3, K4, K5, K6⟩ := hk
  have ev : vw g.1 (B + 1) = vw h.1 (B + 1) := vw_ext fun o ho j => K6 _ _ (by omega) (by omega)
  refine ⟨⟨fun o ho j => by rw [K2 _ _ (by omega)]; exact hI.cly o ho j, by rw [ev]; exact hI.wf⟩, ev, by rw [K2 _ _ (by omega)]; exact hI.r0, by rw [K2 _ _ (by omega)]; exact hI.1 0 (by decide) (by decide) 1, by rw [K2 _ _ (by omega)]; exact hI.r3⟩
theorem e5_forget {h : zH} {P E : Nat} (he : h.2 P 7 = E) : ∃ h', q_X5_forgetErrors h P = some ((), h') ∧ h'.2 = h.2 ∧ (∀ j, j < 64 → h'.1 E j = 0) ∧ ∀ q j, ¬ (q = E ∧ j < 64) → h'.1 q j = h.1 q j := by
  have key : ∀ (r i f : Nat) (g : zH), i + r = 64 → r < f → g.2 = h.2 → (∀ j, j < i → g.1 E j = 0) → (∀ q j, ¬ (q = E ∧ j < 64) → g.1 q j = h.1 q j) → ∃ h', q_X5_forgetErrors_L2 P (fun _ h4 => some ((), h4)) f (i : Int) g = some ((), h') ∧ h'.2 = h.2 ∧ (∀ j, j < 64 → h'.1 E j = 0) ∧ ∀ q j, ¬ (q = E ∧ j < 64) → h'.1 q j = h.1 q j := by
    intro r
    induction r with
    | zero =>
      intro i f g q1 q2 h2 hi ho
      obtain ⟨f', rfl⟩ : ∃ f', f = f' + 1 := ⟨f - 1, by omega⟩
      have e : i = 64 := by omega
      subst e
      refine ⟨g, ?_, h2, hi, ho⟩
      rw [q_X5_forgetErrors_L2]
      exact if_pos (by decide)
    | succ r ih =>
      intro i f g q1 q2 h2 hi ho
      obtain ⟨f', rfl⟩ : ∃ f', f = f' + 1 := ⟨f - 1, by omega⟩
      have hi64 : i < 64 := by omega
      have hi6 : i < 1000000 := by omega
      have hni : ¬ (64 : Int) ≤ (i : Int) := by omega
      obtain ⟨h', p1, p2, p3, p4⟩ := ih (i + 1) f' (zput g E i 0) (by omega) (by omega) h2 (fun j hj => by
        by_cases e : j = i
        · rw [e, zput_self]
        · rw [zput_ne (by omega)]
          exact hi j (by omega)) (fun q j hq => by rw [zput_ne (by omega)]; exact ho q j hq)
      refine ⟨h', ?_, p2, p3, p4⟩
      rw [q_X5_forgetErrors_L2, if_neg hni]
      simp only [zlet_b]
      rw [zgpos hi64, Int.toNat_natCast, h2, he, zw_s hi6]
      exact p1
  unfold q_X5_forgetErrors
  exact key 64 0 zF h (by omega) (by unfold zF; omega) rfl (fun j hj => by omega) (fun _ _ _ => rfl)
end OPS
theorem vw_put0 {h : zH} {A j : Nat} {x : Int} : vw (zput h A j x).1 A = vup (vw h.1 A) 0 j x := vw_put (o := 0) (by decide)
/-- with one more call -/
def vnew (v : Nat → Nat → Int) (n : Nat) (s r p b ho : Int) : Nat → Nat → Int := vup (vup (vup (vup (vup (vup (vup (vup (vup (vup v 0 7 ((n + 1 : Nat) : Int)) (25 + n) 0 s) (25 + n) 1 r) (25 + n) 2 p) (25 + n) 3 b) (25 + n) 4 ho) (25 + n) 5 0) (25 + n) 8 (v 0 0)) (25 + n) 9 (-1)) (25 + n) 10 0
section VN
variable {v : Nat → Nat → Int} {n : Nat} {s r p b ho : Int}
theorem vnew_ne {o j : Nat} (h1 : ¬ (o = 0 ∧ j = 7)) (h2 : o ≠ 25 + n) : vnew v n s r p b ho o j = v o j := by
  unfold vnew
  rw [vup_ne (by omega), vup_ne (by omega), vup_ne (by omega), vup_ne (by omega), vup_ne (by omega), vup_ne (by omega), vup_ne (by omega), vup_ne (by omega), vup_ne (by omega), vup_ne (by omega)]
theorem vnew_n : vnew v n s r p b ho 0 7 = ((n + 1 : Nat) : Int) := by
  unfold vnew
  rw [vup_ne (by omega), vup_ne (by omega), vup_ne (by omega), vup_ne (by omega), vup_ne (by omega), vup_ne (by omega), vup_ne (by omega), vup_ne (by omega), vup_ne (by omega), vup_at]
theorem vnew_c : vnew v n s r p b ho (25 + n) 0 = s ∧ vnew v n s r p b ho (25 + n) 1 = r ∧ vnew v n s r p b ho (25 + n) 2 = p ∧ vnew v n s r p b ho (25 + n) 3 = b ∧ vnew v n s r p b ho (25 + n) 4 = ho ∧ vnew v n s r p b ho (25 + n) 5 = 0 ∧ vnew v n s r p b ho (25 + n) 8 = v 0 0 ∧ vnew v n s r p b ho (25 + n) 9 = -1 ∧ vnew v n s r p b ho (25 + n) 10 = 0 := by
  unfold vnew
  refine ⟨?_, ?_, ?_, ?_, ?_, ?_, ?_, ?_, ?_⟩
  · rw [vup_ne (by omega), vup_ne (by omega), vup_ne (by omega), vup_ne (by omega), vup_ne (by omega), vup_ne (by omega), vup_ne (by omega), vup_ne (by omega), vup_at]
  · rw [vup_ne (by omega), vup_ne (by omega), vup_ne (by omega), vup_ne (by omega), vup_ne (by omega), vup_ne (by omega), vup_ne (by omega), vup_at]
  · rw [vup_ne (by omega), vup_ne (by omega), vup_ne (by omega), vup_ne (by omega), vup_ne (by omega), vup_ne (by omega), vup_at]
  · rw [vup_ne (by omega), vup_ne (by omega), vup_ne (by omega), vup_ne (by omega), vup_ne (by omega), vup_at]
  · rw [vup_ne (by omega), vup_ne (by omega), vup_ne (by omega), vup_ne (by omega), vup_at]
  · rw [vup_ne (by omega), vup_ne (by omega), vup_ne (by omega), vup_at]
  · rw [vup_ne (by omega), vup_ne (by omega), vup_at]
  · rw [vup_ne (by omega), vup_at]
  · rw [vup_at]
theorem WF.new (w : WF v) (hn : v 0 7 = (n : Int)) (h16 : n < 16) (hs : 0 ≤ s ∧ s < v 0 3) (hr : 0 ≤ r ∧ r < v 0 3) (hsr : s ≠ r) (hp : 0 ≤ p ∧ p ≤ 9) (hb : 2 ≤ b ∧ b ≤ 2200) (hh : 1 ≤ ho ∧ ho ≤ 9999) : WF (vnew v n s r p b ho) := by
  have eo : ∀ o j, ¬ (o = 0 ∧ j = 7) → o ≠ 25 + n → vnew v n s r p b ho o j = v o j := fun o j h1 h2 => vnew_ne h1 h2
  have er : ∀ o, o ≠ 0 → o ≠ 25 + n → vnew v n s r p b ho o = v o := fun o h1 h2 => funext fun j => vnew_ne (fun z => h1 z.1) h2
  obtain ⟨c0, c1, c2, c3, c4, c5, c8, c9, c10⟩ := vnew_c (v := v) (n := n) (s := s) (r := r) (p := p) (b := b) (ho := ho)
  have hS := w.nS
  have hR := w.nR
  obtain ⟨a1, a2, a3, a4, a5, a6, a7, a8, a9⟩ := w
  have z0 := eo 0 0 (by omega) (by omega)
  have z1 := eo 0 1 (by omega) (by omega)
  have z3 := eo 0 3 (by omega) (by omega)
  have z5 := eo 0 5 (by omega) (by omega)
  refine ⟨by rw [z0]; exact a1, by rw [z1]; exact a2, by rw [z3]; exact a3, by rw [z5]; exact a4, by rw [vnew_n]; omega, fun j hj => by rw [er 1 (by omega) (by omega)]; exact a6 j hj, fun t ht => ?_, fun t ht => ?_, fun l hl => ?_⟩
  · rw [z3] at ht
    unfold WFs
    rw [z0, er (5 + 2 * t) (by omega) (by omega), er (6 + 2 * t) (by omega) (by omega)]
    exact a7 t ht
  · rw [z5] at ht
    unfold WFr
    rw [z3, er (17 + t) (by omega) (by omega)]
    exact a8 t ht
  · rw [vnew_n] at hl
    by_cases e : l = n
    · subst e
      unfold WFc
      rw [c0, c1, c2, c3, c4, c5, c8, c9, c10, z0, z3]
      exact ⟨hs, hr, hsr, hp, hb, hh, Or.inl rfl, ⟨a1.1, Int.le_refl _⟩, ⟨by omega, by omega⟩, ⟨by omega, a1.1⟩, trivial, fun z => by omega⟩
    · unfold WFc
      rw [z0, z1, z3, er 1 (by omega) (by omega), er (25 + l) (by omega) (by omega)]
      exact a9 l (by omega)
theorem new_sep (hs : zSep v) (hn : v 0 7 = (n : Int)) : zSep (vnew v n s r p b ho) := by
  have er : ∀ o, o ≠ 0 → o ≠ 25 + n → vnew v n s r p b ho o = v o := fun o h1 h2 => funext fun j => vnew_ne (fun z => h1 z.1) h2
  obtain ⟨c0, c1, c2, c3, c4, c5, c8, c9, c10⟩ := vnew_c (v := v) (n := n) (s := s) (r := r) (p := p) (b := b) (ho := ho)
  intro k l hk hl hkl k5 l5 hc
  rw [vnew_n] at hk hl
  have ek : k ≠ n := fun z => by rw [z, c5] at k5; omega
  have el : l ≠ n := fun z => by rw [z, c5] at l5; omega
  unfold cfl at hc
  rw [er (25 + k) (by omega) (by omega)] at k5 hc ⊢
  rw [er (25 + l) (by omega) (by omega)] at l5 hc ⊢
  rw [er 1 (by omega) (by omega)]
  exact hs k l (by omega) (by omega) hkl k5 l5 hc
theorem new_fit (hn : v 0 7 = (n : Int)) {k : Nat} (hk : k < n) {c t : Int} (hF : Fit (vnew v n s r p b ho) (fun _ => False) k c t) : Fit v (fun _ => False) k c t := by
  have er : ∀ o, o ≠ 0 → o ≠ 25 + n → vnew v n s r p b ho o = v o := fun o h1 h2 => funext fun j => vnew_ne (fun z => h1 z.1) h2
  obtain ⟨f1, f2, f3⟩ := Fit.iff.mp hF
  rw [er 1 (by omega) (by omega)] at f1 f2
  rw [er (25 + k) (by omega) (by omega)] at f2
  refine Fit.iff.mpr ⟨f1, f2, fun l hl hW hw => f3 l (by rw [vnew_n]; omega) hW ?_⟩
  unfold isWay
  rw [er 1 (by omega) (by omega), er (25 + k) (by omega) (by omega), er (25 + l) (by omega) (by omega)]
  exact hw
theorem new_good (g : Good v) (hn : v 0 7 = (n : Int)) (h16 : n < 16) (hs : 0 ≤ s ∧ s < v 0 3) (hr : 0 ≤ r ∧ r < v 0 3) (hsr : s ≠ r) (hp : 0 ≤ p ∧ p ≤ 9) (hb : 2 ≤ b ∧ b ≤ 2200) (hh : 1 ≤ ho ∧ ho ≤ 9999) {u : Nat → Nat → Int} {x : Int} (hB : BP (vnew v n s r p b ho) n u x) : Good u := by
  obtain ⟨c0, c1, c2, c3, c4, c5, c8, c9, c10⟩ := vnew_c (v := v) (n := n) (s := s) (r := r) (p := p) (b := b) (ho := ho)
  have w := g.1.new hn h16 hs hr hsr hp hb hh
  have n5 : vnew v n s r p b ho (25 + n) 5 ≠ 1 := by rw [c5]; decide
  have u7 : u 0 7 = ((n + 1 : Nat) : Int) := (hB.sta 0 7 (by omega)).trans vnew_n
  have u1 : u 0 1 = v 0 1 := (hB.sta 0 1 (by omega)).trans (vnew_ne (by omega) (by omega))
  have er : ∀ o, o ≠ 0 → o ≠ 25 + n → vnew v n s r p b ho o = v o := fun o h1 h2 => funext fun j => vnew_ne (fun z => h1 z.1) h2
  refine ⟨hB.wf w, hB.sep n5 (new_sep g.2.1 hn), fun k hk hk5 c t h0 h1 hF => ?_, fun k hk hk5 => ?_⟩
  · rw [u7] at hk
    rw [u1] at h1
    by_cases e : k = n
    · subst e
      rcases hB with ⟨c', t', q1, q2, q3⟩ | ⟨q1, q2, q3⟩
      · rw [q2, vpl_5] at hk5
        omega
      · rw [q2] at hF
        exact q1 c t h0 (by rw [vnew_ne (by omega) (by omega)]; exact h1) hF
    · have e5 : u (25 + k) 5 = v (25 + k) 5 := by rw [hB.rest (fun z => e z.symm), er (25 + k) (by omega) (by omega)]
      rw [e5] at hk5
      exact g.2.2.1 k (by omega) hk5 c t h0 h1 (new_fit hn (by omega) (hB.fit n5 e hF))
  · rw [u7] at hk
    by_cases e : k = n
    · subst e
      rcases hB with ⟨c', t', q1, q2, q3⟩ | ⟨q1, q2, q3⟩
      · rw [q2, vpl_5] at hk5
        omega
      · rw [q2, c9]
    · have e5 : ∀ j, u (25 + k) j = v (25 + k) j := fun j => by rw [hB.rest (fun z => e z.symm), er (25 + k) (by omega) (by omega)]
      rw [e5] at hk5 ⊢
      exact g.2.2.2 k (by omega) hk5
end VN
section CL
variable {h : zH} {A : Nat}
theorem e4_addCall (hc : CV h A) {n : Nat} (hn : vw h.1 A 0 7 = (n : Int)) (h16 : n < 16) {s r p sy ho : Int} (hs : 0 ≤ s ∧ s < vw h.1 A 0 3) (hr : 0 ≤ r ∧ r < vw h.1 A 0 3) (hsr : s ≠ r) (hp : 0 ≤ p ∧ p ≤ 9) (hsy : 1 ≤ sy ∧ sy ≤ 2000) (hh : 1 ≤ ho ∧ ho ≤ 9999) :
    ∃ h' x, q_X4_addCall h A s r p sy ho = some ((), h') ∧ Frm A h h' ∧ BP (vnew (vw h.1 A) n s r p (vw h.1 A 1 3 + sy) ho) n (vw h'.1 A) x := by
  have w := hc.2
  have hset := w.set
  have e7 : h.1 A 7 = (n : Int) := by rw [a_0, hn]
  have hoo : 25 + n < 41 := by omega
  have hnA : ∀ j j' : Nat, ¬ (A + (25 + n) = A ∧ j = j') := fun _ _ z => by omega
  have hnA' : ∀ j j' : Nat, ¬ (A = A + (25 + n) ∧ j = j') := fun _ _ z => by omega
  have hn1 : ∀ j j' : Nat, ¬ (A + 1 = A + (25 + n) ∧ j = j') := fun _ _ z => by omega
  have n1 : ∀ j j' : Nat, ¬ (A + 1 = A ∧ j = j') := fun _ _ z => by omega
  have hwb : zw (vw h.1 A 1 3 + sy) = vw h.1 A 1 3 + sy := zw_id ⟨by omega, by omega⟩
  unfold q_X4_addCall
  simp only [zlet_b]
  rw [e7, if_neg (by omega), zgpos h16, Int.toNat_natCast, hc.1.cls, hc.1.cl]
  simp only [zput_2]
  rw [hc.1.set]
  have e3 : (zput (zput (zput (zput h A 7 (zw ((n : Int) + 1))) (A + (25 + n)) 0 s) (A + (25 + n)) 1 r) (A + (25 + n)) 2 p).1 (A + 1) 3 = vw h.1 A 1 3 := by
    rw [zput_ne (hn1 _ _), zput_ne (hn1 _ _), zput_ne (hn1 _ _), zput_ne (n1 _ _), a_1]
  rw [e3, hwb, zw_s (by omega)]
  clear hwb e3
  generalize hg1 : zput (zput (zput (zput (zput (zput (zput h A 7 ((n + 1 : Nat) : Int)) (A + (25 + n)) 0 s) (A + (25 + n)) 1 r) (A + (25 + n)) 2 p) (A + (25 + n)) 3 (vw h.1 A 1 3 + sy)) (A + (25 + n)) 4 ho) (A + (25 + n)) 5 0 = g1
  have e0 : g1.1 A 0 = vw h.1 A 0 0 := by
    rw [← hg1, zput_ne (hnA' _ _), zput_ne (hnA' _ _), zput_ne (hnA' _ _), zput_ne (hnA' _ _), zput_ne (hnA' _ _), zput_ne (hnA' _ _), zput_ne (by omega), a_0]
  rw [e0]
  generalize hg2 : zput (zput (zput g1 (A + (25 + n)) 8 (vw h.1 A 0 0)) (A + (25 + n)) 9 (-1)) (A + (25 + n)) 10 0 = g2
  have ev : vw g2.1 A = vnew (vw h.1 A) n s r p (vw h.1 A 1 3 + sy) ho := by
    rw [← hg2, ← hg1, vw_put hoo, vw_put hoo, vw_put hoo, vw_put hoo, vw_put hoo, vw_put hoo, vw_put hoo, vw_put hoo, vw_put hoo, vw_put0]
    rfl
  have r2 : g2.2 = h.2 := by rw [← hg2, ← hg1]; rfl
  have f2 : Frm A h g2 := by
    rw [← hg2, ← hg1]
    exact (((((((((Frm.rf.put (o := 0) (by decide)).put hoo).put hoo).put hoo).put hoo).put hoo).put hoo).put hoo).put hoo).put hoo
  have hc2 : CV g2 A := ⟨by rw [r2]; exact hc.1, by rw [ev]; exact w.new hn h16 hs hr hsr hp ⟨by omega, by omega⟩ hh⟩
  obtain ⟨x, h', k1, k2, k3⟩ := e4_place hc2 (k := n) (by rw [ev, vnew_n]; omega) (by rw [ev, vnew_c.2.2.2.2.2.1]; decide)
  rw [k1, zbd_some]
  exact ⟨h', x, rfl, f2.tr k3, by rw [← ev]; exact k2⟩
end CL
section OPS
variable {B : Nat}
end OPS
theorem WF.fin {v : Nat → Nat → Int} (w : WF v) (k : Nat) : WF (vup v (25 + k) 5 2) := by
  refine w.call (k := k) (fun o j h => vup_ne (by omega)) (fun hk => ?_)
  have hw := w.2.2.2.2.2.2.2.2 k hk
  have q : ∀ o j, ¬ (o = 25 + k ∧ j = 5) → vup v (25 + k) 5 2 o j = v o j := fun o j h => vup_ne h
  obtain ⟨h0, h1, h2, h3, h4, h5, h6, h7, h8, h9, h10, h11⟩ := hw
  unfold WFc
  rw [vup_at, q 0 0 (by omega), q 0 3 (by omega), q _ 0 (by omega), q _ 1 (by omega), q _ 2 (by omega), q _ 3 (by omega), q _ 4 (by omega), q _ 8 (by omega), q _ 9 (by omega), q _ 10 (by omega)]
  exact ⟨h0, h1, h2, h3, h4, h5, Or.inr (Or.inr rfl), h7, h8, h9, trivial, fun z => by omega⟩
theorem fin_sep {v : Nat → Nat → Int} {k : Nat} (hs : zSep v) : zSep (vup v (25 + k) 5 2) := by
  have q : ∀ o j, ¬ (o = 25 + k ∧ j = 5) → vup v (25 + k) 5 2 o j = v o j := fun o j h => vup_ne h
  intro x y hx hy hxy x5 y5 hc
  have ex : x ≠ k := fun z => by rw [z, vup_at] at x5; omega
  have ey : y ≠ k := fun z => by rw [z, vup_at] at y5; omega
  unfold cfl at hc
  rw [q _ 5 (by omega)] at x5 y5
  rw [q _ 6 (by omega), q _ 6 (by omega), q _ 0 (by omega), q _ 0 (by omega), q _ 1 (by omega), q _ 1 (by omega)] at hc
  rw [q _ 7 (by omega), q _ 3 (by omega), q 1 1 (by omega), q _ 7 (by omega), q _ 3 (by omega)]
  rw [q 0 7 (by omega)] at hx hy
  exact hs x y hx hy hxy x5 y5 hc
theorem fin_wt {v : Nat → Nat → Int} {k : Nat} (hs : zWt v) : zWt (vup v (25 + k) 5 2) := by
  have q : ∀ o j, ¬ (o = 25 + k ∧ j = 5) → vup v (25 + k) 5 2 o j = v o j := fun o j h => vup_ne h
  intro x hx x5
  have ex : x ≠ k := fun z => by rw [z, vup_at] at x5; omega
  rw [q _ 5 (by omega)] at x5
  rw [q _ 9 (by omega)]
  rw [q 0 7 (by omega)] at hx
  exact hs x hx x5
section CL
variable {h : zH} {A : Nat}
theorem e4_serve (hc : CV h A) {c : Nat} {a : Nat → Nat} (hq : Que (vw h.1 A) c a) : ∃ (m : Nat) (h' : zH) (n : Int), q_X4_callsIn h A 0 = some (m : Int) ∧ q_X4_placeInOrder h A (m : Int) = some (n, h') ∧ Run a c (vw h.1 A) (vw h'.1 A) n ∧ Frm A h h' := by
  have w := hc.2
  have hn := w.nC
  obtain ⟨h', n, k1, k2, k3⟩ := e4_order hc (m := sIn (vw h.1 A) 0) (c := c) (a := a) (nset_16 hn.2) (Enu.congr hq (fun k hk => by
    have e : (sIn (vw h.1 A) 0).testBit k = sMk (vw h.1 A) 1 k := by
      unfold sIn
      rw [nset_bit, decide_eq_true hk, Bool.true_and]
      exact sIn_mk w 0 (by decide) k hk
    exact e.symm) (fun _ _ => rfl)) (fun i hi => by
    have := (hq.w w i hi).2
    omega)
  exact ⟨sIn (vw h.1 A) 0, h', n, e4_callsIn hc 0, k1, k2, k3⟩
end CL
section OPS
variable {B : Nat}
end OPS
