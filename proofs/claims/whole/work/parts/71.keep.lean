/-! Keeping a State: the class. -/
section OPS
variable {B : Nat}
/-- the kept State j -/
def HV (B : Nat) (h : zH) (j : Nat) : Nat → Nat → Int := vw h.1 (h.2 (B + 86) j)
/-- the kept States lie in their places, in some order -/
def Prm (B : Nat) (h : zH) : Prop := ∃ σ : Nat → Nat, (∀ j, j < 10 → σ j < 10) ∧ (∀ i j, i < 10 → j < 10 → σ i = σ j → i = j) ∧ ∀ j, j < 10 → h.2 (B + 86) j = B + (87 + 41 * σ j)
theorem zInv.prm {h : zH} (hI : zInv B h) : Prm B h := by
  obtain ⟨a1, ⟨σ, b1, b2, b3, b4⟩, _⟩ := hI
  exact ⟨σ, b1, b2, b3⟩
theorem zInv.hv {h : zH} (hI : zInv B h) {j : Nat} (hj : (j : Int) < h.1 (B + 85) 0) : Good (HV B h j) ∧ MR (HV B h j) (fun i => h.1 (B + 541 + 6) (597 * j + i)) (h.1 (B + 541 + 2)) := by
  obtain ⟨a1, ⟨σ, b1, b2, b3, b4⟩, c, _⟩ := hI
  unfold HV
  rw [b3 j (by omega)]
  exact b4 j hj
theorem zInv.mk' {h : zH} (a1 : ∀ o, o < 553 → o ≠ 86 → ∀ j, h.2 (B + o) j = B + gO o j) (a2 : Prm B h) (a3 : ∀ j : Nat, (j : Int) < h.1 (B + 85) 0 → Good (HV B h j) ∧ MR (HV B h j) (fun i => h.1 (B + 541 + 6) (597 * j + i)) (h.1 (B + 541 + 2)))
    (a4 : (0 ≤ h.1 (B + 85) 0 ∧ h.1 (B + 85) 0 ≤ 10) ∧ h.1 (B + 541) 8 = h.1 (B + 85) 0) (a5 : Good (vw h.1 (B + 1))) (a6 : MR (vw h.1 (B + 1)) (h.1 (B + 541 + 4)) (h.1 (B + 541 + 2)))
    (a7 : (0 ≤ h.1 (B + 498) 0 ∧ h.1 (B + 498) 0 ≤ 1000) ∧ h.1 (B + 541) 2 = h.1 (B + 498) 0 ∧ ∀ i : Nat, (i : Int) < h.1 (B + 498) 0 → h.1 (B + 541 + 1) i = zand (h.1 (B + 499) i) 255) (a8 : h.1 (B + 497) 2 = h.1 (B + 541) 17) : zInv B h := by
  obtain ⟨σ, b1, b2, b3⟩ := a2
  refine ⟨a1, ⟨σ, b1, b2, b3, fun j hj => ?_⟩, a4, a5, a6, a7, a8⟩
  have := a3 j hj
  unfold HV at this
  rw [b3 j (by omega)] at this
  exact this
theorem i_clyK {h : zH} (hI : zInv B h) {i : Nat} (hi : i < 10) : cly h.2 (B + (87 + 41 * i)) := by
  intro o ho j
  have := hI.1 (87 + 41 * i + o) (by omega) (by omega) j
  rw [gO_87 hi ho] at this
  rw [Nat.add_assoc, this]
  omega
theorem m_drop {h : zH} {r1 : Nat} {K : Int → zH → Option (Unit × zH)} (h85 : h.2 (B + 85) 1 = B + 86) : ∀ (r i f : Nat) (g : zH), i + r = 10 → 1 ≤ i → r < f → g.1 = h.1 → (∀ q j, q ≠ B + 86 → g.2 q j = h.2 q j) → (∀ j, j + 1 < i → g.2 (B + 86) j = h.2 (B + 86) (j + 1)) → (∀ j, i ≤ j + 1 → g.2 (B + 86) j = h.2 (B + 86) j) →
    ∃ g', q_X1_dropOldest_L9 (B + 85) r1 K f (i : Int) g = K 10 g' ∧ g'.1 = h.1 ∧ (∀ q j, q ≠ B + 86 → g'.2 q j = h.2 q j) ∧ (∀ j, j < 9 → g'.2 (B + 86) j = h.2 (B + 86) (j + 1)) ∧ g'.2 (B + 86) 9 = h.2 (B + 86) 9 := by
  intro r
  induction r with
  | zero =>
    intro i f g q1 q0 q2 e1 e2 e3 e4
    obtain ⟨f', rfl⟩ : ∃ f', f = f' + 1 := ⟨f - 1, by omega⟩
    have e : i = 10 := by omega
    subst e
    refine ⟨g, ?_, e1, e2, fun j hj => e3 j (by omega), e4 9 (by omega)⟩
    rw [q_X1_dropOldest_L9]
    exact if_pos (by decide)
  | succ r ih =>
    intro i f g q1 q0 q2 e1 e2 e3 e4
    obtain ⟨f', rfl⟩ : ∃ f', f = f' + 1 := ⟨f - 1, by omega⟩
    obtain ⟨i, rfl⟩ : ∃ i', i = i' + 1 := ⟨i - 1, by omega⟩
    have hni : ¬ (10 : Int) ≤ ((i + 1 : Nat) : Int) := by omega
    have hi10 : i + 1 < 10 := by omega
    have hi10' : i < 10 := by omega
    have z1 : zw (((i + 1 : Nat) : Int) - 1) = (i : Int) := by rw [zw_id ⟨by omega, by omega⟩]; omega
    have g85 : g.2 (B + 85) 1 = B + 86 := (e2 _ _ (by omega)).trans h85
    have pR : ∀ (q j : Nat), (zputR g (B + 86) i (h.2 (B + 86) (i + 1))).2 q j = if q = B + 86 ∧ j = i then h.2 (B + 86) (i + 1) else g.2 q j := fun _ _ => rfl
    obtain ⟨g', p1, p2, p3, p4, p5⟩ := ih (i + 1 + 1) f' (zputR g (B + 86) i (h.2 (B + 86) (i + 1))) (by omega) (by omega) (by omega) e1 (fun q j hq => by rw [pR, if_neg (fun z => hq z.1)]; exact e2 q j hq) (fun j hj => by
      rw [pR]
      by_cases e : j = i
      · rw [if_pos ⟨rfl, e⟩, e]
      · rw [if_neg (fun z => e z.2)]
        exact e3 j (by omega)) (fun j hj => by
      rw [pR, if_neg (by omega)]
      exact e4 j (by omega))
    refine ⟨g', ?_, p2, p3, p4, p5⟩
    rw [q_X1_dropOldest_L9, if_neg hni, z1]
    clear z1
    simp only [zlet_b]
    rw [zgpos hi10, zgpos hi10', Int.toNat_natCast, Int.toNat_natCast, g85, e4 (i + 1) (by omega), zw_s (by omega)]
    exact p1
/-- how a State is kept -/
def Kpt (B : Nat) (h g : zH) (np sh : Nat) : Prop := Prm B g ∧ (∀ q j, q ≠ B + 86 → g.2 q j = h.2 q j) ∧ g.1 (B + 85) 0 = ((np + 1 : Nat) : Int) ∧ (∀ j, j < np → HV B g j = HV B h (j + sh)) ∧ Leq (vw h.1 (B + 1)) (HV B g np) ∧ (∀ q j, ¬ (B + 87 ≤ q ∧ q < B + 497) → ¬ (q = B + 85 ∧ j = 0) → g.1 q j = h.1 q j)
def KNum (n : Int) (np sh : Nat) : Prop := (n = (np : Int) ∧ np < 10 ∧ sh = 0) ∨ (n = 10 ∧ np = 9 ∧ sh = 1)
theorem KNum.ex {n : Int} (h0 : 0 ≤ n ∧ n ≤ 10) : ∃ np sh, KNum n np sh := by
  by_cases e : n = 10
  · exact ⟨9, 1, Or.inr ⟨e, rfl, rfl⟩⟩
  · exact ⟨n.toNat, 0, Or.inl ⟨by omega, by omega, rfl⟩⟩
theorem k_copy {h g0 : zH} (hI : zInv B h) (hP : Prm B g0) (h1 : g0.1 = h.1 ∨ (∀ q j, ¬ (q = B + 85 ∧ j = 0) → g0.1 q j = h.1 q j)) (h2 : ∀ q j, q ≠ B + 86 → g0.2 q j = h.2 q j) {np sh : Nat} (hn : np < 10) (hs : ∀ j, j < np → g0.2 (B + 86) j = h.2 (B + 86) (j + sh)) :
    ∃ g1, q_X4_copyFrom g0 (g0.2 (B + 86) np) (B + 1) = some ((), g1) ∧ g1.1 (B + 85) 0 = g0.1 (B + 85) 0 ∧ Kpt B h (zput g1 (B + 85) 0 ((np + 1 : Nat) : Int)) np sh := by
  have h1' : ∀ q j, ¬ (q = B + 85 ∧ j = 0) → g0.1 q j = h.1 q j := by
    rcases h1 with e | e
    · intro q j _; rw [e]
    · exact e
  have hP' := hP
  obtain ⟨σ, s1, s2, s3⟩ := hP
  have hcl : cly g0.2 (B + (87 + 41 * σ np)) := fun o ho j => by
    rw [h2 _ _ (by omega)]
    exact i_clyK hI (s1 np hn) o ho j
  have ev : vw g0.1 (B + 1) = vw h.1 (B + 1) := vw_ext fun o ho j => h1' _ _ (by omega)
  have hcv : CV g0 (B + 1) := ⟨fun o ho j => by rw [h2 _ _ (by omega)]; exact hI.cly o ho j, by rw [ev]; exact hI.wf⟩
  have hsn := s1 np hn
  obtain ⟨g1, k1, k2, k3⟩ := e4_copy hcl hcv (Or.inr (by omega))
  rw [s3 np hn]
  have r2 : (zput g1 (B + 85) 0 ((np + 1 : Nat) : Int)).2 = g0.2 := k3.1
  refine ⟨g1, k1, k3.2 _ _ (by omega), ⟨σ, s1, s2, fun j hj => by rw [r2]; exact s3 j hj⟩, fun q j hq => by rw [r2]; exact h2 q j hq, zput_self, fun j hj => ?_, ?_, fun q j hq hq2 => ?_⟩
  · have es := hs j hj
    have ej := s3 j (by omega)
    unfold HV
    rw [r2, ← es, ej]
    refine vw_ext fun o ho i => ?_
    have hne : σ j ≠ σ np := fun z => by
      have := s2 j np (by omega) hn z
      omega
    have hsj := s1 j (by omega)
    rw [zput_ne (by omega), k3.2 _ _ (by omega), h1' _ _ (by omega)]
  · unfold HV
    rw [r2, s3 np hn]
    have e : vw (zput g1 (B + 85) 0 ((np + 1 : Nat) : Int)).1 (B + (87 + 41 * σ np)) = vw g1.1 (B + (87 + 41 * σ np)) := vw_ext fun o ho i => zput_ne (by omega)
    rw [e, ← ev]
    exact k2
  · rw [zput_ne hq2, k3.2 _ _ (by omega), h1' _ _ hq2]
theorem e1_keep {h : zH} (hI : zInv B h) {np sh : Nat} (hk : KNum (h.1 (B + 85) 0) np sh) : ∃ g, q_X1_keep h (B + 85) (B + 1) = some ((), g) ∧ Kpt B h g np sh := by
  have h85 : h.2 (B + 85) 1 = B + 86 := hI.1 85 (by decide) (by decide) 1
  unfold q_X1_keep
  rcases hk with ⟨k1, k2, k3⟩ | ⟨k1, k2, k3⟩
  · subst k3
    have hlt : h.1 (B + 85) 0 < 10 := by omega
    obtain ⟨g1, p1, p2, p3⟩ := k_copy hI hI.prm (Or.inl rfl) (fun _ _ _ => rfl) (np := np) (sh := 0) k2 (fun j _ => rfl)
    have e : h.1 (B + 85) 0 = (np : Int) := k1
    rw [if_pos hlt, h85, e, zgpos k2, Int.toNat_natCast, p1, zbd_some]
    simp only [zlet_b]
    rw [p2, e, zw_s (by omega)]
    exact ⟨_, rfl, p3⟩
  · subst k2 k3
    have hlt : ¬ h.1 (B + 85) 0 < 10 := by omega
    rw [if_neg hlt]
    unfold q_X1_dropOldest
    simp only [zlet_b]
    rw [h85]
    obtain ⟨g0, d1, d2, d3, d4, d5⟩ := m_drop (B := B) (h := h) (r1 := h.2 (B + 86) 0) (K := fun x4 h5 => zgi 10 9 (some ((), zput (zputR h5 (h5.2 (B + 85) 1) (9 : Int).toNat (h.2 (B + 86) 0)) (B + 85) 0 9))) h85 9 1 zF h (by omega) (by omega) (by unfold zF; omega) rfl (fun _ _ _ => rfl) (fun j hj => by omega) (fun j hj => rfl)
    have d1' := d1
    rw [show ((1 : Nat) : Int) = 1 from rfl] at d1'
    rw [d1']
    have g85 : g0.2 (B + 85) 1 = B + 86 := (d3 _ _ (by omega)).trans h85
    rw [zgi_pos (by omega) (by omega), g85, zbd_some]
    generalize hg : zput (zputR g0 (B + 86) (9 : Int).toNat (h.2 (B + 86) 0)) (B + 85) 0 9 = g2
    have pR : ∀ (q j : Nat), g2.2 q j = if q = B + 86 ∧ j = 9 then h.2 (B + 86) 0 else g0.2 q j := fun q j => by rw [← hg]; rfl
    have p1 : ∀ q j, ¬ (q = B + 85 ∧ j = 0) → g2.1 q j = h.1 q j := fun q j hq => by
      rw [← hg, zput_ne hq, ← d2]
      rfl
    have p0 : g2.1 (B + 85) 0 = 9 := by rw [← hg, zput_self]
    clear hg
    obtain ⟨σ, s1, s2, s3⟩ := hI.prm
    have hP : Prm B g2 := by
      refine ⟨fun j => if j = 9 then σ 0 else σ (j + 1), fun j hj => ?_, fun i j hi hj e => ?_, fun j hj => ?_⟩
      · show (if j = 9 then σ 0 else σ (j + 1)) < 10
        split
        · exact s1 0 (by omega)
        · exact s1 _ (by omega)
      · have e' : (if i = 9 then σ 0 else σ (i + 1)) = if j = 9 then σ 0 else σ (j + 1) := e
        by_cases ei : i = 9 <;> by_cases ej : j = 9
        · omega
        · rw [if_pos ei, if_neg ej] at e'
          have := s2 0 (j + 1) (by omega) (by omega) e'
          omega
        · rw [if_neg ei, if_pos ej] at e'
          have := s2 (i + 1) 0 (by omega) (by omega) e'
          omega
        · rw [if_neg ei, if_neg ej] at e'
          have := s2 (i + 1) (j + 1) (by omega) (by omega) e'
          omega
      · show g2.2 (B + 86) j = B + (87 + 41 * (if j = 9 then σ 0 else σ (j + 1)))
        rw [pR]
        by_cases e : j = 9
        · rw [if_pos ⟨rfl, e⟩, if_pos e]
          exact s3 0 (by omega)
        · rw [if_neg (fun z => e z.2), if_neg e, d4 j (by omega)]
          exact s3 (j + 1) (by omega)
    obtain ⟨g1, c1, c2, c3⟩ := k_copy hI hP (Or.inr p1) (fun q j hq => by rw [pR, if_neg (fun z => hq z.1)]; exact d3 q j hq) (np := 9) (sh := 1) (by omega) (fun j hj => by rw [pR, if_neg (by omega)]; exact d4 j hj)
    have r85 : g2.2 (B + 85) 1 = B + 86 := by rw [pR, if_neg (by omega)]; exact g85
    rw [p0, zgi_pos (by omega) (by omega), r85]
    have c1' : q_X4_copyFrom g2 (g2.2 (B + 86) (9 : Int).toNat) (B + 1) = some ((), g1) := c1
    rw [c1', zbd_some]
    rw [c2, p0]
    have w9 : zw (9 + 1) = ((9 + 1 : Nat) : Int) := by rw [zw_id ⟨by omega, by omega⟩]; rfl
    rw [w9]
    exact ⟨_, rfl, c3⟩
end OPS
