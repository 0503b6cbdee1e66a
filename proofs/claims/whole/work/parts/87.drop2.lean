/-! The fewest calls to drop: both sides. -/
section CL
variable {h : zH} {A : Nat}
theorem m_dropAt (hc : CV h A) {k : Nat} (hk : (k : Int) < vw h.1 A 0 7) {t : Int} (ht : 0 ≤ t ∧ t ≤ 5000) {C : Nat} (hC : vw h.1 A 0 1 = (C : Int)) : ∀ (r i f : Nat) (b : Int), i + r = C → r < f → MnS (fun m => ∃ c, 0 ≤ c ∧ c < (i : Int) ∧ Cd (vw h.1 A) k c t m) b →
    ∃ b', q_X4_droppableAt_L5 h A (A + (25 + k)) t (fun x9 _ => some x9) f b (i : Int) = some b' ∧ MnS (fun m => ∃ c, 0 ≤ c ∧ c < vw h.1 A 0 1 ∧ Cd (vw h.1 A) k c t m) b' := by
  have w := hc.2
  have hn := w.nC
  have hset := w.set
  have hC4 := w.2.1
  have hk16 : k < 16 := by omega
  have hbk := (w.2.2.2.2.2.2.2.2 k hk).2.2.2.2.1
  intro r
  induction r with
  | zero =>
    intro i f b q1 q2 hb
    obtain ⟨f', rfl⟩ : ∃ f', f = f' + 1 := ⟨f - 1, by omega⟩
    have e : i = C := by omega
    subst e
    refine ⟨b, ?_, by rw [hC]; exact hb⟩
    rw [q_X4_droppableAt_L5, a_0, hC, if_pos (Int.le_refl _)]
  | succ r ih =>
    intro i f b q1 q2 hb
    obtain ⟨f', rfl⟩ : ∃ f', f = f' + 1 := ⟨f - 1, by omega⟩
    have hii : i < 1000000 := by omega
    have hni : ¬ (C : Int) ≤ (i : Int) := by omega
    have elast : q_X4_lastStart h A (A + (25 + k)) = some (vw h.1 A 1 0 - vw h.1 A 1 1 - vw h.1 A (25 + k) 3) := by
      unfold q_X4_lastStart
      have w1 : zw (vw h.1 A 1 0 - vw h.1 A 1 1) = vw h.1 A 1 0 - vw h.1 A 1 1 := zw_id ⟨by omega, by omega⟩
      have w2 : zw (vw h.1 A 1 0 - vw h.1 A 1 1 - vw h.1 A (25 + k) 3) = vw h.1 A 1 0 - vw h.1 A 1 1 - vw h.1 A (25 + k) 3 := by clear w1; exact zw_id ⟨by omega, by omega⟩
      rw [a_set hc, a_set hc, a_c hk16, w1, w2]
    have eC : h.1 A 1 = (C : Int) := by rw [a_0, hC]
    rw [q_X4_droppableAt_L5, eC, if_neg hni, elast, zbp_some]
    by_cases hl : vw h.1 A 1 0 - vw h.1 A 1 1 - vw h.1 A (25 + k) 3 < t
    · rw [if_pos hl]
      refine ⟨b, rfl, hb.congr (fun m => ⟨?_, ?_⟩)⟩
      · rintro ⟨c, z1, z2, z3⟩
        have := z3.1
        omega
      · rintro ⟨c, z1, z2, z3⟩
        have := z3.1
        omega
    · have hway : sWay (vw h.1 A) k (i : Int) t < 65536 := nset_16 hn.2
      obtain ⟨b3, k1, k2⟩ := e4_first hc hway
      rw [if_neg hl, e4_way hc hk (i : Int) ⟨by omega, by omega⟩, zbp_some, k1, zbp_some]
      simp only [zlet_b]
      rw [zw_s hii]
      have split : ∀ {c : Int}, c < ((i + 1 : Nat) : Int) → c < (i : Int) ∨ c = (i : Int) := fun h => by omega
      have add : (∀ l, l < nCl (vw h.1 A) → (sWay (vw h.1 A) k (i : Int) t).testBit l = true → vw h.1 A (25 + l) 2 < vw h.1 A (25 + k) 2) → ∃ b', zbp (q_X4_fewer h b ((sWay (vw h.1 A) k (i : Int) t : Nat) : Int)) (fun x4 => q_X4_droppableAt_L5 h A (A + (25 + k)) t (fun x9 _ => some x9) f' x4 ((i + 1 : Nat) : Int)) = some b' ∧ MnS (fun m => ∃ c, 0 ≤ c ∧ c < vw h.1 A 0 1 ∧ Cd (vw h.1 A) k c t m) b' := fun hp => by
        have m1 : MnS (Cd (vw h.1 A) k (i : Int) t) ((sWay (vw h.1 A) k (i : Int) t : Nat) : Int) := Or.inr ⟨_, rfl, hway, ⟨by omega, rfl, hp⟩, fun q hq => by rw [hq.2.1]; exact sle.rf⟩
        obtain ⟨d, d1, d2⟩ := e4_fewer (h := h) hb m1
        rw [d1, zbp_some]
        refine ih (i + 1) f' d (by omega) (by omega) (d2.congr (fun m => ⟨?_, ?_⟩))
        · rintro (⟨c, z1, z2, z3⟩ | z)
          · exact ⟨c, z1, by omega, z3⟩
          · exact ⟨(i : Int), by omega, by omega, z⟩
        · rintro ⟨c, z1, z2, z3⟩
          rcases split z2 with z2 | z2
          · exact Or.inl ⟨c, z1, z2, z3⟩
          · rw [z2] at z3
            exact Or.inr z3
      rcases k2 with ⟨z1, z2⟩ | ⟨s, z1, z2, z3, z4⟩
      · rw [if_pos z1]
        exact add (fun l hl hb => absurd hb (z2 l hl))
      · have hs16 : s < 16 := by omega
        rw [if_neg (by omega), z1, zgpos hs16, Int.toNat_natCast, a_call hc, a_c hk16, a_c hs16]
        by_cases hp : vw h.1 A (25 + k) 2 ≤ vw h.1 A (25 + s) 2
        · rw [if_pos hp]
          refine ih (i + 1) f' b (by omega) (by omega) (hb.congr (fun m => ⟨?_, ?_⟩))
          · rintro ⟨c, y1, y2, y3⟩
            exact ⟨c, y1, by omega, y3⟩
          · rintro ⟨c, y1, y2, y3⟩
            rcases split y2 with y2 | y2
            · exact ⟨c, y1, y2, y3⟩
            · rw [y2] at y3
              have := y3.2.2 s z2 (by rw [y3.2.1]; exact z3)
              omega
        · rw [if_neg hp]
          refine add (fun l hl hb => ?_)
          by_cases e : l = s
          · rw [e]; omega
          · have z5 := z4 l hl hb e
            have z6 : vw h.1 A (25 + l) 2 < vw h.1 A (25 + s) 2 ∨ (vw h.1 A (25 + s) 2 = vw h.1 A (25 + l) 2 ∧ s < l) := z5
            omega
theorem e4_dropAt (hc : CV h A) {k : Nat} (hk : (k : Int) < vw h.1 A 0 7) {t : Int} (ht : 0 ≤ t ∧ t ≤ 5000) : ∃ b, q_X4_droppableAt h A (A + (25 + k)) t = some b ∧ MnS (fun m => ∃ c, 0 ≤ c ∧ c < vw h.1 A 0 1 ∧ Cd (vw h.1 A) k c t m) b := by
  have hC4 := hc.2.2.1
  obtain ⟨C, hC⟩ : ∃ C : Nat, vw h.1 A 0 1 = (C : Int) := ⟨(vw h.1 A 0 1).toNat, by omega⟩
  unfold q_X4_droppableAt
  exact m_dropAt hc hk ht hC C 0 zF (-1) (Nat.zero_add _) (by unfold zF; omega) (Or.inl ⟨rfl, fun m ⟨c, z1, z2, _⟩ => by omega⟩)
theorem m_fewest (hc : CV h A) {k : Nat} (hk : (k : Int) < vw h.1 A 0 7) : ∀ (r i f : Nat) (b : Int), i + r = nCl (vw h.1 A) → r < f → MnS (fun m => ∃ c t, 0 ≤ c ∧ c < vw h.1 A 0 1 ∧ Cst (vw h.1 A) i t ∧ Cd (vw h.1 A) k c t m) b →
    ∃ b', q_X4_fewestInTheWay_L12 h A (A + (25 + k)) (fun x8 _ => some x8) f b (i : Int) = some b' ∧ MnS (CdA (vw h.1 A) k) b' := by
  have w := hc.2
  have hn := w.nC
  have hset := w.set
  intro r
  induction r with
  | zero =>
    intro i f b q1 q2 hb
    obtain ⟨f', rfl⟩ : ∃ f', f = f' + 1 := ⟨f - 1, by omega⟩
    have e : i = nCl (vw h.1 A) := by omega
    subst e
    refine ⟨b, ?_, hb⟩
    rw [q_X4_fewestInTheWay_L12, a_n7 hc, if_pos (Int.le_refl _)]
  | succ r ih =>
    intro i f b q1 q2 hb
    obtain ⟨f', rfl⟩ : ∃ f', f = f' + 1 := ⟨f - 1, by omega⟩
    have hi16 : i < 16 := by omega
    have hii : i < 1000000 := by omega
    have hni : ¬ (nCl (vw h.1 A) : Int) ≤ (i : Int) := by omega
    have up : ∀ t, Cst (vw h.1 A) (i + 1) t ↔ Cst (vw h.1 A) i t ∨ (vw h.1 A (25 + i) 5 = 1 ∧ t = vw h.1 A (25 + i) 7 + vw h.1 A (25 + i) 3 + vw h.1 A 1 1) := fun t => by
      constructor
      · rintro (z | ⟨l, z1, z2, z3⟩)
        · exact Or.inl (Or.inl z)
        · by_cases e : l = i
          · rw [e] at z2 z3
            exact Or.inr ⟨z2, z3⟩
          · exact Or.inl (Or.inr ⟨l, by omega, z2, z3⟩)
      · rintro ((z | ⟨l, z1, z2, z3⟩) | ⟨z1, z2⟩)
        · exact Or.inl z
        · exact Or.inr ⟨l, by omega, z2, z3⟩
        · exact Or.inr ⟨i, by omega, z1, z2⟩
    rw [q_X4_fewestInTheWay_L12, a_n7 hc, if_neg hni]
    simp only [zlet_b, zgpos hi16]
    unfold q_X4_freeBehind
    rw [Int.toNat_natCast, a_call hc, a_c hi16, a_c hi16, a_c hi16, a_set hc, zbp_some, zw_s hii]
    by_cases h5 : vw h.1 A (25 + i) 5 = 1
    · have ha := w.act (k := i) (by omega) h5
      have hbu := (w.2.2.2.2.2.2.2.2 i (by omega)).2.2.2.2.1
      have w1 : zw (vw h.1 A (25 + i) 7 + vw h.1 A (25 + i) 3) = vw h.1 A (25 + i) 7 + vw h.1 A (25 + i) 3 := zw_id ⟨by omega, by omega⟩
      have w2 : zw (vw h.1 A (25 + i) 7 + vw h.1 A (25 + i) 3 + vw h.1 A 1 1) = vw h.1 A (25 + i) 7 + vw h.1 A (25 + i) 3 + vw h.1 A 1 1 := by clear w1; exact zw_id ⟨by omega, by omega⟩
      rw [if_pos h5, w1, w2]
      clear w1 w2
      obtain ⟨b5, k1, k2⟩ := e4_dropAt hc hk (t := vw h.1 A (25 + i) 7 + vw h.1 A (25 + i) 3 + vw h.1 A 1 1) ⟨by omega, by omega⟩
      obtain ⟨d, d1, d2⟩ := e4_fewer (h := h) hb k2
      rw [k1, zbp_some, d1, zbp_some]
      refine ih (i + 1) f' d (by omega) (by omega) (d2.congr (fun m => ⟨?_, ?_⟩))
      · rintro (⟨c, t, z1, z2, z3, z4⟩ | ⟨c, z1, z2, z3⟩)
        · exact ⟨c, t, z1, z2, (up t).mpr (Or.inl z3), z4⟩
        · exact ⟨c, _, z1, z2, (up _).mpr (Or.inr ⟨h5, rfl⟩), z3⟩
      · rintro ⟨c, t, z1, z2, z3, z4⟩
        rcases (up t).mp z3 with y | ⟨_, y⟩
        · exact Or.inl ⟨c, t, z1, z2, y, z4⟩
        · rw [y] at z4
          exact Or.inr ⟨c, z1, z2, z4⟩
    · rw [if_neg h5]
      refine ih (i + 1) f' b (by omega) (by omega) (hb.congr (fun m => ⟨?_, ?_⟩))
      · rintro ⟨c, t, z1, z2, z3, z4⟩
        exact ⟨c, t, z1, z2, (up t).mpr (Or.inl z3), z4⟩
      · rintro ⟨c, t, z1, z2, z3, z4⟩
        rcases (up t).mp z3 with y | ⟨y, _⟩
        · exact ⟨c, t, z1, z2, y, z4⟩
        · exact absurd y h5
theorem e4_fewest (hc : CV h A) {k : Nat} (hk : (k : Int) < vw h.1 A 0 7) : ∃ b, q_X4_fewestInTheWay h A (A + (25 + k)) = some b ∧ MnS (CdA (vw h.1 A) k) b := by
  have w := hc.2
  have hset := w.set
  have hn := w.nC
  have e1 : q_X4_firstStart h A = some (vw h.1 A 1 2 + vw h.1 A 1 1) := by
    unfold q_X4_firstStart
    rw [a_set hc, a_set hc, zw_id ⟨by omega, by omega⟩]
  obtain ⟨b0, k1, k2⟩ := e4_dropAt hc hk (t := vw h.1 A 1 2 + vw h.1 A 1 1) ⟨by omega, by omega⟩
  unfold q_X4_fewestInTheWay
  rw [e1, zbp_some, k1, zbp_some]
  refine m_fewest hc hk (nCl (vw h.1 A)) 0 zF b0 (Nat.zero_add _) (by unfold zF; omega) (k2.congr (fun m => ⟨?_, ?_⟩))
  · rintro ⟨c, z1, z2, z3⟩
    exact ⟨c, _, z1, z2, Or.inl rfl, z3⟩
  · rintro ⟨c, t, z1, z2, z3, z4⟩
    rcases z3 with y | ⟨l, y, _⟩
    · rw [y] at z4
      exact ⟨c, z1, z2, z4⟩
    · omega
end CL
section OPS
variable {B : Nat}
theorem fit_set {v : Nat → Nat → Int} {m k : Nat} {c t : Int} (hm : m < 65536) : Fit v (fun l => awy (m : Int) l = true) k c t ↔ Fit v (fun l => m.testBit l = true) k c t := by
  have e : (fun l => awy (m : Int) l = true) = fun l => m.testBit l = true := funext fun l => by rw [awy_nat hm]
  rw [e]
theorem e8_fb {h : zH} {v : Nat → Nat → Int} (hm : MV h (B + 541) v) {k : Nat} (hk : (k : Int) < v 0 7) {m : Nat} (hm16 : m < 65536) (hs : ∀ l, m.testBit l = true → (sLow v k).testBit l = true) :
    ∃ r h', q_X8_fitsBut h (B + 541) (k : Int) (m : Int) = some (r, h') ∧ zSame B h h' ∧ h'.1 (B + 541) 0 = h.1 (B + 541) 0 ∧ h'.1 (B + 552) 0 = h.1 (B + 552) 0 ∧ ((r = 1 ∧ FeA v k m) ∨ (r = 0 ∧ ¬ FeA v k m)) := by
  obtain ⟨r, h', k1, k2, k3, k4, k5⟩ := e8_fitsBut hm hk (m : Int)
  refine ⟨r, h', k1, k2, k3, k4, ?_⟩
  rcases k5 with ⟨z, c, t, z1, z2, z3⟩ | ⟨z, z1⟩
  · exact Or.inl ⟨z, hs, c, t, z1, z2, (fit_set hm16).mp z3⟩
  · exact Or.inr ⟨z, fun ⟨_, c, t, y1, y2, y3⟩ => z1 c t y1 y2 ((fit_set hm16).mpr y3)⟩
theorem sub_le' {m q : Nat} (hs : ∀ l, m.testBit l = true → q.testBit l = true) : m ≤ q := by
  have e : m &&& q = m := by
    refine Nat.eq_of_testBit_eq (fun j => ?_)
    rw [Nat.testBit_and]
    cases hj : m.testBit j
    · rfl
    · rw [hs j hj]; rfl
  rw [← e]
  exact Nat.and_le_right
theorem m_r98 {v : Nat → Nat → Int} (w : WF v) {k : Nat} (hk : (k : Int) < v 0 7) : ∀ (r s f : Nat) (g : zH) (b : Int), s + r = sLow v k + 1 → r < f → MV g (B + 541) v → ((b = -1 ∧ ∀ m, ¬ FeA v k m) ∨ ∃ m : Nat, b = (m : Int) ∧ m < 65536 ∧ FeA v k m ∧ ∀ q, q < s → FeA v k q → sle m q) →
    ∃ b' g', q_X8_callsToDrop_L98 (B + 541) (k : Int) ((sLow v k : Nat) : Int) (fun x39 _ h41 => some (x39, h41)) f b (s : Int) g = some (b', g') ∧ MnS (FeA v k) b' ∧ zSame B g g' ∧ g'.1 (B + 541) 0 = g.1 (B + 541) 0 ∧ g'.1 (B + 552) 0 = g.1 (B + 552) 0 := by
  have hn := w.nC
  have hlow : sLow v k < 65536 := nset_16 hn.2
  intro r
  induction r with
  | zero =>
    intro s f g b q1 q2 hm hb
    obtain ⟨f', rfl⟩ : ∃ f', f = f' + 1 := ⟨f - 1, by omega⟩
    refine ⟨b, g, ?_, ?_, zSame.rf, rfl, rfl⟩
    · rw [q_X8_callsToDrop_L98, if_pos (by omega)]
    · rcases hb with hb | ⟨m, b1, b2, b3, b4⟩
      · exact Or.inl hb
      · refine Or.inr ⟨m, b1, b2, b3, fun q hq => b4 q ?_ hq⟩
        have := sub_le' hq.1
        omega
  | succ r ih =>
    intro s f g b q1 q2 hm hb
    obtain ⟨f', rfl⟩ : ∃ f', f = f' + 1 := ⟨f - 1, by omega⟩
    rw [q_X8_callsToDrop_L98, if_neg (by omega)]
    rcases hb with ⟨b1, b2⟩ | ⟨m, b1, b2, b3, b4⟩
    · rw [if_pos b1]
      exact ⟨b, g, rfl, Or.inl ⟨b1, b2⟩, zSame.rf, rfl, rfl⟩
    · subst b1
      have hs16 : s < 65536 := by omega
      have hs6 : s < 1000000 := by omega
      have hmn : ¬ (m : Int) = -1 := by omega
      obtain ⟨q', c1, c2, c3⟩ := z_without hs16 hlow
      rw [if_neg hmn, e8_ones hs16, e8_ones b2]
      simp only [zbp_some, zlet_b]
      rw [c1, zw_s hs6]
      have hsub : q' = 0 ↔ ∀ l, s.testBit l = true → (sLow v k).testBit l = true := by
        constructor
        · intro z l hl
          have := c3 l
          rw [z, hl, Nat.zero_testBit] at this
          cases hq : (sLow v k).testBit l
          · rw [hq] at this
            exact absurd this (by decide)
          · rfl
        · intro z
          refine Nat.eq_of_testBit_eq (fun l => ?_)
          rw [c3, Nat.zero_testBit]
          cases hq : s.testBit l
          · rfl
          · rw [z l hq]; rfl
      have keep : (FeA v k s → sle m s) → ∃ b' g', q_X8_callsToDrop_L98 (B + 541) (k : Int) ((sLow v k : Nat) : Int) (fun x39 _ h41 => some (x39, h41)) f' (m : Int) ((s + 1 : Nat) : Int) g = some (b', g') ∧ MnS (FeA v k) b' ∧ zSame B g g' ∧ g'.1 (B + 541) 0 = g.1 (B + 541) 0 ∧ g'.1 (B + 552) 0 = g.1 (B + 552) 0 := fun hk' => by
        refine ih (s + 1) f' g (m : Int) (by omega) (by omega) hm (Or.inr ⟨m, rfl, b2, b3, fun q hq hF => ?_⟩)
        by_cases e : q = s
        · rw [e] at hF ⊢; exact hk' hF
        · exact b4 q (by omega) hF
      have tryS : sle s m → q' = 0 → ∃ b' g', zbd (q_X8_fitsBut g (B + 541) (k : Int) (s : Int)) (fun x24 h25 => if x24 = 0 then q_X8_callsToDrop_L98 (B + 541) (k : Int) ((sLow v k : Nat) : Int) (fun x39 _ h41 => some (x39, h41)) f' (m : Int) ((s + 1 : Nat) : Int) h25 else q_X8_callsToDrop_L98 (B + 541) (k : Int) ((sLow v k : Nat) : Int) (fun x39 _ h41 => some (x39, h41)) f' (s : Int) ((s + 1 : Nat) : Int) h25) = some (b', g') ∧ MnS (FeA v k) b' ∧ zSame B g g' ∧ g'.1 (B + 541) 0 = g.1 (B + 541) 0 ∧ g'.1 (B + 552) 0 = g.1 (B + 552) 0 := fun hle h0 => by
        obtain ⟨rr, g2, k1, k2, k3, k4, k5⟩ := e8_fb hm hk hs16 (hsub.mp h0)
        rw [k1, zbd_some]
        rcases k5 with ⟨z1, z2⟩ | ⟨z1, z2⟩
        · rw [if_neg (by omega)]
          obtain ⟨b', g', o1, o2, o3, o4, o5⟩ := ih (s + 1) f' g2 (s : Int) (by omega) (by omega) (hm.same k2) (Or.inr ⟨s, rfl, hs16, z2, fun q hq hF => by
            by_cases e : q = s
            · rw [e]; exact sle.rf
            · exact hle.tr (b4 q (by omega) hF)⟩)
          exact ⟨b', g', o1, o2, k2.tr o3, o4.trans k3, o5.trans k4⟩
        · rw [if_pos z1]
          obtain ⟨b', g', o1, o2, o3, o4, o5⟩ := ih (s + 1) f' g2 (m : Int) (by omega) (by omega) (hm.same k2) (Or.inr ⟨m, rfl, b2, b3, fun q hq hF => by
            by_cases e : q = s
            · rw [e] at hF; exact absurd hF z2
            · exact b4 q (by omega) hF⟩)
          exact ⟨b', g', o1, o2, k2.tr o3, o4.trans k3, o5.trans k4⟩
      have nosub : ¬ q' = 0 → FeA v k s → sle m s := fun z hF => absurd (hsub.mpr hF.1) z
      by_cases p1 : (pc s : Int) < (pc m : Int)
      · rw [if_pos p1]
        by_cases z : q' = 0
        · rw [if_pos (by rw [z]; rfl), if_neg one0]
          exact tryS (Or.inl (by omega)) z
        · rw [if_neg (by omega)]
          exact keep (nosub z)
      · rw [if_neg p1]
        by_cases p2 : (pc s : Int) = (pc m : Int)
        · rw [if_pos p2]
          by_cases p3 : (m : Int) ≤ (s : Int)
          · have hle : sle m s := Or.inr ⟨by omega, by omega⟩
            rw [if_pos p3]
            by_cases z : q' = 0
            · rw [if_pos (by rw [z]; rfl), if_pos trivial]
              exact keep (fun _ => hle)
            · rw [if_neg (by omega)]
              exact keep (fun _ => hle)
          · rw [if_neg p3]
            by_cases z : q' = 0
            · rw [if_pos (by rw [z]; rfl), if_neg one0]
              exact tryS (Or.inr ⟨by omega, by omega⟩) z
            · rw [if_neg (by omega)]
              exact keep (nosub z)
        · have hle : sle m s := Or.inl (by omega)
          rw [if_neg p2]
          by_cases z : q' = 0
          · rw [if_pos (by rw [z]; rfl), if_pos trivial]
            exact keep (fun _ => hle)
          · rw [if_neg (by omega)]
            exact keep (fun _ => hle)
theorem m_r29 {v : Nat → Nat → Int} {h : zH} (hm : MV h (B + 541) v) {k : Nat} (hk : (k : Int) < v 0 7) {K : Int → Int → zH → Option (Int × zH)} : q_X8_callsToDrop_L29 (B + 541) (k : Int) K zF 0 0 h = K ((sLow v k : Nat) : Int) (nCl v : Int) h := by
  have hn := hm.2.1.nC
  refine zsetloop (L := fun f x i => q_X8_callsToDrop_L29 (B + 541) (k : Int) K f x i h) (kf := fun x => K x (nCl v : Int) h) (fun l => decide (v (25 + l) 5 = 1 ∧ v (25 + l) 2 < v (25 + k) 2)) hn.2 (fun f i hi => ?_) (fun f => ?_)
  · have hi7 : (i : Int) < v 0 7 := by omega
    have hii : i < 1000000 := by omega
    have hni : ¬ (nCl v : Int) ≤ (i : Int) := by omega
    have hx : nset (fun l => decide (v (25 + l) 5 = 1 ∧ v (25 + l) 2 < v (25 + k) 2)) i < 65536 := nset_16 (by omega)
    show q_X8_callsToDrop_L29 (B + 541) (k : Int) K (f + 1) _ (i : Int) h = _
    rw [q_X8_callsToDrop_L29, m_n7 hm, if_neg hni, m_act hm hi7, m_2 hm hi7, m_2 hm hk]
    simp only [zbp_some, zlet_b, zdec]
    rw [zor_z hx, zw_s hii]
    by_cases h5 : v (25 + i) 5 = 1
    · rw [if_pos h5, if_neg one0]
      by_cases hp : v (25 + k) 2 ≤ v (25 + i) 2
      · rw [if_pos hp, if_neg (fun z => by have := z.2; omega)]
      · rw [if_neg hp, if_pos ⟨h5, by omega⟩]
    · rw [if_neg h5, if_pos rfl, if_neg (fun z => h5 z.1)]
  · show q_X8_callsToDrop_L29 (B + 541) (k : Int) K (f + 1) _ (nCl v : Int) h = _
    rw [q_X8_callsToDrop_L29, m_n7 hm, if_pos (Int.le_refl _)]
theorem op_34 : zI_34 (zInv B) B (B + 541) (B + 552) := by
  intro h hI hG a1 r1
  have hcv := hI.cv
  have w := hcv.2
  have hn := w.nC
  by_cases hc1 : 0 ≤ a1 ∧ a1 < vw h.1 (B + 1) 0 7
  · obtain ⟨k, rfl⟩ : ∃ k : Nat, a1 = (k : Int) := ⟨a1.toNat, by omega⟩
    have hk16 : k < 16 := by omega
    have good : ∃ s, q_X7_callsToDrop h B (k : Int) = some s ∧ ∀ h', zSame B h h' → ∃ h2, q_X8_callsToDrop h' (B + 541) (k : Int) = some (s, h2) ∧ zSame B h' h2 ∧ h2.1 (B + 541) 0 = 0 ∧ h2.1 (B + 552) 0 = h'.1 (B + 552) 0 := by
      unfold q_X7_callsToDrop
      rw [e7_call hI hc1.2, zbp_some, a_c hk16]
      by_cases h5 : vw h.1 (B + 1) (25 + k) 5 = 0
      · obtain ⟨b, p1, p2⟩ := e4_fewest hcv hc1.2
        rw [if_pos h5, hI.r0, p1, zbp_some]
        refine ⟨b, rfl, fun h' hs => ?_⟩
        have hm := hI.mv.same hs
        have hm0 := hm.p0 (x := 0)
        have hlow : sLow (vw h.1 (B + 1)) k < 65536 := nset_16 hn.2
        obtain ⟨rr, g, k1, k2, k3, k4, k5⟩ := e8_fb hm0 hc1.2 hlow (fun _ z => z)
        have mono : ∀ m, FeA (vw h.1 (B + 1)) k m → FeA (vw h.1 (B + 1)) k (sLow (vw h.1 (B + 1)) k) := fun m ⟨z1, c, t, z2, z3, z4⟩ => ⟨fun _ y => y, c, t, z2, z3, by
          obtain ⟨f1, f2, f3⟩ := Fit.iff.mp z4
          exact Fit.iff.mpr ⟨f1, f2, fun l hl hW hw => f3 l hl (fun y => hW (z1 l y)) hw⟩⟩
        have hfuel : sLow (vw h.1 (B + 1)) k + 1 < zF := by unfold zF; omega
        have fin : ∀ y : Int, (y = -1 ∧ ∀ m, ¬ FeA (vw h.1 (B + 1)) k m) ∨ (∃ m : Nat, y = (m : Int) ∧ m < 65536 ∧ FeA (vw h.1 (B + 1)) k m ∧ ∀ q, q < 0 → FeA (vw h.1 (B + 1)) k q → sle m q) → ∃ h2, q_X8_callsToDrop_L98 (B + 541) (k : Int) ((sLow (vw h.1 (B + 1)) k : Nat) : Int) (fun x39 _ h41 => some (x39, h41)) zF y 0 g = some (b, h2) ∧ zSame B h' h2 ∧ h2.1 (B + 541) 0 = 0 ∧ h2.1 (B + 552) 0 = h'.1 (B + 552) 0 := fun y hy => by
          obtain ⟨b', h2, o1, o2, o3, o4, o5⟩ := m_r98 (B := B) w hc1.2 (sLow (vw h.1 (B + 1)) k + 1) 0 zF g y (Nat.zero_add _) hfuel (hm0.same k2) hy
          have e : b = b' := p2.eqv o2 (fun m z => drop_12 w z) (fun q z => drop_21 w (Nat.lt_of_le_of_lt (sub_le' z.1) hlow) z)
          rw [e]
          exact ⟨h2, o1, (zSame.rf.put sM0).tr (k2.tr o3), by rw [o4, k3, zput_self], by rw [o5, k4, zO_ne]⟩
        have ref : q_X8_callsToDrop h' (B + 541) (k : Int) = if rr = 0 then q_X8_callsToDrop_L98 (B + 541) (k : Int) ((sLow (vw h.1 (B + 1)) k : Nat) : Int) (fun x39 _ h41 => some (x39, h41)) zF (-1) 0 g else q_X8_callsToDrop_L98 (B + 541) (k : Int) ((sLow (vw h.1 (B + 1)) k : Nat) : Int) (fun x39 _ h41 => some (x39, h41)) zF ((sLow (vw h.1 (B + 1)) k : Nat) : Int) 0 g := by
          unfold q_X8_callsToDrop
          rw [e8_isCall hm, if_pos hc1, zbp_some, e8_checks (Or.inr rfl), zbd_some, if_neg one0, if_neg one0, m_5 hm0 hc1.2, zbp_some, if_pos h5, m_r29 hm0 hc1.2, k1, zbd_some]
        rw [ref]
        rcases k5 with ⟨z1, z2⟩ | ⟨z1, z2⟩
        · rw [if_neg (by omega)]
          exact fin _ (Or.inr ⟨_, rfl, hlow, z2, fun q hq => by omega⟩)
        · rw [if_pos z1]
          exact fin _ (Or.inl ⟨rfl, fun m y => z2 (mono m y)⟩)
      · rw [if_neg h5]
        refine ⟨-1, rfl, fun h' hs => ⟨zput h' (B + 541) 0 0, ?_, zSame.rf.put sM0, zput_self, zO_ne⟩⟩
        have hm := hI.mv.same hs
        unfold q_X8_callsToDrop
        rw [e8_isCall hm, if_pos hc1, zbp_some, e8_checks (Or.inr rfl), zbd_some, if_neg one0, if_neg one0, m_5 hm.p0 hc1.2, zbp_some, if_neg h5]
    obtain ⟨s, g1, g2⟩ := good
    have s1 : zSame B h (zput h (B + 552) 0 s) := zSame.rf.put sO
    obtain ⟨h2, k1, k2, k3, k4⟩ := g2 _ s1
    exact ⟨h2, Or.inl ⟨s, g1, k1, by rw [e8_thr, k3], by rw [k4, zput_self]⟩, hI.same (s1.tr k2)⟩
  · refine ⟨zput h (B + 541) 0 1, Or.inr ⟨(b_call hI).mpr hc1, 0, ?_, by rw [e8_thr, zput_self]⟩, hI.same (zSame.rf.put sM0)⟩
    unfold q_X8_callsToDrop
    rw [e8_isCall hI.mv, if_neg hc1, zbp_some, e8_checks (Or.inl rfl), zbd_some, if_pos rfl, if_pos rfl]
end OPS
