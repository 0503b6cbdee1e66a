/-! A new exchange, on both sides. -/
/-- a row of zeros -/
def zzr (h : zH) (a n : Nat) : zH := (fun q j => if q = a ∧ j < n then 0 else h.1 q j, h.2)
theorem zzr_at {h : zH} {a n j : Nat} (hj : j < n) : (zzr h a n).1 a j = 0 := if_pos ⟨rfl, hj⟩
theorem zzr_ne {h : zH} {a n q j : Nat} (hj : ¬ (q = a ∧ j < n)) : (zzr h a n).1 q j = h.1 q j := if_neg hj
theorem zzr_0 {h : zH} {a : Nat} : zzr h a 0 = h := by
  refine Prod.ext ?_ rfl
  funext q j
  exact if_neg (by omega)
theorem zzr_s {h : zH} {a n : Nat} : zput (zzr h a n) a n 0 = zzr h a (n + 1) := by
  refine Prod.ext ?_ rfl
  funext q j
  by_cases e : q = a ∧ j = n
  · rw [zput_1, if_pos e]
    exact (if_pos (by omega)).symm
  · rw [zput_ne e]
    by_cases e2 : q = a ∧ j < n
    · rw [e2.1, zzr_at e2.2, zzr_at (by omega)]
    · rw [zzr_ne e2, zzr_ne (by omega)]
section NX
variable {M : Nat}
theorem m_new2 {h : zH} (hl : mly h.2 M) {k : Int → zH → Option (Unit × zH)} : ∀ (r i f : Nat), i + r = 65 → r < f → q_X8_newExchange_L2 M k f (i : Int) (zzr h (M + 3) i) = k 65 (zzr h (M + 3) 65) := by
  intro r
  induction r with
  | zero =>
    intro i f h1 hf
    obtain ⟨f', rfl⟩ : ∃ f', f = f' + 1 := ⟨f - 1, by omega⟩
    obtain rfl : i = 65 := by omega
    rw [q_X8_newExchange_L2]
    exact if_pos (by decide)
  | succ r ih =>
    intro i f h1 hf
    obtain ⟨f', rfl⟩ : ∃ f', f = f' + 1 := ⟨f - 1, by omega⟩
    have hi : i < 65 := by omega
    have hn : ¬ (65 : Int) ≤ (i : Int) := by omega
    have e4 : (zzr h (M + 3) i).2 M 4 = M + 3 := hl 4
    rw [q_X8_newExchange_L2, if_neg hn]
    simp only [zlet_b]
    rw [zgpos hi, Int.toNat_natCast, e4, zzr_s, zw_s (by omega)]
    exact ih (i + 1) f' (by omega) (by omega)
theorem m_new31 {h : zH} (hl : mly h.2 M) {k : Int → zH → Option (Unit × zH)} : ∀ (r i f : Nat), i + r = 597 → r < f → q_X8_newExchange_L31 M k f (i : Int) (zzr h (M + 4) i) = k 597 (zzr h (M + 4) 597) := by
  intro r
  induction r with
  | zero =>
    intro i f h1 hf
    obtain ⟨f', rfl⟩ : ∃ f', f = f' + 1 := ⟨f - 1, by omega⟩
    obtain rfl : i = 597 := by omega
    rw [q_X8_newExchange_L31]
    exact if_pos (by decide)
  | succ r ih =>
    intro i f h1 hf
    obtain ⟨f', rfl⟩ : ∃ f', f = f' + 1 := ⟨f - 1, by omega⟩
    have hi : i < 597 := by omega
    have hn : ¬ (597 : Int) ≤ (i : Int) := by omega
    have e5 : (zzr h (M + 4) i).2 M 5 = M + 4 := hl 5
    rw [q_X8_newExchange_L31, if_neg hn]
    simp only [zlet_b]
    rw [zgpos hi, Int.toNat_natCast, e5, zzr_s, zw_s (by omega)]
    exact ih (i + 1) f' (by omega) (by omega)
theorem e8_newExchange {h : zH} (hl : mly h.2 M) : ∃ g, q_X8_newExchange h M = some ((), g) ∧ g.2 = h.2 ∧ (∀ i, i < 65 → g.1 (M + 3) i = if i = 64 then 1 else 0) ∧ ((∀ j, j < 7 → g.1 (M + 4) (1 + j) = zsV 2 j) ∧ ∀ i, i < 597 → (i = 0 ∨ 8 ≤ i) → g.1 (M + 4) i = 0) ∧ (g.1 M 18 = 0 ∧ g.1 M 19 = 0 ∧ g.1 M 20 = 0) ∧ ∀ q j, ¬ (q = M + 3 ∧ j < 65) → ¬ (q = M + 4 ∧ j < 597) → ¬ (q = M ∧ 18 ≤ j ∧ j ≤ 20) → g.1 q j = h.1 q j := by
  have e4 : ∀ g : zH, g.2 = h.2 → g.2 M 4 = M + 3 := fun g e => by rw [e]; exact hl 4
  have e5 : ∀ g : zH, g.2 = h.2 → g.2 M 5 = M + 4 := fun g e => by rw [e]; exact hl 5
  have hF1 : 65 < zF := by unfold zF; omega
  have hF2 : 597 < zF := by unfold zF; omega
  have l2 : ∀ k, q_X8_newExchange_L2 M k zF 0 h = k 65 (zzr h (M + 3) 65) := fun k => by
    have := m_new2 hl (k := k) 65 0 zF (by omega) hF1
    rw [zzr_0] at this
    exact this
  have hl2 : mly (zput (zzr h (M + 3) 65) (M + 3) 64 1).2 M := hl
  have l31 : ∀ k, q_X8_newExchange_L31 M k zF 0 (zput (zzr h (M + 3) 65) (M + 3) 64 1) = k 597 (zzr (zput (zzr h (M + 3) 65) (M + 3) 64 1) (M + 4) 597) := fun k => by
    have := m_new31 hl2 (k := k) 597 0 zF (by omega) hF2
    rw [zzr_0] at this
    exact this
  unfold q_X8_newExchange
  rw [l2, zlet_b, e4 (zzr h (M + 3) 65) rfl, l31]
  simp only [zlet_b, zput_2]
  rw [e5 (zzr (zput (zzr h (M + 3) 65) (M + 3) 64 1) (M + 4) 597) rfl]
  refine ⟨_, rfl, rfl, fun i hi => ?_, ⟨fun j hj => ?_, fun i hi h08 => ?_⟩, ⟨?_, ?_, ?_⟩, fun q j z1 z2 z3 => ?_⟩
  · rw [zput_ne (by omega), zput_ne (by omega), zput_ne (by omega), zput_ne (by omega), zput_ne (by omega), zput_ne (by omega), zput_ne (by omega), zput_ne (by omega), zput_ne (by omega), zput_ne (by omega), zzr_ne (by omega)]
    by_cases e : i = 64
    · rw [if_pos e, e, zput_self]
    · rw [if_neg e, zput_ne (by omega), zzr_at hi]
  · rw [zput_ne (by omega), zput_ne (by omega), zput_ne (by omega)]
    obtain rfl | rfl | rfl | rfl | rfl | rfl | rfl : j = 0 ∨ j = 1 ∨ j = 2 ∨ j = 3 ∨ j = 4 ∨ j = 5 ∨ j = 6 := by omega
    · rw [zput_ne (by omega), zput_ne (by omega), zput_ne (by omega), zput_ne (by omega), zput_ne (by omega), zput_ne (by omega), zput_self]; decide
    · rw [zput_ne (by omega), zput_ne (by omega), zput_ne (by omega), zput_ne (by omega), zput_ne (by omega), zput_self]; decide
    · rw [zput_ne (by omega), zput_ne (by omega), zput_ne (by omega), zput_ne (by omega), zput_self]; decide
    · rw [zput_ne (by omega), zput_ne (by omega), zput_ne (by omega), zput_self]; decide
    · rw [zput_ne (by omega), zput_ne (by omega), zput_self]; decide
    · rw [zput_ne (by omega), zput_self]; decide
    · rw [zput_self]; decide
  · rw [zput_ne (by omega), zput_ne (by omega), zput_ne (by omega), zput_ne (by omega), zput_ne (by omega), zput_ne (by omega), zput_ne (by omega), zput_ne (by omega), zput_ne (by omega), zput_ne (by omega), zzr_at hi]
  · rw [zput_self]
  · rw [zput_ne (by omega), zput_ne (by omega), zput_self]
  · rw [zput_ne (by omega), zput_self]
  · rw [zput_ne (by omega), zput_ne (by omega), zput_ne (by omega), zput_ne (by omega), zput_ne (by omega), zput_ne (by omega), zput_ne (by omega), zput_ne (by omega), zput_ne (by omega), zput_ne (by omega), zzr_ne (by omega), zput_ne (by omega), zzr_ne (by omega)]
end NX
/-- what the class clears before it reads -/
def V0c (v : Nat → Nat → Int) : Prop := v 0 0 = 0 ∧ v 0 1 = 1 ∧ v 0 3 = 0 ∧ v 0 5 = 0 ∧ v 0 7 = 0 ∧ ∀ j, j < 7 → v 1 j = zsV 2 j
theorem V0c.good {v : Nat → Nat → Int} (c : V0c v) : Good v := by
  obtain ⟨c0, c1, c3, c5, c7, cs⟩ := c
  have hz : ∀ j, j < 7 → zsV 0 j ≤ zsV 2 j ∧ zsV 2 j ≤ zsV 1 j := by decide
  refine ⟨⟨by omega, by omega, by omega, by omega, by omega, fun j hj => by rw [cs j hj]; exact hz j hj, fun s hs => by omega, fun r hr => by omega, fun k hk => by omega⟩, GI.none c7⟩
theorem V0c.mr {v : Nat → Nat → Int} (c : V0c v) {N T : Nat → Int} (hT : ∀ i, i < 65 → T i = if i = 64 then 1 else 0) (hN1 : ∀ j, j < 7 → N (1 + j) = zsV 2 j) (hN0 : ∀ i, i < 597 → (i = 0 ∨ 8 ≤ i) → N i = 0) : MR v N T := by
  obtain ⟨c0, c1, c3, c5, c7, cs⟩ := c
  refine ⟨by rw [c0]; exact hN0 0 (by decide) (by decide), by rw [c1]; exact hT 64 (by decide), by rw [c3]; exact hT 62 (by decide), by rw [c5]; exact hT 63 (by decide), by rw [c7]; exact hN0 404 (by decide) (by decide), fun j hj => by rw [cs j hj]; exact hN1 j hj, fun s hs => by omega, fun r hr => by omega, fun k hk => by omega⟩
theorem e4_clear {h : zH} {A : Nat} (hc : cly h.2 A) : ∃ g, q_X4_clear h A = some ((), g) ∧ g.2 = h.2 ∧ V0c (vw g.1 A) ∧ ∀ q j, ¬ (A ≤ q ∧ q < A + 41) → g.1 q j = h.1 q j := by
  unfold q_X4_clear
  simp only [zlet_b]
  have e2 : (zput (zput (zput (zput (zput h A 0 0) A 1 1) A 3 0) A 5 0) A 7 0).2 A 2 = A + 1 := hc.set
  rw [e2]
  have cn : ∀ (g : zH) (q j : Nat), q ≠ A + 1 → (zcpyT g 2 (A + 1)).1 q j = g.1 q j := fun g q j hq => if_neg (fun z => hq z.1)
  have c0 : ∀ j, vw (zcpyT (zput (zput (zput (zput (zput h A 0 0) A 1 1) A 3 0) A 5 0) A 7 0) 2 (A + 1)).1 A 0 j = (zput (zput (zput (zput (zput h A 0 0) A 1 1) A 3 0) A 5 0) A 7 0).1 A j := fun j => by
    rw [vw_at (by decide)]
    exact cn _ _ _ (by omega)
  refine ⟨_, rfl, rfl, ⟨?_, ?_, ?_, ?_, ?_, fun j hj => ?_⟩, fun q j hq => ?_⟩
  · rw [c0, zput_ne (by omega), zput_ne (by omega), zput_ne (by omega), zput_ne (by omega), zput_self]
  · rw [c0, zput_ne (by omega), zput_ne (by omega), zput_ne (by omega), zput_self]
  · rw [c0, zput_ne (by omega), zput_ne (by omega), zput_self]
  · rw [c0, zput_ne (by omega), zput_self]
  · rw [c0, zput_self]
  · rw [vw_at (by decide)]
    exact if_pos ⟨rfl, hj⟩
  · rw [cn _ _ _ (by omega), zput_ne (by omega), zput_ne (by omega), zput_ne (by omega), zput_ne (by omega), zput_ne (by omega)]
theorem MR.extT {v : Nat → Nat → Int} {N T T' : Nat → Int} (w : WF v) (m : MR v N T) (hT : ∀ i, i < 65 → T' i = T i) : MR v N T' := by
  have hs6 := w.nS
  have hr8 := w.nR
  obtain ⟨a1, a2, a3, a4, a5, a6, a7, a8, a9⟩ := m
  refine ⟨a1, by rw [hT 64 (by decide)]; exact a2, by rw [hT 62 (by decide)]; exact a3, by rw [hT 63 (by decide)]; exact a4, a5, a6, fun s hs => ?_, fun r hr => ?_, a9⟩
  · obtain ⟨b1, b2, b3, b4, b5, b6, b7, b8⟩ := a7 s hs
    exact ⟨by rw [hT _ (by omega)]; exact b1, by rw [hT _ (by omega)]; exact b2, by rw [hT _ (by omega)]; exact b3, by rw [hT _ (by omega)]; exact b4, by rw [hT _ (by omega)]; exact b5, b6, b7, b8⟩
  · obtain ⟨b1, b2, b3, b4⟩ := a8 r hr
    exact ⟨by rw [hT _ (by omega)]; exact b1, by rw [hT _ (by omega)]; exact b2, by rw [hT _ (by omega)]; exact b3, by rw [hT _ (by omega)]; exact b4⟩
