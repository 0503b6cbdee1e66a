/-! Sums over calls, and looks for a call. -/
section OPS
variable {B : Nat}
theorem one0 : ¬ ((1 : Int) = 0) := by decide
theorem sOn_s {v : Nat → Nat → Int} (w : WF v) {c : Int} {g : Nat → Int} {m : Int} (hg : ∀ k : Nat, (k : Int) < v 0 7 → 0 ≤ g k ∧ g k ≤ m) (hm : 0 ≤ m) : ∀ (a : Int) i, i < nCl v → (0 ≤ a ∧ a ≤ m * (i : Int)) → 0 ≤ (if v (25 + i) 5 = 1 ∧ v (25 + i) 6 = c then a + g i else a) ∧ (if v (25 + i) 5 = 1 ∧ v (25 + i) 6 = c then a + g i else a) ≤ m * ((i + 1 : Nat) : Int) := by
  intro a i hi ha
  have hn := w.nC
  have h1 := hg i (by omega)
  have e : m * ((i + 1 : Nat) : Int) = m * (i : Int) + m := by rw [Int.natCast_add, Int.mul_add]; simp
  rw [e]
  split <;> omega
theorem sm_le {m a : Int} {i : Nat} (hm : 0 ≤ m) (hi : i ≤ 16) (ha : a ≤ m * (i : Int)) : a ≤ 16 * m := by
  have : m * (i : Int) ≤ m * 16 := Int.mul_le_mul_of_nonneg_left (by omega) hm
  omega
theorem op_28 : zI_28 (zInv B) B (B + 541) (B + 552) := by
  intro h hI hG a1 r1
  have hc := hI.cv
  have hn := hc.2.nC
  generalize hv : vw h.1 (B + 1) = v at hc hn
  have w : WF v := by rw [← hv]; exact hI.wf
  have hg : ∀ k : Nat, (k : Int) < v 0 7 → 0 ≤ (1 : Int) ∧ (1 : Int) ≤ 1 := fun k hk => by
    skip
    omega
  have hstep := fun c => sOn_s (v := v) w (c := c) (g := fun k => 1) (m := 1) hg (by decide)
  refine lk_carrier hI (q7 := q_X7_callsOn h B a1) (q8 := fun h' => q_X8_callsOn h' (B + 541) a1) (fun n => sOn v (n : Int) (fun k => 1)) (fun _ => rfl) (fun _ _ => rfl) (fun n hx hn' => ?_) (fun n h' h2 hx hn' hs hm h0 => ?_)
  · have hcv := hI.cv
    unfold q_X7_callsOn
    rw [e7_carrier hI (by omega) (by omega), zbp_some, hx]
    refine zloopQ (L := fun f a i => q_X7_callsOn_L9 h B (n : Int) (fun x _ => some x) f a i) _ (fun i (a : Int) => 0 ≤ a ∧ a ≤ 1 * (i : Int)) (by omega) ⟨by omega, by omega⟩ (fun a i hi ha => hstep (n : Int) a i hi ha) (fun f a i hi ha => ?_) (fun f a ha => ?_)
    · have hi16 : i < 16 := by omega
      have hb := sm_le (by decide) (by omega) ha.2
      have h1 := hg i (by omega)
      have ex : zw (a + 1) = a + 1 := zw_id ⟨by omega, by omega⟩
      have e7 := a_n7 hcv
      rw [hv] at e7
      show q_X7_callsOn_L9 h B (n : Int) _ (f + 1) a (i : Int) = _
      rw [q_X7_callsOn_L9]
      simp only [zlet_b]
      rw [hI.r0, e7, if_neg (by omega), zgi_pos (by omega) (by omega), Int.toNat_natCast, a_call hcv, e4_isOn hi16, zbp_some, zw_s (by omega), hv]
      by_cases hq : v (25 + i) 5 = 1 ∧ v (25 + i) 6 = (n : Int)
      · rw [if_pos hq, if_neg one0, if_pos hq, ex]
      · rw [if_neg hq, if_pos rfl, if_neg hq]
    · have e7 := a_n7 hcv
      rw [hv] at e7
      show q_X7_callsOn_L9 h B (n : Int) _ (f + 1) a (nCl v : Int) = _
      rw [q_X7_callsOn_L9, hI.r0, e7, if_pos (Int.le_refl _)]
  · rw [hv] at hm
    refine ⟨h2, ?_, zSame.rf, h0, rfl⟩
    show (if (1 : Int) = 0 then _ else _) = _
    rw [if_neg one0, hx]
    refine zloopQ (L := fun f a i => q_X8_callsOn_L18 (B + 541) (n : Int) (fun x _ h15 => some (x, h15)) f a i h2) (kf := fun a => some (a, h2)) _ (fun i (a : Int) => 0 ≤ a ∧ a ≤ 1 * (i : Int)) (by omega) ⟨by omega, by omega⟩ (fun a i hi ha => hstep (n : Int) a i hi ha) (fun f a i hi ha => ?_) (fun f a ha => ?_)
    · have hi7 : (i : Int) < v 0 7 := by omega
      have hb := sm_le (by decide) (by omega) ha.2
      have h1 := hg i (by omega)
      have ex : zw (a + 1) = a + 1 := zw_id ⟨by omega, by omega⟩
      have e0 : zw (a + 0) = a := zw_0 ⟨by omega, by omega⟩
      show q_X8_callsOn_L18 (B + 541) (n : Int) _ (f + 1) a (i : Int) h2 = _
      rw [q_X8_callsOn_L18]
      simp only [zlet_b]
      rw [m_n7 hm, if_neg (by omega), m_act hm hi7, zbp_some, e0, zw_s (by omega)]
      by_cases h5 : v (25 + i) 5 = 1
      · rw [if_pos h5, if_neg one0, m_6 hm hi7 h5, zbp_some]
        by_cases h6 : v (25 + i) 6 = (n : Int)
        · rw [if_pos h6, if_pos ⟨h5, h6⟩, ex]
        · rw [if_neg h6, if_neg (fun q => h6 q.2)]
      · rw [if_neg h5, if_pos rfl, if_neg (fun q => h5 q.1)]
    · show q_X8_callsOn_L18 (B + 541) (n : Int) _ (f + 1) a (nCl v : Int) h2 = _
      rw [q_X8_callsOn_L18, m_n7 hm, if_pos (Int.le_refl _)]
theorem op_29 : zI_29 (zInv B) B (B + 541) (B + 552) := by
  intro h hI hG a1 r1
  have hc := hI.cv
  have hn := hc.2.nC
  generalize hv : vw h.1 (B + 1) = v at hc hn
  have w : WF v := by rw [← hv]; exact hI.wf
  have hg : ∀ k : Nat, (k : Int) < v 0 7 → 0 ≤ (v (25 + k) 3 : Int) ∧ (v (25 + k) 3 : Int) ≤ 2200 := fun k hk => by
    have := (w.2.2.2.2.2.2.2.2 k hk).2.2.2.2.1
    omega
  have hstep := fun c => sOn_s (v := v) w (c := c) (g := fun k => v (25 + k) 3) (m := 2200) hg (by decide)
  refine lk_carrier hI (q7 := q_X7_usedSymbols h B a1) (q8 := fun h' => q_X8_usedSymbols h' (B + 541) a1) (fun n => sOn v (n : Int) (fun k => v (25 + k) 3)) (fun _ => rfl) (fun _ _ => rfl) (fun n hx hn' => ?_) (fun n h' h2 hx hn' hs hm h0 => ?_)
  · have hcv := hI.cv
    unfold q_X7_usedSymbols
    rw [e7_carrier hI (by omega) (by omega), zbp_some, hx]
    refine zloopQ (L := fun f a i => q_X7_usedSymbols_L9 h B (n : Int) (fun x _ => some x) f a i) _ (fun i (a : Int) => 0 ≤ a ∧ a ≤ 2200 * (i : Int)) (by omega) ⟨by omega, by omega⟩ (fun a i hi ha => hstep (n : Int) a i hi ha) (fun f a i hi ha => ?_) (fun f a ha => ?_)
    · have hi16 : i < 16 := by omega
      have hb := sm_le (by decide) (by omega) ha.2
      have h1 := hg i (by omega)
      have ex : zw (a + v (25 + i) 3) = a + v (25 + i) 3 := zw_id ⟨by omega, by omega⟩
      have e7 := a_n7 hcv
      rw [hv] at e7
      show q_X7_usedSymbols_L9 h B (n : Int) _ (f + 1) a (i : Int) = _
      rw [q_X7_usedSymbols_L9]
      simp only [zlet_b]
      rw [hI.r0, e7, if_neg (by omega), zgi_pos (by omega) (by omega), Int.toNat_natCast, a_call hcv, e4_isOn hi16, zbp_some, zw_s (by omega), hv]
      by_cases hq : v (25 + i) 5 = 1 ∧ v (25 + i) 6 = (n : Int)
      · rw [if_pos hq, if_neg one0, if_pos hq, zgi_pos (by omega) (by omega), a_c hi16, hv, ex]
      · rw [if_neg hq, if_pos rfl, if_neg hq]
    · have e7 := a_n7 hcv
      rw [hv] at e7
      show q_X7_usedSymbols_L9 h B (n : Int) _ (f + 1) a (nCl v : Int) = _
      rw [q_X7_usedSymbols_L9, hI.r0, e7, if_pos (Int.le_refl _)]
  · rw [hv] at hm
    refine ⟨h2, ?_, zSame.rf, h0, rfl⟩
    show (if (1 : Int) = 0 then _ else _) = _
    rw [if_neg one0, hx]
    refine zloopQ (L := fun f a i => q_X8_usedSymbols_L18 (B + 541) (n : Int) (fun x _ h15 => some (x, h15)) f a i h2) (kf := fun a => some (a, h2)) _ (fun i (a : Int) => 0 ≤ a ∧ a ≤ 2200 * (i : Int)) (by omega) ⟨by omega, by omega⟩ (fun a i hi ha => hstep (n : Int) a i hi ha) (fun f a i hi ha => ?_) (fun f a ha => ?_)
    · have hi7 : (i : Int) < v 0 7 := by omega
      have hb := sm_le (by decide) (by omega) ha.2
      have h1 := hg i (by omega)
      have ex : zw (a + v (25 + i) 3) = a + v (25 + i) 3 := zw_id ⟨by omega, by omega⟩
      have e0 : zw (a + 0) = a := zw_0 ⟨by omega, by omega⟩
      show q_X8_usedSymbols_L18 (B + 541) (n : Int) _ (f + 1) a (i : Int) h2 = _
      rw [q_X8_usedSymbols_L18]
      simp only [zlet_b]
      rw [m_n7 hm, if_neg (by omega), m_act hm hi7, zbp_some, e0, zw_s (by omega)]
      by_cases h5 : v (25 + i) 5 = 1
      · rw [if_pos h5, if_neg one0, m_6 hm hi7 h5, zbp_some]
        by_cases h6 : v (25 + i) 6 = (n : Int)
        · rw [if_pos h6, if_pos ⟨h5, h6⟩, m_burst hm hi7, zbp_some, ex]
        · rw [if_neg h6, if_neg (fun q => h6 q.2)]
      · rw [if_neg h5, if_pos rfl, if_neg (fun q => h5 q.1)]
    · show q_X8_usedSymbols_L18 (B + 541) (n : Int) _ (f + 1) a (nCl v : Int) h2 = _
      rw [q_X8_usedSymbols_L18, m_n7 hm, if_pos (Int.le_refl _)]
end OPS
