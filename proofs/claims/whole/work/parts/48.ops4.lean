/-! Looks for stations and calls, loads, the next end. -/
/-- the first of that name -/
def sNamed (v : Nat → Nat → Int) (x : Int) : Int := match zfs (fun k => decide (v (5 + 2 * k) 0 = x)) (nSt v) 0 with | none => -1 | some k => (k : Int)
section OPS
variable {B : Nat}
theorem e4_named {h : zH} {A : Nat} (hc : CV h A) (x : Int) : q_X4_stationWithName h A x = some (sNamed (vw h.1 A) x) := by
  have hn := hc.2.nS
  have key := zfind0 (L := fun n i => q_X4_stationWithName_L2 h A x (fun _ => some (-1)) n i) (N := nSt (vw h.1 A)) (fun k => decide (vw h.1 A (5 + 2 * k) 0 = x)) (r := fun k => some (k : Int)) (kf := some (-1)) (by omega) (fun n i hi => ?_) (fun n => ?_)
  · unfold q_X4_stationWithName
    refine key.trans ?_
    unfold sNamed
    generalize zfs _ _ _ = o
    cases o <;> rfl
  · have hi6 : i < 6 := by omega
    show q_X4_stationWithName_L2 h A x _ (n + 1) (i : Int) = _
    rw [q_X4_stationWithName_L2]
    simp only [zlet_b]
    rw [a_n3 hc, if_neg (by omega), zgi_pos (by omega) (by omega), Int.toNat_natCast, a_stn hc, a_s hi6, zw_s (by omega)]
    by_cases hq : vw h.1 A (5 + 2 * i) 0 = x
    · rw [if_pos hq, if_pos (by rw [decide_eq_true_eq]; exact hq)]
    · rw [if_neg hq, if_neg (by rw [decide_eq_true_eq]; exact hq)]
  · show q_X4_stationWithName_L2 h A x _ (n + 1) (nSt (vw h.1 A) : Int) = _
    rw [q_X4_stationWithName_L2, a_n3 hc, if_pos (Int.le_refl _)]
theorem e8_found {h : zH} {v : Nat → Nat → Int} (hm : MV h (B + 541) v) (x : Int) : q_X8_found h (h.2 (B + 541) 3) x = some (sNamed v x) := by
  have hn := hm.2.1.nS
  have key := zfind0 (L := fun n i => q_X8_found_L2 h (h.2 (B + 541) 3) x (fun _ => some (-1)) n i) (N := nSt v) (fun k => decide (v (5 + 2 * k) 0 = x)) (r := fun k => some (k : Int)) (kf := some (-1)) (by omega) (fun n i hi => ?_) (fun n => ?_)
  · unfold q_X8_found
    refine key.trans ?_
    unfold sNamed
    generalize zfs _ _ _ = o
    cases o <;> rfl
  · have e0 : zw (0 + (i : Int)) = ((i : Nat) : Int) := by rw [Int.zero_add, zw_id ⟨by omega, by omega⟩]
    have t0 := (m_s hm (s := i) (by omega)).1
    show q_X8_found_L2 h _ x _ (n + 1) (i : Int) = _
    rw [q_X8_found_L2]
    simp only [zlet_b]
    rw [m_n3 hm, if_neg (by omega), e0, zgi_pos (by omega) (by omega), Int.toNat_natCast, t0, zw_s (by omega)]
    by_cases hq : v (5 + 2 * i) 0 = x
    · rw [if_pos hq, if_pos (by rw [decide_eq_true_eq]; exact hq)]
    · rw [if_neg hq, if_neg (by rw [decide_eq_true_eq]; exact hq)]
  · show q_X8_found_L2 h _ x _ (n + 1) (nSt v : Int) = _
    rw [q_X8_found_L2, m_n3 hm, if_pos (Int.le_refl _)]
theorem op_7 : zI_7 (zInv B) B (B + 541) (B + 552) := by
  intro h hI hG a1 r1
  have s1 : zSame B h (zput h (B + 541) 0 0) := zSame.rf.put sM0
  have hm := hI.mv.same s1
  refine ⟨zput h (B + 541) 0 0, ⟨sNamed (vw h.1 (B + 1)) a1, ?_, ?_⟩, hI.same s1⟩
  · unfold q_X7_stationNamed
    rw [hI.r0, e4_named hI.cv, zbp_some]
  · unfold q_X8_stationNamed
    simp only [zlet_b]
    rw [e8_found hm, zbp_some]
theorem sLd_s {v : Nat → Nat → Int} (w : WF v) {s : Int} : ∀ (a : Int) i, i < nCl v → (0 ≤ a ∧ a ≤ 2200 * (i : Int)) → 0 ≤ (if v (25 + i) 5 = 1 ∧ v (25 + i) 0 = s then a + v (25 + i) 3 else a) ∧ (if v (25 + i) 5 = 1 ∧ v (25 + i) 0 = s then a + v (25 + i) 3 else a) ≤ 2200 * ((i + 1 : Nat) : Int) := by
  intro a i hi ha
  have hn := w.nC
  have h1 := (w.2.2.2.2.2.2.2.2 i (by omega)).2.2.2.2.1
  split <;> omega
theorem op_48 : zI_48 (zInv B) B (B + 541) (B + 552) := by
  intro h hI hG a1 r1
  have hcv := hI.cv
  have hn := hcv.2.nC
  have w := hcv.2
  refine lk_station hI (q7 := q_X7_loadOf h B a1) (q8 := fun h' => q_X8_loadOf h' (B + 541) a1) (fun _ => sLd (vw h.1 (B + 1)) a1) (fun _ => rfl) (fun _ _ => rfl) (fun n hx hn' => ?_) (fun n h' h2 hx hn' hs hm h0 => ?_)
  · have e := e7_station hI hn'
    rw [← hx] at e
    unfold q_X7_loadOf
    rw [e, zbp_some]
    refine zloopQ (L := fun f a i => q_X7_loadOf_L10 h B a1 (fun x _ => some x) f a i) _ (fun i (a : Int) => 0 ≤ a ∧ a ≤ 2200 * (i : Int)) (by omega) ⟨by omega, by omega⟩ (fun a i hi ha => sLd_s w a i hi ha) (fun f a i hi ha => ?_) (fun f a ha => ?_)
    · have hi16 : i < 16 := by omega
      have h1 := (w.2.2.2.2.2.2.2.2 i (by omega)).2.2.2.2.1
      have ex : zw (a + vw h.1 (B + 1) (25 + i) 3) = a + vw h.1 (B + 1) (25 + i) 3 := zw_id ⟨by omega, by omega⟩
      show q_X7_loadOf_L10 h B a1 _ (f + 1) a (i : Int) = _
      rw [q_X7_loadOf_L10]
      simp only [zlet_b]
      rw [hI.r0, a_n7 hcv, if_neg (by omega), zgi_pos (by omega) (by omega), Int.toNat_natCast, a_call hcv, a_c hi16, a_c hi16, a_c hi16, zw_s (by omega)]
      by_cases h5 : vw h.1 (B + 1) (25 + i) 5 = 1
      · rw [if_pos h5]
        by_cases hq : vw h.1 (B + 1) (25 + i) 0 = a1
        · rw [if_pos hq, if_pos ⟨h5, hq⟩, ex]
        · rw [if_neg hq, if_neg (fun q => hq q.2)]
      · rw [if_neg h5, if_neg (fun q => h5 q.1)]
    · show q_X7_loadOf_L10 h B a1 _ (f + 1) a (nCl (vw h.1 (B + 1)) : Int) = _
      rw [q_X7_loadOf_L10, hI.r0, a_n7 hcv, if_pos (Int.le_refl _)]
  · refine ⟨h2, ?_, zSame.rf, h0, rfl⟩
    show (if (1 : Int) = 0 then _ else _) = _
    rw [if_neg one0]
    refine zloopQ (L := fun f a i => q_X8_loadOf_L18 (B + 541) a1 (fun x _ h15 => some (x, h15)) f a i h2) (kf := fun a => some (a, h2)) _ (fun i (a : Int) => 0 ≤ a ∧ a ≤ 2200 * (i : Int)) (by omega) ⟨by omega, by omega⟩ (fun a i hi ha => sLd_s w a i hi ha) (fun f a i hi ha => ?_) (fun f a ha => ?_)
    · have hi7 : (i : Int) < vw h.1 (B + 1) 0 7 := by omega
      have h1 := (w.2.2.2.2.2.2.2.2 i hi7).2.2.2.2.1
      have ex : zw (a + vw h.1 (B + 1) (25 + i) 3) = a + vw h.1 (B + 1) (25 + i) 3 := zw_id ⟨by omega, by omega⟩
      have e0 : zw (a + 0) = a := zw_0 ⟨by omega, by omega⟩
      show q_X8_loadOf_L18 (B + 541) a1 _ (f + 1) a (i : Int) h2 = _
      rw [q_X8_loadOf_L18]
      simp only [zlet_b]
      rw [m_n7 hm, if_neg (by omega), m_act hm hi7, zbp_some, e0, zw_s (by omega)]
      by_cases h5 : vw h.1 (B + 1) (25 + i) 5 = 1
      · rw [if_pos h5, if_neg one0, m_0 hm hi7, zbp_some]
        by_cases hq : vw h.1 (B + 1) (25 + i) 0 = a1
        · rw [if_pos hq, if_pos ⟨h5, hq⟩, m_burst hm hi7, zbp_some, ex]
        · rw [if_neg hq, if_neg (fun q => hq q.2)]
      · rw [if_neg h5, if_pos rfl, if_neg (fun q => h5 q.1)]
    · show q_X8_loadOf_L18 (B + 541) a1 _ (f + 1) a (nCl (vw h.1 (B + 1)) : Int) h2 = _
      rw [q_X8_loadOf_L18, m_n7 hm, if_pos (Int.le_refl _)]
/-- the least end -/
def sEnd (v : Nat → Nat → Int) : Int := zit (fun (a : Int) k => if v (25 + k) 5 = 1 ∧ (a = -1 ∨ v (25 + k) 9 + v (25 + k) 4 < a) then v (25 + k) 9 + v (25 + k) 4 else a) (nCl v) (-1)
theorem op_32 : zI_32 (zInv B) B (B + 541) (B + 552) := by
  intro h hI hG
  have hcv := hI.cv
  have hn := hcv.2.nC
  have w := hcv.2
  have s1 : zSame B h (zput h (B + 541) 0 0) := zSame.rf.put sM0
  have hm := hI.mv.same s1
  refine ⟨zput h (B + 541) 0 0, ⟨sEnd (vw h.1 (B + 1)), ?_, ?_⟩, hI.same s1⟩
  · unfold q_X7_nextEnd
    refine zloopS (L := fun f a i => q_X7_nextEnd_L4 h B (fun x _ => some x) f a i) (kf := fun a => some a) _ (by omega) (fun f a i hi => ?_) (fun f a => ?_)
    · have hi16 : i < 16 := by omega
      have h4 := (w.2.2.2.2.2.2.2.2 i (by omega)).2.2.2.2.2.1
      have h9 := (w.2.2.2.2.2.2.2.2 i (by omega)).2.2.2.2.2.2.2.2.1
      have hf := w.1
      have ee : q_X0_endFrame h (B + 1 + (25 + i)) = some (vw h.1 (B + 1) (25 + i) 9 + vw h.1 (B + 1) (25 + i) 4) := by
        unfold q_X0_endFrame
        rw [a_c hi16, a_c hi16, zw_id ⟨by omega, by omega⟩]
      show q_X7_nextEnd_L4 h B _ (f + 1) a (i : Int) = _
      rw [q_X7_nextEnd_L4]
      simp only [zlet_b]
      rw [hI.r0, a_n7 hcv, if_neg (by omega), zgi_pos (by omega) (by omega), Int.toNat_natCast, a_call hcv, ee, a_c hi16, zw_s (by omega)]
      simp only [zbp_some]
      by_cases h5 : vw h.1 (B + 1) (25 + i) 5 = 1
      · rw [if_pos h5]
        by_cases ha : a = -1
        · rw [if_pos ha, if_pos ⟨h5, Or.inl ha⟩]
        · rw [if_neg ha]
          by_cases hq : a ≤ vw h.1 (B + 1) (25 + i) 9 + vw h.1 (B + 1) (25 + i) 4
          · rw [if_pos hq, if_neg (fun q => q.2.elim ha (fun z => by omega))]
          · rw [if_neg hq, if_pos ⟨h5, Or.inr (by omega)⟩]
      · rw [if_neg h5, if_neg (fun q => h5 q.1)]
    · show q_X7_nextEnd_L4 h B _ (f + 1) a (nCl (vw h.1 (B + 1)) : Int) = _
      rw [q_X7_nextEnd_L4, hI.r0, a_n7 hcv, if_pos (Int.le_refl _)]
  · unfold q_X8_nextEnd
    simp only [zlet_b]
    refine zloopS (L := fun f a i => q_X8_nextEnd_L9 (B + 541) (fun x _ h12 => some (x, h12)) f a i (zput h (B + 541) 0 0)) (kf := fun a => some (a, zput h (B + 541) 0 0)) _ (by omega) (fun f a i hi => ?_) (fun f a => ?_)
    · have hi7 : (i : Int) < vw h.1 (B + 1) 0 7 := by omega
      show q_X8_nextEnd_L9 (B + 541) _ (f + 1) a (i : Int) _ = _
      rw [q_X8_nextEnd_L9]
      simp only [zlet_b]
      rw [m_n7 hm, if_neg (by omega), m_act hm hi7, zbp_some, zw_s (by omega)]
      by_cases h5 : vw h.1 (B + 1) (25 + i) 5 = 1
      · rw [if_pos h5, if_neg one0, m_8 hm hi7 h5]
        simp only [zbp_some]
        by_cases ha : a = -1
        · rw [if_pos ha, if_pos ⟨h5, Or.inl ha⟩]
        · rw [if_neg ha]
          by_cases hq : a ≤ vw h.1 (B + 1) (25 + i) 9 + vw h.1 (B + 1) (25 + i) 4
          · rw [if_pos hq, if_neg (fun q => q.2.elim ha (fun z => by omega))]
          · rw [if_neg hq, if_pos ⟨h5, Or.inr (by omega)⟩]
      · rw [if_neg h5, if_pos rfl, if_neg (fun q => h5 q.1)]
    · show q_X8_nextEnd_L9 (B + 541) _ (f + 1) a (nCl (vw h.1 (B + 1)) : Int) _ = _
      rw [q_X8_nextEnd_L9, m_n7 hm, if_pos (Int.le_refl _)]
end OPS
