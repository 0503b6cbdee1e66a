/-! The longest burst that a carrier has room for. -/
section OPS
variable {B : Nat}
/-- where the next burst of a carrier begins -/
def sNxt (v : Nat → Nat → Int) (c t : Int) : Int := zit (fun (m : Int) l => if v (25 + l) 5 = 1 ∧ v (25 + l) 6 = c ∧ t ≤ v (25 + l) 7 then zmin m (v (25 + l) 7) else m) (nCl v) (v 1 0)
def sRoom (v : Nat → Nat → Int) (c t : Int) : Int := sNxt v c t - v 1 1 - t
theorem nxt_s {v : Nat → Nat → Int} (w : WF v) (c t : Int) : ∀ (m : Int) i, i < nCl v → (0 ≤ m ∧ m ≤ 5000) → 0 ≤ (if v (25 + i) 5 = 1 ∧ v (25 + i) 6 = c ∧ t ≤ v (25 + i) 7 then zmin m (v (25 + i) 7) else m) ∧ (if v (25 + i) 5 = 1 ∧ v (25 + i) 6 = c ∧ t ≤ v (25 + i) 7 then zmin m (v (25 + i) 7) else m) ≤ 5000 := by
  intro m i hi hm
  have hn := w.nC
  have hset := w.set
  split
  · next q =>
    have ha := w.act (k := i) (by omega) q.1
    unfold zmin
    split <;> omega
  · exact hm
theorem sNxt_b {v : Nat → Nat → Int} (w : WF v) (c t : Int) : 0 ≤ sNxt v c t ∧ sNxt v c t ≤ 5000 := by
  have hset := w.set
  refine zit_inv (fun _ (m : Int) => 0 ≤ m ∧ m ≤ 5000) (by omega) (nCl v) (fun i hi x hx => nxt_s w c t x i hi hx)
theorem e4_room {h : zH} {A : Nat} (hc : CV h A) (c : Int) {t : Int} (ht : 0 ≤ t ∧ t ≤ 10000) : q_X4_roomFrom h A c t = some (sRoom (vw h.1 A) c t) := by
  have hn := hc.2.nC
  have hset := hc.2.set
  have hb := sNxt_b hc.2 c t
  unfold q_X4_roomFrom
  simp only [zlet_b]
  rw [a_set hc 0]
  have key := zloopP (L := fun f (m : Int) i => q_X4_roomFrom_L10 h A c t (fun x7 _ => some (zw (zw (x7 - h.1 (h.2 A 2) 1) - t))) f m i) (N := nCl (vw h.1 A)) (s0 := vw h.1 A 1 0) (kf := fun m => some (zw (zw (m - vw h.1 A 1 1) - t))) (fun (m : Int) l => if vw h.1 A (25 + l) 5 = 1 ∧ vw h.1 A (25 + l) 6 = c ∧ t ≤ vw h.1 A (25 + l) 7 then zmin m (vw h.1 A (25 + l) 7) else m) (fun m => 0 ≤ m ∧ m ≤ 5000) (by omega) (by omega) (fun m i hi hm => nxt_s hc.2 c t m i hi hm) (fun f m i hi hm => ?_) (fun f m hm => ?_)
  · refine key.trans ?_
    show some (zw (zw (sNxt (vw h.1 A) c t - vw h.1 A 1 1) - t)) = some (sNxt (vw h.1 A) c t - vw h.1 A 1 1 - t)
    have w1 : zw (sNxt (vw h.1 A) c t - vw h.1 A 1 1) = sNxt (vw h.1 A) c t - vw h.1 A 1 1 := zw_id ⟨by omega, by omega⟩
    have w2 : zw (sNxt (vw h.1 A) c t - vw h.1 A 1 1 - t) = sNxt (vw h.1 A) c t - vw h.1 A 1 1 - t := by clear w1; exact zw_id ⟨by omega, by omega⟩
    rw [w1, w2]
  · have hi16 : i < 16 := by omega
    show q_X4_roomFrom_L10 h A c t _ (f + 1) m (i : Int) = _
    rw [q_X4_roomFrom_L10]
    simp only [zlet_b]
    rw [a_n7 hc, if_neg (by omega), zgpos hi16, zgpos hi16, zgpos hi16, Int.toNat_natCast, a_call hc, e4_isOn hi16, zbp_some, a_c hi16, zw_s (by omega)]
    by_cases hq : vw h.1 A (25 + i) 5 = 1 ∧ vw h.1 A (25 + i) 6 = c
    · rw [if_pos hq, if_neg one0]
      by_cases q1 : vw h.1 A (25 + i) 7 < t
      · rw [if_pos q1, if_neg (fun z => by omega)]
      · rw [if_neg q1, if_pos ⟨hq.1, hq.2, by omega⟩]
    · rw [if_neg hq, if_pos rfl, if_neg (fun z => hq ⟨z.1, z.2.1⟩)]
  · show q_X4_roomFrom_L10 h A c t _ (f + 1) m (nCl (vw h.1 A) : Int) = _
    rw [q_X4_roomFrom_L10, a_n7 hc, if_pos (Int.le_refl _), a_set hc]
theorem e8_room {h : zH} {v : Nat → Nat → Int} (hm : MV h (B + 541) v) (c : Int) {t : Int} (ht : 0 ≤ t ∧ t ≤ 10000) (hcond : ∀ l : Nat, (l : Int) < v 0 7 → v (25 + l) 5 = 1 → v (25 + l) 6 = c → (t < v (25 + l) 7 + v (25 + l) 3 + v 1 1 ↔ t ≤ v (25 + l) 7)) : q_X8_longestFrom h (B + 541) c t = some (sRoom v c t) := by
  have w := hm.2.1
  have hn := w.nC
  have hset := w.set
  have hb := sNxt_b w c t
  have m0 : h.1 (h.2 (B + 541) 5) 1 = v 1 0 := m_set hm (j := 0) (by decide)
  have m1 : h.1 (h.2 (B + 541) 5) 2 = v 1 1 := m_set hm (j := 1) (by decide)
  unfold q_X8_longestFrom
  simp only [zlet_b]
  rw [m0]
  have key := zloopP (L := fun f (m : Int) i => q_X8_longestFrom_L10 h (B + 541) c t (fun x7 _ => some (zw (zw (x7 - h.1 (h.2 (B + 541) 5) 2) - t))) f m i) (N := nCl v) (s0 := v 1 0) (kf := fun m => some (zw (zw (m - v 1 1) - t))) (fun (m : Int) l => if v (25 + l) 5 = 1 ∧ v (25 + l) 6 = c ∧ t ≤ v (25 + l) 7 then zmin m (v (25 + l) 7) else m) (fun m => 0 ≤ m ∧ m ≤ 5000) (by omega) (by omega) (fun m i hi hm => nxt_s w c t m i hi hm) (fun f m i hi hmm => ?_) (fun f m hmm => ?_)
  · refine key.trans ?_
    show some (zw (zw (sNxt v c t - v 1 1) - t)) = some (sNxt v c t - v 1 1 - t)
    have w1 : zw (sNxt v c t - v 1 1) = sNxt v c t - v 1 1 := zw_id ⟨by omega, by omega⟩
    have w2 : zw (sNxt v c t - v 1 1 - t) = sNxt v c t - v 1 1 - t := by clear w1; exact zw_id ⟨by omega, by omega⟩
    rw [w1, w2]
  · have hi7 : (i : Int) < v 0 7 := by omega
    have hi6 : i < 1000000 := by omega
    show q_X8_longestFrom_L10 h (B + 541) c t _ (f + 1) m (i : Int) = _
    rw [q_X8_longestFrom_L10]
    simp only [zlet_b]
    rw [m_n7 hm, if_neg (by omega), m_act hm hi7, zbp_some, zw_s hi6]
    by_cases h5 : v (25 + i) 5 = 1
    · rw [if_pos h5, if_neg one0, m_6 hm hi7 h5, zbp_some]
      by_cases h6 : v (25 + i) 6 = c
      · have ha := w.act hi7 h5
        have hbu := (w.2.2.2.2.2.2.2.2 i hi7).2.2.2.2.1
        have w1 : zw (v (25 + i) 7 + v (25 + i) 3) = v (25 + i) 7 + v (25 + i) 3 := zw_id ⟨by omega, by omega⟩
        have w2 : zw (v (25 + i) 7 + v (25 + i) 3 + v 1 1) = v (25 + i) 7 + v (25 + i) 3 + v 1 1 := by clear w1; exact zw_id ⟨by omega, by omega⟩
        have hcd := hcond i hi7 h5 h6
        rw [if_pos h6, m_7 hm hi7 h5, zbp_some, m_burst hm hi7, zbp_some, m1, w1, w2, zbp_some]
        clear w1 w2
        by_cases q1 : t ≤ v (25 + i) 7
        · rw [if_pos (hcd.mpr q1), if_pos ⟨h5, h6, q1⟩]
        · rw [if_neg (fun z => q1 (hcd.mp z)), if_neg (fun z => q1 z.2.2)]
      · rw [if_neg h6, if_neg (fun z => h6 z.2.1)]
    · rw [if_neg h5, if_pos rfl, if_neg (fun z => h5 z.1)]
  · show q_X8_longestFrom_L10 h (B + 541) c t _ (f + 1) m (nCl v : Int) = _
    rw [q_X8_longestFrom_L10, m_n7 hm, if_pos (Int.le_refl _), m1]
def sLong (v : Nat → Nat → Int) (c : Int) : Int := zit (fun (m : Int) k => if v (25 + k) 5 = 1 ∧ v (25 + k) 6 = c then zmax m (sRoom v c (v (25 + k) 7 + v (25 + k) 3 + v 1 1)) else m) (nCl v) (zmax 0 (sRoom v c (v 1 2 + v 1 1)))
theorem op_31 : zI_31 (zInv B) B (B + 541) (B + 552) := by
  intro h hI hG a1 r1
  have hcv := hI.cv
  have hw := hcv.2
  have hn := hw.nC
  have hset := hw.set
  have hGI : GI (vw h.1 (B + 1)) := hI.2.2.2.1.2
  refine lk_carrier hI (q7 := q_X7_longestFit h B a1) (q8 := fun h' => q_X8_longestFit h' (B + 541) a1) (fun n => sLong (vw h.1 (B + 1)) (n : Int)) (fun _ => rfl) (fun _ _ => rfl) (fun n hx hn' => ?_) (fun n h' h2 hx hn' hs hm h0 => ?_)
  · subst hx
    unfold q_X7_longestFit
    rw [e7_carrier hI (by omega) hn', zbp_some, hI.r0]
    have e1 : q_X4_firstStart h (B + 1) = some (vw h.1 (B + 1) 1 2 + vw h.1 (B + 1) 1 1) := by
      unfold q_X4_firstStart
      rw [a_set hcv, a_set hcv, zw_id ⟨by omega, by omega⟩]
    unfold q_X4_widestRoom
    simp only [zlet_b]
    rw [e1, zbp_some, e4_room hcv (n : Int) (by omega), zbp_some, zbp_eta]
    refine zloopS (N := nCl (vw h.1 (B + 1))) (s0 := zmax 0 (sRoom (vw h.1 (B + 1)) (n : Int) (vw h.1 (B + 1) 1 2 + vw h.1 (B + 1) 1 1))) (L := fun f (m : Int) i => q_X4_widestRoom_L16 h (B + 1) (n : Int) (fun x _ => some x) f m i) (kf := fun m => some m) (fun (m : Int) k => if vw h.1 (B + 1) (25 + k) 5 = 1 ∧ vw h.1 (B + 1) (25 + k) 6 = (n : Int) then zmax m (sRoom (vw h.1 (B + 1)) (n : Int) (vw h.1 (B + 1) (25 + k) 7 + vw h.1 (B + 1) (25 + k) 3 + vw h.1 (B + 1) 1 1)) else m) (by omega) (fun f m i hi => ?_) (fun f m => ?_)
    · have hi16 : i < 16 := by omega
      have hi6 : i < 1000000 := by omega
      show q_X4_widestRoom_L16 h (B + 1) (n : Int) _ (f + 1) m (i : Int) = _
      rw [q_X4_widestRoom_L16]
      simp only [zlet_b]
      unfold q_X4_freeBehind
      rw [a_n7 hcv, if_neg (by omega), zgpos hi16, zgpos hi16, Int.toNat_natCast, a_call hcv, e4_isOn hi16, zbp_some, zbp_some, a_c hi16, a_c hi16, a_set hcv, zw_s hi6]
      by_cases hq : vw h.1 (B + 1) (25 + i) 5 = 1 ∧ vw h.1 (B + 1) (25 + i) 6 = (n : Int)
      · have ha := hw.act (by omega) hq.1
        have hbu := (hw.2.2.2.2.2.2.2.2 i (by omega)).2.2.2.2.1
        have w1 : zw (vw h.1 (B + 1) (25 + i) 7 + vw h.1 (B + 1) (25 + i) 3) = vw h.1 (B + 1) (25 + i) 7 + vw h.1 (B + 1) (25 + i) 3 := zw_id ⟨by omega, by omega⟩
        have w2 : zw (vw h.1 (B + 1) (25 + i) 7 + vw h.1 (B + 1) (25 + i) 3 + vw h.1 (B + 1) 1 1) = vw h.1 (B + 1) (25 + i) 7 + vw h.1 (B + 1) (25 + i) 3 + vw h.1 (B + 1) 1 1 := by clear w1; exact zw_id ⟨by omega, by omega⟩
        rw [if_pos hq, if_neg one0, if_pos hq, w1, w2]
        clear w1 w2
        rw [e4_room hcv (n : Int) (by omega), zbp_some]
      · rw [if_neg hq, if_pos rfl, if_neg hq]
    · show q_X4_widestRoom_L16 h (B + 1) (n : Int) _ (f + 1) m (nCl (vw h.1 (B + 1)) : Int) = _
      rw [q_X4_widestRoom_L16, a_n7 hcv, if_pos (Int.le_refl _)]
  · subst hx
    refine ⟨h2, ?_, zSame.rf, h0, rfl⟩
    show (if (1 : Int) = 0 then _ else _) = _
    have m1 : h2.1 (h2.2 (B + 541) 5) 2 = vw h.1 (B + 1) 1 1 := m_set hm (j := 1) (by decide)
    have m2 : h2.1 (h2.2 (B + 541) 5) 3 = vw h.1 (B + 1) 1 2 := m_set hm (j := 2) (by decide)
    simp only [zlet_b]
    rw [if_neg one0, m1, m2]
    generalize vw h.1 (B + 1) = v at hn hw hset hGI hm hn' m1 m2
    have w0 : zw (v 1 2 + v 1 1) = v 1 2 + v 1 1 := zw_id ⟨by omega, by omega⟩
    rw [w0]
    clear w0
    have c0 : ∀ l : Nat, (l : Int) < v 0 7 → v (25 + l) 5 = 1 → v (25 + l) 6 = (n : Int) → (v 1 2 + v 1 1 < v (25 + l) 7 + v (25 + l) 3 + v 1 1 ↔ v 1 2 + v 1 1 ≤ v (25 + l) 7) := fun l hl h5 h6 => by
      have ha := hw.act hl h5
      have hbu := (hw.2.2.2.2.2.2.2.2 l hl).2.2.2.2.1
      constructor <;> intro _ <;> omega
    rw [e8_room hm (n : Int) (by omega) c0, zbp_some]
    refine zloopS (N := nCl v) (s0 := zmax 0 (sRoom v (n : Int) (v 1 2 + v 1 1))) (L := fun f (m : Int) i => q_X8_longestFit_L39 (B + 541) (n : Int) (fun x _ h17 => some (x, h17)) f m i h2) (kf := fun m => some (m, h2)) (fun (m : Int) k => if v (25 + k) 5 = 1 ∧ v (25 + k) 6 = (n : Int) then zmax m (sRoom v (n : Int) (v (25 + k) 7 + v (25 + k) 3 + v 1 1)) else m) (by omega) (fun f m i hi => ?_) (fun f m => ?_)
    · have hi7 : (i : Int) < v 0 7 := by omega
      have hi6 : i < 1000000 := by omega
      show q_X8_longestFit_L39 (B + 541) (n : Int) _ (f + 1) m (i : Int) h2 = _
      rw [q_X8_longestFit_L39]
      simp only [zlet_b]
      rw [m_n7 hm, if_neg (by omega), m_act hm hi7, zbp_some, zw_s hi6]
      by_cases h5 : v (25 + i) 5 = 1
      · rw [if_pos h5, if_neg one0, m_6 hm hi7 h5, zbp_some]
        by_cases h6 : v (25 + i) 6 = (n : Int)
        · have ha := hw.act hi7 h5
          have hbu := (hw.2.2.2.2.2.2.2.2 i hi7).2.2.2.2.1
          have w1 : zw (v (25 + i) 7 + v (25 + i) 3) = v (25 + i) 7 + v (25 + i) 3 := zw_id ⟨by omega, by omega⟩
          have w2 : zw (v (25 + i) 7 + v (25 + i) 3 + v 1 1) = v (25 + i) 7 + v (25 + i) 3 + v 1 1 := by clear w1; exact zw_id ⟨by omega, by omega⟩
          rw [if_pos h6, m_7 hm hi7 h5, zbp_some, m_burst hm hi7, zbp_some, m1, w1, w2, if_pos ⟨h5, h6⟩]
          clear w1 w2
          have c1 : ∀ l : Nat, (l : Int) < v 0 7 → v (25 + l) 5 = 1 → v (25 + l) 6 = (n : Int) → (v (25 + i) 7 + v (25 + i) 3 + v 1 1 < v (25 + l) 7 + v (25 + l) 3 + v 1 1 ↔ v (25 + i) 7 + v (25 + i) 3 + v 1 1 ≤ v (25 + l) 7) := fun l hl g5 g6 => by
            have hb := hw.act hl g5
            have hbl := (hw.2.2.2.2.2.2.2.2 l hl).2.2.2.2.1
            by_cases e : i = l
            · subst e
              constructor <;> intro _ <;> omega
            · have hg := hGI.1 i l hi7 hl e h5 g5 (Or.inl (g6.trans h6.symm))
              constructor <;> intro _ <;> omega
          rw [e8_room hm (n : Int) (by omega) c1, zbp_some]
        · rw [if_neg h6, if_neg (fun z => h6 z.2)]
      · rw [if_neg h5, if_pos rfl, if_neg (fun z => h5 z.1)]
    · show q_X8_longestFit_L39 (B + 541) (n : Int) _ (f + 1) m (nCl v : Int) h2 = _
      rw [q_X8_longestFit_L39, m_n7 hm, if_pos (Int.le_refl _)]
end OPS
