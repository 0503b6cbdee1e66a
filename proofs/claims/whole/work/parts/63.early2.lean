/-! The earliest start on a carrier. -/
section OPS
variable {B : Nat}
theorem lcand_e {v : Nat → Nat → Int} (w : WF v) {x : Int} : ∀ l : Nat, (l : Int) < v 0 7 → v (25 + l) 5 = 1 → ¬ (awy x l = true) → lcand v x l = v (25 + l) 7 + v (25 + l) 3 + v 1 1 := by
  intro l hl h5 ha
  have hb := w.act hl h5
  have q : v (25 + l) 5 = 1 ∧ ¬ awy x l = true := ⟨h5, ha⟩
  have e1 : layC v x l = v (25 + l) 6 := by unfold layC; rw [if_pos q]
  have e2 : layS v x l = v (25 + l) 7 := by unfold layS; rw [if_pos q]
  have e3 : ¬ v (25 + l) 6 = -1 := by omega
  unfold lcand
  rw [e1, e2, if_neg e3]
theorem e8_early {h : zH} {v : Nat → Nat → Int} (hm : MV h (B + 541) v) {k : Nat} (hk : (k : Int) < v 0 7) (c : Int) (K : Int → zH → Option (Int × zH)) : ∃ b h', LSt v (fun l => awy 0 l = true) k c b ∧ zLy B h h' ∧
    zbd (q_X8_laysBursts h (B + 541) 0) (fun _ h5 => zlet (zw (h5.1 (h5.2 (B + 541) 5) 3 + h5.1 (h5.2 (B + 541) 5) 2)) (fun x6 => zbp (q_X8_isFree h5 (B + 541) (k : Int) c x6) (fun x7 => if x7 = 0 then (q_X8_earliestStart_L80 (B + 541) (k : Int) c x6 (fun x26 _ h28 => some (x26, h28)) zF (-1) 0 h5) else (q_X8_earliestStart_L80 (B + 541) (k : Int) c x6 (fun x30 _ h32 => some (x30, h32)) zF x6 0 h5)))) = some (b, h') := by
  have w := hm.2.1
  have hn := w.nC
  have hset := w.set
  obtain ⟨h5, k1, k2, k3⟩ := e8_lays hm 0
  have hm5 := hm.same k2.same
  have m1 : h5.1 (h5.2 (B + 541) 5) 2 = v 1 1 := m_set hm5 (j := 1) (by decide)
  have m2 : h5.1 (h5.2 (B + 541) 5) 3 = v 1 2 := m_set hm5 (j := 2) (by decide)
  have ht : 0 ≤ v 1 2 + v 1 1 ∧ v 1 2 + v 1 1 ≤ 10000 := by omega
  obtain ⟨f1, f0⟩ := e8_isFree hm5 hk c ht (cr := layC v 0) (sr := layS v 0) (fun l hl => (k3 l hl).1) (fun l hl => (k3 l hl).2) (layS_b w)
  have w0 : zw (v 1 2 + v 1 1) = v 1 2 + v 1 1 := zw_id ⟨by omega, by omega⟩
  rw [k1, zbd_some]
  simp only [zlet_b]
  rw [m1, m2, w0]
  clear w0
  have hz : nCl v < zF := by unfold zF; omega
  by_cases hF : Fit v (fun l => awy 0 l = true) k c (v 1 2 + v 1 1)
  · rw [f1 ((Fit.lay w).mp hF).2, zbp_some, if_neg one0]
    obtain ⟨b, p1, p2⟩ := m_early hm5 hk c 0 k3 (nCl v) 0 zF (v 1 2 + v 1 1) (Nat.zero_add _) hz (Or.inr ⟨hF, by omega, fun _ => Int.le_refl _, fun l hl => by omega⟩)
    exact ⟨b, h5, p2.least w (lcand_e w), k2, p1⟩
  · rw [f0 (fun z => hF ((Fit.lay w).mpr ⟨Int.le_refl _, z⟩)), zbp_some, if_pos rfl]
    obtain ⟨b, p1, p2⟩ := m_early hm5 hk c 0 k3 (nCl v) 0 zF (-1) (Nat.zero_add _) hz (Or.inl ⟨rfl, hF, fun l hl => by omega⟩)
    exact ⟨b, h5, p2.least w (lcand_e w), k2, p1⟩
theorem op_45 : zI_45 (zInv B) B (B + 541) (B + 552) := by
  intro h hI hG a1 a2 r1 r2
  have hcv := hI.cv
  have hw := hcv.2
  by_cases hc1 : 0 ≤ a1 ∧ a1 < vw h.1 (B + 1) 0 7
  · obtain ⟨k, rfl⟩ : ∃ k : Nat, a1 = (k : Int) := ⟨a1.toNat, by omega⟩
    have hn := hw.nC
    have hk16 : k < 16 := by omega
    by_cases hc2 : 0 ≤ a2 ∧ a2 < vw h.1 (B + 1) 0 1
    · have good : ∃ s, q_X7_earliestStart h B (k : Int) a2 = some s ∧ ∀ h', zSame B h h' → ∃ h2, q_X8_earliestStart h' (B + 541) (k : Int) a2 = some (s, h2) ∧ zSame B h' h2 ∧ h2.1 (B + 541) 0 = 0 ∧ h2.1 (B + 552) 0 = h'.1 (B + 552) 0 := by
        have ref : ∀ h', zSame B h h' → q_X8_earliestStart h' (B + 541) (k : Int) a2 = (if vw h.1 (B + 1) (25 + k) 5 = 0 then zbd (q_X8_laysBursts (zput h' (B + 541) 0 0) (B + 541) 0) (fun _ h5 => zlet (zw (h5.1 (h5.2 (B + 541) 5) 3 + h5.1 (h5.2 (B + 541) 5) 2)) (fun x6 => zbp (q_X8_isFree h5 (B + 541) (k : Int) a2 x6) (fun x7 => if x7 = 0 then (q_X8_earliestStart_L80 (B + 541) (k : Int) a2 x6 (fun x26 _ h28 => some (x26, h28)) zF (-1) 0 h5) else (q_X8_earliestStart_L80 (B + 541) (k : Int) a2 x6 (fun x30 _ h32 => some (x30, h32)) zF x6 0 h5)))) else some (-1, zput h' (B + 541) 0 0)) := by
          intro h' hs
          have hm := hI.mv.same hs
          unfold q_X8_earliestStart
          rw [e8_isCall hm, if_pos hc1, zbp_some, if_neg one0, e8_isCarrier hm, if_pos hc2, zbp_some, if_neg one0, e8_checks (Or.inr rfl), zbd_some, if_neg one0, if_neg one0, m_5 hm.p0 hc1.2, zbp_some]
        unfold q_X7_earliestStart
        rw [e7_call hI hc1.2, zbp_some, e7_carrier hI hc2.1 hc2.2, zbp_some, a_c hk16]
        by_cases h5 : vw h.1 (B + 1) (25 + k) 5 = 0
        · obtain ⟨s, p1, p2⟩ := e4_leastStart hcv hc1.2 (by omega) a2 0
          rw [if_pos h5, hI.r0, p1, zbp_some]
          refine ⟨s, rfl, fun h' hs => ?_⟩
          have hm := (hI.mv.same hs).p0 (x := 0)
          obtain ⟨b, h2, y1, y2, y3⟩ := e8_early hm hc1.2 a2 (fun _ _ => none)
          rw [ref h' hs, if_pos h5, y3]
          have e : b = s := y1.uniq p2
          subst e
          refine ⟨h2, rfl, (zSame.rf.put sM0).tr y2.same, ?_, ?_⟩
          · rw [y2.2 _ _ (by omega) (by omega), zput_self]
          · rw [y2.2 _ _ (by omega) (by omega), zO_ne]
        · rw [if_neg h5]
          refine ⟨-1, rfl, fun h' hs => ⟨zput h' (B + 541) 0 0, ?_, zSame.rf.put sM0, zput_self, zO_ne⟩⟩
          rw [ref h' hs, if_neg h5]
      obtain ⟨s, g1, g2⟩ := good
      have s1 : zSame B h (zput h (B + 552) 0 s) := zSame.rf.put sO
      obtain ⟨h2, k1, k2, k3, k4⟩ := g2 _ s1
      exact ⟨h2, Or.inl ⟨s, g1, k1, by rw [e8_thr, k3], by rw [k4, zput_self]⟩, hI.same (s1.tr k2)⟩
    · refine ⟨zput h (B + 541) 0 1, Or.inr (Or.inr ⟨⟨_, e7_call hI hc1.2⟩, (b_carrier hI).mpr hc2, 0, ?_, by rw [e8_thr, zput_self]⟩), hI.same (zSame.rf.put sM0)⟩
      unfold q_X8_earliestStart
      rw [e8_isCall hI.mv, if_pos hc1, zbp_some, if_neg one0, e8_isCarrier hI.mv, if_neg hc2, zbp_some, if_pos rfl, e8_checks (Or.inl rfl), zbd_some, if_pos rfl, if_pos rfl]
  · refine ⟨zput h (B + 541) 0 1, Or.inr (Or.inl ⟨(b_call hI).mpr hc1, 0, ?_, by rw [e8_thr, zput_self]⟩), hI.same (zSame.rf.put sM0)⟩
    unfold q_X8_earliestStart
    rw [e8_isCall hI.mv, if_neg hc1, zbp_some, if_pos rfl, e8_checks (Or.inl rfl), zbd_some, if_pos rfl, if_pos rfl]
end OPS
