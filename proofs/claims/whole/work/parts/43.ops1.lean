/-! The looks, one by one. -/
theorem zbd_eta {α : Type} {E : Option (α × zH)} : zbd E (fun x h => some (x, h)) = E := by
  cases E with
  | none => rfl
  | some q => rfl
theorem zbp_eta {α : Type} {E : Option α} : zbp E (fun x => some x) = E := by
  cases E with
  | none => rfl
  | some q => rfl
section OPS
variable {B : Nat}
theorem n16 {h : zH} (hI : zInv B h) {n : Nat} (hn : (n : Int) < vw h.1 (B + 1) 0 7) : n < 16 := by have := hI.wf.2.2.2.2.1.2; omega
theorem n6 {h : zH} (hI : zInv B h) {n : Nat} (hn : (n : Int) < vw h.1 (B + 1) 0 3) : n < 6 := by have := hI.wf.2.2.1.2; omega
theorem wfc {h : zH} (hI : zInv B h) {n : Nat} (hn : (n : Int) < vw h.1 (B + 1) 0 7) : WFc (vw h.1 (B + 1)) n := hI.wf.2.2.2.2.2.2.2.2 n hn
theorem wfs {h : zH} (hI : zInv B h) {n : Nat} (hn : (n : Int) < vw h.1 (B + 1) 0 3) : WFs (vw h.1 (B + 1)) n := hI.wf.2.2.2.2.2.2.1 n hn

theorem op_15 : zI_15 (zInv B) B (B + 541) (B + 552) := by
  intro h hI hG a1 r1
  exact lk_call hI (q7 := q_X7_stateOf h B a1) (q8 := fun h' => q_X8_stateOf h' (B + 541) a1) (fun n => vw h.1 (B + 1) (25 + n) 5) (fun _ => rfl) (fun _ _ => rfl)
    (fun n hx hn => by
      subst hx
      unfold q_X7_stateOf
      rw [e7_call hI hn, zbp_some, vcl (n16 hI hn)])
    (fun n h' h2 hx hn hs hm h0 => by
      subst hx
      refine ⟨h2, ?_, zSame.rf, h0, rfl⟩
      show (if (1 : Int) = 0 then _ else _) = _
      rw [if_neg (by decide), m_5 hm hn, zbp_some])
theorem op_16 : zI_16 (zInv B) B (B + 541) (B + 552) := by
  intro h hI hG a1 r1
  exact lk_call hI (q7 := q_X7_senderOf h B a1) (q8 := fun h' => q_X8_senderOf h' (B + 541) a1) (fun n => vw h.1 (B + 1) (25 + n) 0) (fun _ => rfl) (fun _ _ => rfl)
    (fun n hx hn => by
      subst hx
      unfold q_X7_senderOf
      rw [e7_call hI hn, zbp_some, vcl (n16 hI hn)])
    (fun n h' h2 hx hn hs hm h0 => by
      subst hx
      refine ⟨h2, ?_, zSame.rf, h0, rfl⟩
      show (if (1 : Int) = 0 then _ else _) = _
      rw [if_neg (by decide), m_0 hm hn, zbp_some])
theorem op_17 : zI_17 (zInv B) B (B + 541) (B + 552) := by
  intro h hI hG a1 r1
  exact lk_call hI (q7 := q_X7_receiverOf h B a1) (q8 := fun h' => q_X8_receiverOf h' (B + 541) a1) (fun n => vw h.1 (B + 1) (25 + n) 1) (fun _ => rfl) (fun _ _ => rfl)
    (fun n hx hn => by
      subst hx
      unfold q_X7_receiverOf
      rw [e7_call hI hn, zbp_some, vcl (n16 hI hn)])
    (fun n h' h2 hx hn hs hm h0 => by
      subst hx
      refine ⟨h2, ?_, zSame.rf, h0, rfl⟩
      show (if (1 : Int) = 0 then _ else _) = _
      rw [if_neg (by decide), m_1 hm hn, zbp_some])
theorem op_20 : zI_20 (zInv B) B (B + 541) (B + 552) := by
  intro h hI hG a1 r1
  exact lk_call hI (q7 := q_X7_burstOf h B a1) (q8 := fun h' => q_X8_burstOf h' (B + 541) a1) (fun n => vw h.1 (B + 1) (25 + n) 3) (fun _ => rfl) (fun _ _ => rfl)
    (fun n hx hn => by
      subst hx
      unfold q_X7_burstOf
      rw [e7_call hI hn, zbp_some, vcl (n16 hI hn)])
    (fun n h' h2 hx hn hs hm h0 => by
      subst hx
      refine ⟨h2, ?_, zSame.rf, h0, rfl⟩
      show (if (1 : Int) = 0 then _ else _) = _
      rw [if_neg (by decide), m_burst hm hn, zbp_some])
theorem op_25 : zI_25 (zInv B) B (B + 541) (B + 552) := by
  intro h hI hG a1 r1
  exact lk_call hI (q7 := q_X7_degradedFrames h B a1) (q8 := fun h' => q_X8_degradedFrames h' (B + 541) a1) (fun n => vw h.1 (B + 1) (25 + n) 10) (fun _ => rfl) (fun _ _ => rfl)
    (fun n hx hn => by
      subst hx
      unfold q_X7_degradedFrames
      rw [e7_call hI hn, zbp_some, vcl (n16 hI hn)])
    (fun n h' h2 hx hn hs hm h0 => by
      subst hx
      refine ⟨h2, ?_, zSame.rf, h0, rfl⟩
      show (if (1 : Int) = 0 then _ else _) = _
      rw [if_neg (by decide), m_11 hm hn, zbp_some])
theorem op_54 : zI_54 (zInv B) B (B + 541) (B + 552) := by
  intro h hI hG a1 r1
  exact lk_call hI (q7 := q_X7_priorityOf h B a1) (q8 := fun h' => q_X8_priorityOf h' (B + 541) a1) (fun n => vw h.1 (B + 1) (25 + n) 2) (fun _ => rfl) (fun _ _ => rfl)
    (fun n hx hn => by
      subst hx
      unfold q_X7_priorityOf
      rw [e7_call hI hn, zbp_some, vcl (n16 hI hn)])
    (fun n h' h2 hx hn hs hm h0 => by
      subst hx
      refine ⟨h2, ?_, zSame.rf, h0, rfl⟩
      show (if (1 : Int) = 0 then _ else _) = _
      rw [if_neg (by decide), m_2 hm hn, zbp_some])
theorem op_18 : zI_18 (zInv B) B (B + 541) (B + 552) := by
  intro h hI hG a1 r1
  exact lk_call hI (q7 := q_X7_carrierOf h B a1) (q8 := fun h' => q_X8_carrierOf h' (B + 541) a1) (fun n => if vw h.1 (B + 1) (25 + n) 5 = 1 then vw h.1 (B + 1) (25 + n) 6 else -1)
    (k := fun h' x2 h3 => if x2 = 0 then some (0, h3) else zbp (q_X8_isActive h3 (B + 541) a1) (fun x4 => if x4 = 0 then some (-1, h3) else zbp (q_X8_of h3 (B + 541) a1 6) (fun x5 => some (x5, h3)))) (fun h' => zbd_eta) (fun _ _ => rfl)
    (fun n hx hn => by
      subst hx
      unfold q_X7_carrierOf
      rw [e7_call hI hn, zbp_some, ← vcl (n16 hI hn)]
      by_cases ha : vw h.1 (B + 1) (25 + n) 5 = 1
      · rw [if_pos ha, if_pos ha]
        rw [vcl (n16 hI hn)]
      · rw [if_neg ha, if_neg ha])
    (fun n h' h2 hx hn hs hm h0 => by
      subst hx
      refine ⟨h2, ?_, zSame.rf, h0, rfl⟩
      show (if (1 : Int) = 0 then _ else _) = _
      rw [if_neg (by decide), m_act hm hn, zbp_some]
      by_cases ha : vw h.1 (B + 1) (25 + n) 5 = 1
      · rw [if_pos ha, if_pos ha, if_neg (by decide), m_6 hm hn ha, zbp_some]
      · rw [if_neg ha, if_neg ha, if_pos rfl])
theorem op_19 : zI_19 (zInv B) B (B + 541) (B + 552) := by
  intro h hI hG a1 r1
  exact lk_call hI (q7 := q_X7_startOf h B a1) (q8 := fun h' => q_X8_startOf h' (B + 541) a1) (fun n => if vw h.1 (B + 1) (25 + n) 5 = 1 then vw h.1 (B + 1) (25 + n) 7 else -1)
    (k := fun h' x2 h3 => if x2 = 0 then some (0, h3) else zbp (q_X8_isActive h3 (B + 541) a1) (fun x4 => if x4 = 0 then some (-1, h3) else zbp (q_X8_of h3 (B + 541) a1 7) (fun x5 => some (x5, h3)))) (fun h' => zbd_eta) (fun _ _ => rfl)
    (fun n hx hn => by
      subst hx
      unfold q_X7_startOf
      rw [e7_call hI hn, zbp_some, ← vcl (n16 hI hn)]
      by_cases ha : vw h.1 (B + 1) (25 + n) 5 = 1
      · rw [if_pos ha, if_pos ha]
        rw [vcl (n16 hI hn)]
      · rw [if_neg ha, if_neg ha])
    (fun n h' h2 hx hn hs hm h0 => by
      subst hx
      refine ⟨h2, ?_, zSame.rf, h0, rfl⟩
      show (if (1 : Int) = 0 then _ else _) = _
      rw [if_neg (by decide), m_act hm hn, zbp_some]
      by_cases ha : vw h.1 (B + 1) (25 + n) 5 = 1
      · rw [if_pos ha, if_pos ha, if_neg (by decide), m_7 hm hn ha, zbp_some]
      · rw [if_neg ha, if_neg ha, if_pos rfl])
theorem op_22 : zI_22 (zInv B) B (B + 541) (B + 552) := by
  intro h hI hG a1 r1
  exact lk_call hI (q7 := q_X7_endOf h B a1) (q8 := fun h' => q_X8_endOf h' (B + 541) a1) (fun n => if vw h.1 (B + 1) (25 + n) 5 = 1 then (vw h.1 (B + 1) (25 + n) 9 + vw h.1 (B + 1) (25 + n) 4) else -1)
    (k := fun h' x2 h3 => if x2 = 0 then some (0, h3) else zbp (q_X8_isActive h3 (B + 541) a1) (fun x4 => if x4 = 0 then some (-1, h3) else zbp (q_X8_of h3 (B + 541) a1 8) (fun x5 => some (x5, h3)))) (fun h' => zbd_eta) (fun _ _ => rfl)
    (fun n hx hn => by
      subst hx
      unfold q_X7_endOf
      rw [e7_call hI hn, zbp_some, ← vcl (n16 hI hn)]
      by_cases ha : vw h.1 (B + 1) (25 + n) 5 = 1
      · rw [if_pos ha, if_pos ha]
        have hw := wfc hI hn
        have hf := hI.wf.1
        have e9 := vcl (B := B) (h := h) (j := 9) (n16 hI hn)
        have e4 := vcl (B := B) (h := h) (j := 4) (n16 hI hn)
        unfold q_X0_endFrame
        have h9 := hw.2.2.2.2.2.2.2.2.1
        have h4 := hw.2.2.2.2.2.1
        rw [zbp_some, ← e9, ← e4, zw_id ⟨by omega, by omega⟩]
      · rw [if_neg ha, if_neg ha])
    (fun n h' h2 hx hn hs hm h0 => by
      subst hx
      refine ⟨h2, ?_, zSame.rf, h0, rfl⟩
      show (if (1 : Int) = 0 then _ else _) = _
      rw [if_neg (by decide), m_act hm hn, zbp_some]
      by_cases ha : vw h.1 (B + 1) (25 + n) 5 = 1
      · rw [if_pos ha, if_pos ha, if_neg (by decide), m_8 hm hn ha, zbp_some]
      · rw [if_neg ha, if_neg ha, if_pos rfl])
theorem op_23 : zI_23 (zInv B) B (B + 541) (B + 552) := by
  intro h hI hG a1 r1
  exact lk_call hI (q7 := q_X7_waitOf h B a1) (q8 := fun h' => q_X8_waitOf h' (B + 541) a1) (fun n => if vw h.1 (B + 1) (25 + n) 9 = -1 then (if vw h.1 (B + 1) (25 + n) 5 = 0 then zw (vw h.1 (B + 1) 0 0 - vw h.1 (B + 1) (25 + n) 8) else -1) else zw (vw h.1 (B + 1) (25 + n) 9 - vw h.1 (B + 1) (25 + n) 8)) (fun _ => rfl) (fun _ _ => rfl)
    (fun n hx hn => by
      subst hx
      have hw := wfc hI hn
      unfold q_X7_waitOf
      rw [e7_call hI hn, zbp_some, hI.r0, ← vc0, ← vcl (n16 hI hn), ← vcl (n16 hI hn), ← vcl (n16 hI hn)]
      by_cases h5 : vw h.1 (B + 1) (25 + n) 5 = 0
      · have h9 : vw h.1 (B + 1) (25 + n) 9 = -1 := hI.2.2.2.1.2.2.2 n hn h5
        rw [if_pos h5, if_pos h9, if_pos h5]
      · rw [if_neg h5]
        by_cases h9 : vw h.1 (B + 1) (25 + n) 9 = -1
        · rw [if_pos h9, if_pos h9, if_neg h5]
        · rw [if_neg h9, if_neg h9])
    (fun n h' h2 hx hn hs hm h0 => by
      subst hx
      refine ⟨h2, ?_, zSame.rf, h0, rfl⟩
      show (if (1 : Int) = 0 then _ else _) = _
      rw [if_neg (by decide), m_10 hm hn, zbp_some]
      by_cases h9 : vw h.1 (B + 1) (25 + n) 9 = -1
      · rw [if_pos h9, if_pos h9, m_5 hm hn, zbp_some]
        by_cases h5 : vw h.1 (B + 1) (25 + n) 5 = 0
        · rw [if_pos h5, if_pos h5, m_9 hm hn, zbp_some, hm.1.now, hm.2.2.1]
        · rw [if_neg h5, if_neg h5]
      · rw [if_neg h9, if_neg h9, zbp_some, m_9 hm hn, zbp_some])
theorem op_2 : zI_2 (zInv B) B (B + 541) (B + 552) := by
  intro h hI hG
  have s1 : zSame B h (zput h (B + 541) 0 0) := zSame.rf.put sM0
  have hm := hI.mv.same s1
  refine ⟨zput h (B + 541) 0 0, ⟨h.1 (B + 497) 2, ?_, ?_⟩, hI.same s1⟩
  · unfold q_X7_errorPosition
    rw [hI.r4]
  · show some (_, zput h (B + 541) 0 0) = _
    rw [zput_ne (by omega), hI.2.2.2.2.2.2]
theorem op_3 : zI_3 (zInv B) B (B + 541) (B + 552) := by
  intro h hI hG
  have s1 : zSame B h (zput h (B + 541) 0 0) := zSame.rf.put sM0
  have hm := hI.mv.same s1
  refine ⟨zput h (B + 541) 0 0, ⟨vw h.1 (B + 1) 0 3, ?_, ?_⟩, hI.same s1⟩
  · unfold q_X7_stationCount
    rw [hI.r0, vc0]
  · show some (_, zput h (B + 541) 0 0) = _
    rw [hm.1.told, hm.2.2.2.2.1]
theorem op_4 : zI_4 (zInv B) B (B + 541) (B + 552) := by
  intro h hI hG
  have s1 : zSame B h (zput h (B + 541) 0 0) := zSame.rf.put sM0
  have hm := hI.mv.same s1
  refine ⟨zput h (B + 541) 0 0, ⟨vw h.1 (B + 1) 0 7, ?_, ?_⟩, hI.same s1⟩
  · unfold q_X7_callCount
    rw [hI.r0, vc0]
  · show some (_, zput h (B + 541) 0 0) = _
    rw [hm.1.now, hm.2.2.2.2.2.2.1]
theorem op_5 : zI_5 (zInv B) B (B + 541) (B + 552) := by
  intro h hI hG
  have s1 : zSame B h (zput h (B + 541) 0 0) := zSame.rf.put sM0
  have hm := hI.mv.same s1
  refine ⟨zput h (B + 541) 0 0, ⟨vw h.1 (B + 1) 0 1, ?_, ?_⟩, hI.same s1⟩
  · unfold q_X7_carrierCount
    rw [hI.r0, vc0]
  · show some (_, zput h (B + 541) 0 0) = _
    rw [hm.1.told, hm.2.2.2.1]
theorem op_6 : zI_6 (zInv B) B (B + 541) (B + 552) := by
  intro h hI hG
  have s1 : zSame B h (zput h (B + 541) 0 0) := zSame.rf.put sM0
  have hm := hI.mv.same s1
  refine ⟨zput h (B + 541) 0 0, ⟨h.1 (B + 85) 0, ?_, ?_⟩, hI.same s1⟩
  · unfold q_X7_undoCount
    rw [hI.r3]
  · show some (_, zput h (B + 541) 0 0) = _
    rw [zput_ne (by omega), hI.2.2.1.2]
theorem op_8 : zI_8 (zInv B) B (B + 541) (B + 552) := by
  intro h hI hG
  have s1 : zSame B h (zput h (B + 541) 0 0) := zSame.rf.put sM0
  have hm := hI.mv.same s1
  refine ⟨zput h (B + 541) 0 0, ⟨vw h.1 (B + 1) 0 0, ?_, ?_⟩, hI.same s1⟩
  · unfold q_X7_now
    rw [hI.r0, vc0]
  · show some (_, zput h (B + 541) 0 0) = _
    rw [hm.1.now, hm.2.2.1]
theorem op_9 : zI_9 (zInv B) B (B + 541) (B + 552) := by
  intro h hI hG a1 r1
  have s1 : zSame B h (zput h (B + 541) 0 0) := zSame.rf.put sM0
  have hm := hI.mv.same s1
  unfold zR at r1
  refine ⟨zput h (B + 541) 0 0, ⟨if 0 ≤ a1 ∧ a1 ≤ 6 then vw h.1 (B + 1) 1 a1.toNat else -2, ?_, ?_⟩, hI.same s1⟩
  · unfold q_X7_getSetting
    by_cases hx : 0 ≤ a1 ∧ a1 ≤ 6
    · rw [e_inR hx.1 hx.2, zbp_some, if_neg (by decide), zgi_pos hx.1 (by omega), hI.r0, hI.cly.set, if_pos hx, vse]
    · rw [e_inN hx, zbp_some, if_pos rfl, if_neg hx]
  · show (if a1 < 0 then _ else _) = _
    by_cases hx : 0 ≤ a1 ∧ a1 ≤ 6
    · have e : zw (1 + a1) = ((1 + a1.toNat : Nat) : Int) := by rw [zw_id ⟨by omega, by omega⟩]; omega
      rw [if_neg (by omega), if_neg (by omega), e, zgi_pos (by omega) (by omega), Int.toNat_natCast, hm.1.now, hm.2.2.2.2.2.2.2.1 _ (by omega), if_pos hx]
    · rw [if_neg hx]
      by_cases h0 : a1 < 0
      · rw [if_pos h0]
      · rw [if_neg h0, if_pos (by omega)]
theorem op_11 : zI_11 (zInv B) B (B + 541) (B + 552) := by
  intro h hI hG a1 r1
  exact lk_station hI (q7 := q_X7_power h B a1) (q8 := fun h' => q_X8_power h' (B + 541) a1) (fun n => vw h.1 (B + 1) (5 + 2 * n) 5) (fun _ => rfl) (fun _ _ => rfl)
    (fun n hx hn => by
      subst hx
      unfold q_X7_power
      rw [e7_station hI hn, zbp_some, vst (n6 hI hn)])
    (fun n h' h2 hx hn hs hm h0 => by
      subst hx
      refine ⟨h2, ?_, zSame.rf, h0, rfl⟩
      have h6 := n6 hI hn
      have e : zw (8 + (n : Int)) = ((8 + n : Nat) : Int) := by rw [zw_id ⟨by omega, by omega⟩]; omega
      show (if (1 : Int) = 0 then _ else _) = _
      rw [if_neg (by decide), e, zgi_pos (by omega) (by omega), Int.toNat_natCast, hm.1.now, (hm.2.2.2.2.2.2.2.2.1 n hn).2.2.2.2.2.1])
theorem op_14 : zI_14 (zInv B) B (B + 541) (B + 552) := by
  intro h hI hG a1 r1
  exact lk_station hI (q7 := q_X7_timingFaults h B a1) (q8 := fun h' => q_X8_timingFaults h' (B + 541) a1) (fun n => vw h.1 (B + 1) (5 + 2 * n) 6) (fun _ => rfl) (fun _ _ => rfl)
    (fun n hx hn => by
      subst hx
      unfold q_X7_timingFaults
      rw [e7_station hI hn, zbp_some, vst (n6 hI hn)])
    (fun n h' h2 hx hn hs hm h0 => by
      subst hx
      refine ⟨h2, ?_, zSame.rf, h0, rfl⟩
      have h6 := n6 hI hn
      have e : zw (14 + (n : Int)) = ((14 + n : Nat) : Int) := by rw [zw_id ⟨by omega, by omega⟩]; omega
      show (if (1 : Int) = 0 then _ else _) = _
      rw [if_neg (by decide), e, zgi_pos (by omega) (by omega), Int.toNat_natCast, hm.1.now, (hm.2.2.2.2.2.2.2.2.1 n hn).2.2.2.2.2.2.1])
end OPS
