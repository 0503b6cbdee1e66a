/-! What each question answers, of the class alone (out of whole's looks, by wip/p58/mk84.py). -/
section LK58
variable {B : Nat} {h : zH}
theorem x_state (hI : zInv B h) {n : Nat} (hn : (n : Int) < vw h.1 (B + 1) 0 7) : q_X7_stateOf h B (n : Int) = some (vw h.1 (B + 1) (25 + n) 5) := by
  unfold q_X7_stateOf
  rw [e7_call hI hn, zbp_some, vcl (n16 hI hn)]
theorem x_sender (hI : zInv B h) {n : Nat} (hn : (n : Int) < vw h.1 (B + 1) 0 7) : q_X7_senderOf h B (n : Int) = some (vw h.1 (B + 1) (25 + n) 0) := by
  unfold q_X7_senderOf
  rw [e7_call hI hn, zbp_some, vcl (n16 hI hn)]
theorem x_recv (hI : zInv B h) {n : Nat} (hn : (n : Int) < vw h.1 (B + 1) 0 7) : q_X7_receiverOf h B (n : Int) = some (vw h.1 (B + 1) (25 + n) 1) := by
  unfold q_X7_receiverOf
  rw [e7_call hI hn, zbp_some, vcl (n16 hI hn)]
theorem x_burst (hI : zInv B h) {n : Nat} (hn : (n : Int) < vw h.1 (B + 1) 0 7) : q_X7_burstOf h B (n : Int) = some (vw h.1 (B + 1) (25 + n) 3) := by
  unfold q_X7_burstOf
  rw [e7_call hI hn, zbp_some, vcl (n16 hI hn)]
theorem x_prio (hI : zInv B h) {n : Nat} (hn : (n : Int) < vw h.1 (B + 1) 0 7) : q_X7_priorityOf h B (n : Int) = some (vw h.1 (B + 1) (25 + n) 2) := by
  unfold q_X7_priorityOf
  rw [e7_call hI hn, zbp_some, vcl (n16 hI hn)]
theorem x_carr (hI : zInv B h) {n : Nat} (hn : (n : Int) < vw h.1 (B + 1) 0 7) : q_X7_carrierOf h B (n : Int) = some (if vw h.1 (B + 1) (25 + n) 5 = 1 then vw h.1 (B + 1) (25 + n) 6 else -1) := by
  unfold q_X7_carrierOf
  rw [e7_call hI hn, zbp_some, ← vcl (n16 hI hn)]
  by_cases ha : vw h.1 (B + 1) (25 + n) 5 = 1
  · rw [if_pos ha, if_pos ha]
    rw [vcl (n16 hI hn)]
  · rw [if_neg ha, if_neg ha]
theorem x_start (hI : zInv B h) {n : Nat} (hn : (n : Int) < vw h.1 (B + 1) 0 7) : q_X7_startOf h B (n : Int) = some (if vw h.1 (B + 1) (25 + n) 5 = 1 then vw h.1 (B + 1) (25 + n) 7 else -1) := by
  unfold q_X7_startOf
  rw [e7_call hI hn, zbp_some, ← vcl (n16 hI hn)]
  by_cases ha : vw h.1 (B + 1) (25 + n) 5 = 1
  · rw [if_pos ha, if_pos ha]
    rw [vcl (n16 hI hn)]
  · rw [if_neg ha, if_neg ha]
theorem x_end (hI : zInv B h) {n : Nat} (hn : (n : Int) < vw h.1 (B + 1) 0 7) : q_X7_endOf h B (n : Int) = some (if vw h.1 (B + 1) (25 + n) 5 = 1 then (vw h.1 (B + 1) (25 + n) 9 + vw h.1 (B + 1) (25 + n) 4) else -1) := by
  unfold q_X7_endOf
  rw [e7_call hI hn, zbp_some, ← vcl (n16 hI hn)]
  by_cases ha : vw h.1 (B + 1) (25 + n) 5 = 1
  · rw [if_pos ha, if_pos ha]
    have hw := wfc hI hn
    have hf := hI.wf.1
    have e9 := vcl (B := B) (h := h) (j := 9) (n16 hI hn)
    have e4 := vcl (B := B) (h := h) (j := 4) (n16 hI hn)
    unfold q_X0_endFrame
    have h9 := hw.2.2.2.2.2.2.2.2.1
    have h4 := hw.2.2.2.2.2.1
    rw [zbp_some, ← e9, ← e4, zw_id ⟨by omega, by omega⟩]
  · rw [if_neg ha, if_neg ha]
theorem x_fade (hI : zInv B h) {n : Nat} (hn : (n : Int) < vw h.1 (B + 1) 0 3) (a2 : Int) : q_X7_fade h B (n : Int) a2 = some (if 0 ≤ a2 ∧ a2 ≤ 9999 then sFade (vw h.1 (B + 1)) (n : Int) a2 else -2) := by
  have e := e7_station hI hn
  unfold q_X7_fade
  rw [e, zbp_some, hI.r0]
  by_cases hf : 0 ≤ a2 ∧ a2 ≤ 9999
  · rw [e_inR hf.1 hf.2, zbp_some, if_neg (by decide), e4_fade hI.cv, zbp_some, if_pos hf]
  · rw [e_inN hf, zbp_some, if_pos rfl, if_neg hf]
theorem x_count (hI : zInv B h) : q_X7_callCount h B = some (vw h.1 (B + 1) 0 7) := by
  unfold q_X7_callCount
  rw [hI.r0, vc0]
theorem x_stations (hI : zInv B h) : q_X7_stationCount h B = some (vw h.1 (B + 1) 0 3) := by
  unfold q_X7_stationCount
  rw [hI.r0, vc0]
theorem x_carriers (hI : zInv B h) : q_X7_carrierCount h B = some (vw h.1 (B + 1) 0 1) := by
  unfold q_X7_carrierCount
  rw [hI.r0, vc0]
theorem x_now (hI : zInv B h) : q_X7_now h B = some (vw h.1 (B + 1) 0 0) := by
  unfold q_X7_now
  rw [hI.r0, vc0]
theorem x_set (hI : zInv B h) {j : Nat} (hj : j ≤ 6) : q_X7_getSetting h B (j : Int) = some (vw h.1 (B + 1) 1 j) := by
  unfold q_X7_getSetting
  rw [e_inR (by omega) (by omega), zbp_some, if_neg (by decide), zgi_pos (by omega) (by omega), hI.r0, hI.cly.set, Int.toNat_natCast, vse]
theorem x_callsOn (hI : zInv B h) {n : Nat} (hn' : (n : Int) < vw h.1 (B + 1) 0 1) : q_X7_callsOn h B (n : Int) = some (sOn (vw h.1 (B + 1)) (n : Int) (fun _ => 1)) := by
  have hn0 := hn'
  have hc := hI.cv
  have hn := hc.2.nC
  generalize hv : vw h.1 (B + 1) = v at hc hn hn' ⊢
  have w : WF v := by rw [← hv]; exact hI.wf
  have hg : ∀ k : Nat, (k : Int) < v 0 7 → 0 ≤ (1 : Int) ∧ (1 : Int) ≤ 1 := fun k hk => by omega
  have hstep := fun c => sOn_s (v := v) w (c := c) (g := fun k => 1) (m := 1) hg (by decide)
  have hcv := hI.cv
  unfold q_X7_callsOn
  rw [e7_carrier hI (by omega) hn0, zbp_some]
  refine zloopQ (L := fun f a i => q_X7_callsOn_L9 h B (n : Int) (fun x _ => some x) f a i) _ (fun i (a : Int) => 0 ≤ a ∧ a ≤ 1 * (i : Int)) (by omega) ⟨by omega, by omega⟩ (fun a i hi ha => hstep (n : Int) a i hi ha) (fun f a i hi ha => ?_) (fun f a ha => ?_)
  · have hi16 : i < 16 := by omega
    have hb := sm_le (by decide) (by omega) ha.2
    have h1 := hg i (by omega)
    have ex : zw (a + 1) = a + 1 := zw_id ⟨by omega, by omega⟩
    have e7 := a_n7 hcv
    rw [hv] at e7
    show q_X7_callsOn_L9 h B (n : Int) _ (f + 1) a (i : Int) = _
    rw [q_X7_callsOn_L9]
    simp only [zlet_b]
    rw [hI.r0, e7, if_neg (by omega), zgi_pos (by omega) (by omega), Int.toNat_natCast, a_call hcv, e4_isOn hi16, zbp_some, zw_s (by omega), hv]
    by_cases hq : v (25 + i) 5 = 1 ∧ v (25 + i) 6 = (n : Int)
    · rw [if_pos hq, if_neg one0, if_pos hq, ex]
    · rw [if_neg hq, if_pos rfl, if_neg hq]
  · have e7 := a_n7 hcv
    rw [hv] at e7
    show q_X7_callsOn_L9 h B (n : Int) _ (f + 1) a (nCl v : Int) = _
    rw [q_X7_callsOn_L9, hI.r0, e7, if_pos (Int.le_refl _)]
theorem x_used (hI : zInv B h) {n : Nat} (hn' : (n : Int) < vw h.1 (B + 1) 0 1) : q_X7_usedSymbols h B (n : Int) = some (sOn (vw h.1 (B + 1)) (n : Int) (fun k => vw h.1 (B + 1) (25 + k) 3)) := by
  have hn0 := hn'
  have hc := hI.cv
  have hn := hc.2.nC
  generalize hv : vw h.1 (B + 1) = v at hc hn hn' ⊢
  have w : WF v := by rw [← hv]; exact hI.wf
  have hg : ∀ k : Nat, (k : Int) < v 0 7 → 0 ≤ (v (25 + k) 3 : Int) ∧ (v (25 + k) 3 : Int) ≤ 2200 := fun k hk => by
    have := (w.2.2.2.2.2.2.2.2 k hk).2.2.2.2.1
    omega
  have hstep := fun c => sOn_s (v := v) w (c := c) (g := fun k => v (25 + k) 3) (m := 2200) hg (by decide)
  have hcv := hI.cv
  unfold q_X7_usedSymbols
  rw [e7_carrier hI (by omega) hn0, zbp_some]
  refine zloopQ (L := fun f a i => q_X7_usedSymbols_L9 h B (n : Int) (fun x _ => some x) f a i) _ (fun i (a : Int) => 0 ≤ a ∧ a ≤ 2200 * (i : Int)) (by omega) ⟨by omega, by omega⟩ (fun a i hi ha => hstep (n : Int) a i hi ha) (fun f a i hi ha => ?_) (fun f a ha => ?_)
  · have hi16 : i < 16 := by omega
    have hb := sm_le (by decide) (by omega) ha.2
    have h1 := hg i (by omega)
    have ex : zw (a + v (25 + i) 3) = a + v (25 + i) 3 := zw_id ⟨by omega, by omega⟩
    have e7 := a_n7 hcv
    rw [hv] at e7
    show q_X7_usedSymbols_L9 h B (n : Int) _ (f + 1) a (i : Int) = _
    rw [q_X7_usedSymbols_L9]
    simp only [zlet_b]
    rw [hI.r0, e7, if_neg (by omega), zgi_pos (by omega) (by omega), Int.toNat_natCast, a_call hcv, e4_isOn hi16, zbp_some, zw_s (by omega), hv]
    by_cases hq : v (25 + i) 5 = 1 ∧ v (25 + i) 6 = (n : Int)
    · rw [if_pos hq, if_neg one0, if_pos hq, zgi_pos (by omega) (by omega), a_c hi16, hv, ex]
    · rw [if_neg hq, if_pos rfl, if_neg hq]
  · have e7 := a_n7 hcv
    rw [hv] at e7
    show q_X7_usedSymbols_L9 h B (n : Int) _ (f + 1) a (nCl v : Int) = _
    rw [q_X7_usedSymbols_L9, hI.r0, e7, if_pos (Int.le_refl _)]
theorem x_over (hI : zInv B h) {a2 : Int} {n : Nat} (hn' : (n : Int) < vw h.1 (B + 1) 0 1) : q_X7_callOver h B (n : Int) a2 = some (sFst (fun k => decide (vw h.1 (B + 1) (25 + k) 5 = 1 ∧ vw h.1 (B + 1) (25 + k) 6 = (n : Int) ∧ vw h.1 (B + 1) (25 + k) 7 ≤ a2 ∧ a2 < vw h.1 (B + 1) (25 + k) 7 + vw h.1 (B + 1) (25 + k) 3)) (nCl (vw h.1 (B + 1)))) := by
  have hn0 := hn'
  have hcv := hI.cv
  have hn := hcv.2.nC
  have hw := hcv.2
  have hset := hw.set
  generalize hv : vw h.1 (B + 1) = v at hn hw hset hn' ⊢
  let P : Nat → Nat → Bool := fun c k => decide (v (25 + k) 5 = 1 ∧ v (25 + k) 6 = (c : Int) ∧ v (25 + k) 7 ≤ a2 ∧ a2 < v (25 + k) 7 + v (25 + k) 3)
  have hP : ∀ c k, P c k = true ↔ (v (25 + k) 5 = 1 ∧ v (25 + k) 6 = (c : Int) ∧ v (25 + k) 7 ≤ a2 ∧ a2 < v (25 + k) 7 + v (25 + k) 3) := fun c k => zdec
  show _ = some (sFst (P n) (nCl v))
  unfold q_X7_callOver
  rw [e7_carrier hI (by omega) hn0, zbp_some]
  have key := zfind0 (L := fun f i => q_X7_callOver_L7 h B (n : Int) a2 (fun _ => some (-1)) f i) (N := nCl v) (P n) (r := fun k => some (k : Int)) (kf := some (-1)) (by omega) (fun f i hi => ?_) (fun f => ?_)
  · refine key.trans ?_
    unfold sFst
    generalize zfs _ _ _ = o
    cases o <;> rfl
  · have hi16 : i < 16 := by omega
    have e7 := a_n7 hcv
    rw [hv] at e7
    show q_X7_callOver_L7 h B (n : Int) a2 _ (f + 1) (i : Int) = _
    rw [q_X7_callOver_L7]
    simp only [zlet_b]
    rw [hI.r0, e7, if_neg (by omega), zgi_pos (by omega) (by omega), Int.toNat_natCast, a_call hcv, e4_isOn hi16, zbp_some, zw_s (by omega), a_c hi16, a_c hi16, hv]
    by_cases hq : v (25 + i) 5 = 1 ∧ v (25 + i) 6 = (n : Int)
    · have ha := hw.act (by omega) hq.1
      have hb := (hw.2.2.2.2.2.2.2.2 i (by omega)).2.2.2.2.1
      rw [if_pos hq, if_neg one0, zw_id (x := v (25 + i) 7 + v (25 + i) 3) ⟨by omega, by omega⟩]
      by_cases q1 : a2 < v (25 + i) 7
      · rw [if_pos q1, if_neg (fun q => by have := (hP n i).mp q; omega)]
      · rw [if_neg q1]
        by_cases q2 : v (25 + i) 7 + v (25 + i) 3 ≤ a2
        · rw [if_pos q2, if_neg (fun q => by have := (hP n i).mp q; omega)]
        · rw [if_neg q2, if_pos ((hP n i).mpr ⟨hq.1, hq.2, by omega, by omega⟩)]
    · rw [if_neg hq, if_pos rfl, if_neg (fun q => hq ⟨((hP n i).mp q).1, ((hP n i).mp q).2.1⟩)]
  · have e7 := a_n7 hcv
    rw [hv] at e7
    show q_X7_callOver_L7 h B (n : Int) a2 _ (f + 1) (nCl v : Int) = _
    rw [q_X7_callOver_L7, hI.r0, e7, if_pos (Int.le_refl _)]
theorem x_at (hI : zInv B h) {a2 : Int} {n : Nat} (hn' : (n : Int) < vw h.1 (B + 1) 0 1) : q_X7_callAt h B (n : Int) a2 = some (sFst (fun k => decide (vw h.1 (B + 1) (25 + k) 5 = 1 ∧ vw h.1 (B + 1) (25 + k) 6 = (n : Int) ∧ ((sBef (vw h.1 (B + 1)) (n : Int) (vw h.1 (B + 1) (25 + k) 7) : Nat) : Int) = a2)) (nCl (vw h.1 (B + 1)))) := by
  have hn0 := hn'
  have hcv := hI.cv
  have hn := hcv.2.nC
  have hw := hcv.2
  have eb := fun c t => e4_before hcv c t
  generalize hv : vw h.1 (B + 1) = v at hn hw eb hn' ⊢
  let P : Nat → Nat → Bool := fun c k => decide (v (25 + k) 5 = 1 ∧ v (25 + k) 6 = (c : Int) ∧ ((sBef v (c : Int) (v (25 + k) 7) : Nat) : Int) = a2)
  have hP : ∀ c k, P c k = true ↔ (v (25 + k) 5 = 1 ∧ v (25 + k) 6 = (c : Int) ∧ ((sBef v (c : Int) (v (25 + k) 7) : Nat) : Int) = a2) := fun c k => zdec
  show _ = some (sFst (P n) (nCl v))
  unfold q_X7_callAt
  rw [e7_carrier hI (by omega) hn0, zbp_some]
  have key := zfind0 (L := fun f i => q_X7_callAt_L7 h B (n : Int) a2 (fun _ => some (-1)) f i) (N := nCl v) (P n) (r := fun k => some (k : Int)) (kf := some (-1)) (by omega) (fun f i hi => ?_) (fun f => ?_)
  · refine key.trans ?_
    unfold sFst
    generalize zfs _ _ _ = o
    cases o <;> rfl
  · have hi16 : i < 16 := by omega
    have e7 := a_n7 hcv
    rw [hv] at e7
    show q_X7_callAt_L7 h B (n : Int) a2 _ (f + 1) (i : Int) = _
    rw [q_X7_callAt_L7]
    simp only [zlet_b]
    rw [hI.r0, e7, if_neg (by omega), zgi_pos (by omega) (by omega), Int.toNat_natCast, a_call hcv, e4_isOn hi16, zbp_some, zw_s (by omega), zgi_pos (by omega) (by omega), a_c hi16, eb, zbp_some, hv]
    by_cases hq : v (25 + i) 5 = 1 ∧ v (25 + i) 6 = (n : Int)
    · rw [if_pos hq, if_neg one0]
      by_cases q1 : ((sBef v (n : Int) (v (25 + i) 7) : Nat) : Int) = a2
      · rw [if_pos q1, if_pos ((hP n i).mpr ⟨hq.1, hq.2, q1⟩)]
      · rw [if_neg q1, if_neg (fun q => q1 ((hP n i).mp q).2.2)]
    · rw [if_neg hq, if_pos rfl, if_neg (fun q => hq ⟨((hP n i).mp q).1, ((hP n i).mp q).2.1⟩)]
  · have e7 := a_n7 hcv
    rw [hv] at e7
    show q_X7_callAt_L7 h B (n : Int) a2 _ (f + 1) (nCl v : Int) = _
    rw [q_X7_callAt_L7, hI.r0, e7, if_pos (Int.le_refl _)]
theorem x_conf (hI : zInv B h) {n : Nat} (hn' : (n : Int) < vw h.1 (B + 1) 0 7) : q_X7_conflicts h B (n : Int) = some (((nset (fun k => decide (k ≠ n ∧ vw h.1 (B + 1) (25 + n) 5 = 1 ∧ vw h.1 (B + 1) (25 + k) 5 = 1 ∧ (vw h.1 (B + 1) (25 + k) 6 = vw h.1 (B + 1) (25 + n) 6 ∨ vw h.1 (B + 1) (25 + k) 0 = vw h.1 (B + 1) (25 + n) 0 ∨ vw h.1 (B + 1) (25 + k) 1 = vw h.1 (B + 1) (25 + n) 1))) (nCl (vw h.1 (B + 1))) : Nat) : Int)) := by
  have hn0 := hn'
  have hcv := hI.cv
  have hn := hcv.2.nC
  have e7 := a_n7 hcv
  generalize hv : vw h.1 (B + 1) = v at hn e7 hn' ⊢
  let P : Nat → Nat → Bool := fun n k => decide (k ≠ n ∧ v (25 + n) 5 = 1 ∧ v (25 + k) 5 = 1 ∧ (v (25 + k) 6 = v (25 + n) 6 ∨ v (25 + k) 0 = v (25 + n) 0 ∨ v (25 + k) 1 = v (25 + n) 1))
  have hP : ∀ n k, P n k = true ↔ (k ≠ n ∧ v (25 + n) 5 = 1 ∧ v (25 + k) 5 = 1 ∧ (v (25 + k) 6 = v (25 + n) 6 ∨ v (25 + k) 0 = v (25 + n) 0 ∨ v (25 + k) 1 = v (25 + n) 1)) := fun n k => zdec
  show _ = some ((nset (P n) (nCl v) : Nat) : Int)
  have hn16 : n < 16 := by omega
  unfold q_X7_conflicts
  rw [e7_call hI (by rw [hv]; exact hn'), zbp_some, a_c hn16, hv]
  by_cases ha : v (25 + n) 5 = 1
  · rw [if_pos ha]
    refine zsetloop (L := fun f a i => q_X7_conflicts_L21 h B (n : Int) (B + 1 + (25 + n)) (fun x _ => some x) f a i) (kf := fun a => some a) (P n) hn.2 (fun f i hi => ?_) (fun f => ?_)
    · have hi16 : i < 16 := by omega
      show q_X7_conflicts_L21 h B (n : Int) _ _ (f + 1) _ (i : Int) = _
      rw [q_X7_conflicts_L21]
      simp only [zlet_b]
      unfold q_X0_conflictsWith
      rw [hI.r0, e7, if_neg (by omega), zgi_pos (by omega) (by omega), Int.toNat_natCast, a_call hcv, a_c hi16, a_c hi16, a_c hi16, a_c hi16, a_c hn16, a_c hn16, a_c hn16, zw_s (by omega), hv]
      by_cases hq : (i : Int) = (n : Int)
      · rw [if_pos hq, if_neg (fun q => ((hP n i).mp q).1 (by omega))]
      · rw [if_neg hq]
        by_cases h5 : v (25 + i) 5 = 1
        · rw [if_pos h5]
          by_cases q6 : v (25 + i) 6 = v (25 + n) 6
          · rw [if_pos q6, zbp_some, if_neg one0, if_pos ((hP n i).mpr ⟨by omega, ha, h5, Or.inl q6⟩)]
          · rw [if_neg q6]
            by_cases q0 : v (25 + i) 0 = v (25 + n) 0
            · rw [if_pos q0, zbp_some, if_neg one0, if_pos ((hP n i).mpr ⟨by omega, ha, h5, Or.inr (Or.inl q0)⟩)]
            · rw [if_neg q0]
              by_cases q1 : v (25 + i) 1 = v (25 + n) 1
              · rw [if_pos q1, zbp_some, if_neg one0, if_pos ((hP n i).mpr ⟨by omega, ha, h5, Or.inr (Or.inr q1)⟩)]
              · rw [if_neg q1, zbp_some, if_pos rfl, if_neg (fun q => ((hP n i).mp q).2.2.2.elim q6 (fun z => z.elim q0 q1))]
        · rw [if_neg h5, if_neg (fun q => h5 ((hP n i).mp q).2.2.1)]
    · show q_X7_conflicts_L21 h B (n : Int) _ _ (f + 1) _ (nCl v : Int) = _
      rw [q_X7_conflicts_L21, hI.r0, e7, if_pos (Int.le_refl _)]
  · rw [if_neg ha, nset_none _ (fun k _ q => ha ((hP n k).mp q).2.1)]
    rfl
theorem x_send (hI : zInv B h) {n : Nat} (hn' : (n : Int) < vw h.1 (B + 1) 0 7) : q_X7_sendOffset h B (n : Int) = some (sSnd (vw h.1 (B + 1)) n) := by
  have hcv := hI.cv
  have hw := hcv.2
  have hn := hw.nC
  have hns := hw.nS
  have hset := hw.set
  have hc := (hw.2.2.2.2.2.2.2.2 n hn').1
  have hcb := (hw.2.2.2.2.2.2.2.2 n hn').2.2.2.2.1
  obtain ⟨s, hs⟩ : ∃ s : Nat, vw h.1 (B + 1) (25 + n) 0 = (s : Int) := ⟨(vw h.1 (B + 1) (25 + n) 0).toNat, by omega⟩
  have hs3 : (s : Int) < vw h.1 (B + 1) 0 3 := by omega
  have hst := (hw.2.2.2.2.2.2.1 s hs3).1
  unfold q_X7_sendOffset
  simp only [zlet_b]
  rw [e7_call hI hn', zbp_some, hI.r0, a_set hcv, a_c (by omega), a_c (by omega), a_c (by omega)]
  unfold sSnd
  by_cases h5 : vw h.1 (B + 1) (25 + n) 5 = 1
  · have ha := hw.act hn' h5
    rw [if_pos h5, if_pos h5, if_pos (by omega), hs, zgi_pos (by omega) (by omega), Int.toNat_natCast, a_stn hcv, a_s (by omega), zw_id (x := _ - _) ⟨by omega, by omega⟩]
    unfold q_J9_floorMod
    rw [if_neg (by omega), zbp_some, sFM_eq (by omega) (by omega)]
  · rw [if_neg h5, if_neg h5]
theorem x_fits (hI : zInv B h) {k : Nat} (hk : (k : Int) < vw h.1 (B + 1) 0 7) (h5 : vw h.1 (B + 1) (25 + k) 5 = 0) (hG : zNof (vw h.1 (B + 1))) : q_X7_fitsWithout h B (k : Int) 0 = some 0 := by
  have hcv := hI.cv
  have w := hcv.2
  have hn := w.nC
  have hC4 := w.2.1
  unfold q_X7_fitsWithout
  rw [e7_call hI hk, zbp_some, a_c (by omega)]
  obtain ⟨C, hC⟩ : ∃ C : Nat, vw h.1 (B + 1) 0 1 = (C : Int) := ⟨(vw h.1 (B + 1) 0 1).toNat, by omega⟩
  obtain ⟨y, p1, p2⟩ := e7_fits hI hk (by omega) 0 hC C 0 zF (Nat.zero_add _) (by unfold zF; omega) (fun c t z1 z2 => by omega)
  rw [if_pos h5]
  refine p1.trans ?_
  rcases p2 with ⟨e, c, t, z1, z2, z3⟩ | ⟨e, _⟩
  · exact absurd (fit_0.mp z3) (hG k hk h5 c t z1 z2)
  · rw [e]
theorem x_qlen (hI : zInv B h) {c : Nat} {a : Nat → Nat} (hq : Que (vw h.1 (B + 1)) c a) : q_X7_queueLength h B = some (c : Int) := by
  have hcv := hI.cv
  have hn := hcv.2.nC
  unfold q_X7_queueLength q_J6_bitCount
  rw [hI.r0, e4_callsIn hcv, zbp_some]
  unfold sIn
  have e := nct_congr _ (sIn_mk hcv.2 0 (by decide))
  rw [sBC_nset hn.2, zbp_some, hq.2.2.2]
  exact congrArg (fun x : Nat => some (x : Int)) e
theorem x_qat (hI : zInv B h) {c : Nat} {a : Nat → Nat} (k3 : Que (vw h.1 (B + 1)) c a) {a1 : Int} : q_X7_queuedAt h B a1 = some (if 0 ≤ a1 ∧ a1 < (c : Int) then (a a1.toNat : Int) else -1) := by
  have hcv := hI.cv
  have hn := hcv.2.nC
  have k3' : Enu (sMk (vw h.1 (B + 1)) 1) (fun k => vw h.1 (B + 1) (25 + k) 2) (nCl (vw h.1 (B + 1))) c a := k3
  have hc : c ≤ nCl (vw h.1 (B + 1)) := by rw [k3.2.2.2]; exact nct_le _
  unfold q_X7_queuedAt q_J6_bitCount
  rw [show q_X4_callsIn h (h.2 B 0) 0 = some ((sIn (vw h.1 (B + 1)) 0 : Nat) : Int) from by rw [hI.r0]; exact e4_callsIn hcv 0, zbp_some]
  have hset : sIn (vw h.1 (B + 1)) 0 < 65536 := nset_16 hn.2
  have hcount : sBC ((sIn (vw h.1 (B + 1)) 0 : Nat) : Int) = (c : Int) := by
    unfold sIn
    have e := nct_congr _ (sIn_mk hcv.2 0 (by decide))
    rw [sBC_nset hn.2, k3.2.2.2]
    exact congrArg (fun x : Nat => (x : Int)) e
  rw [hcount]
  by_cases q1 : a1 < 0
  · rw [if_pos q1, if_neg (by omega)]
  · rw [if_neg q1, zbp_some]
    by_cases q2 : a1 < (c : Int)
    · rw [if_pos q2, if_pos ⟨by omega, q2⟩]
      obtain ⟨q, rfl⟩ : ∃ q : Nat, a1 = (q : Int) := ⟨a1.toNat, by omega⟩
      rw [Int.toNat_natCast]
      refine e7_queued hI k3' (by omega) q 0 zF (sIn (vw h.1 (B + 1)) 0) (Nat.zero_add _) (by unfold zF; omega) hset (fun k hk => ?_)
      have e : (sIn (vw h.1 (B + 1)) 0).testBit k = sMk (vw h.1 (B + 1)) 1 k := by
        unfold sIn
        rw [nset_bit, decide_eq_true hk, Bool.true_and]
        exact sIn_mk hcv.2 0 (by decide) k hk
      rw [e]
      constructor
      · intro z
        obtain ⟨j, z1, z2⟩ := k3.2.1 k hk z
        exact ⟨j, Nat.zero_le _, z1, z2⟩
      · rintro ⟨j, _, z1, z2⟩
        rw [← z2]
        exact (k3.1 j z1).2
    · rw [if_neg q2, if_neg (fun z => q2 z.2)]
end LK58
