/-! A frame passes: all together; advancing. -/
def pF (v : Nat → Nat → Int) : Nat → Nat → Int := vup v 0 0 (v 0 0 + 1)
def pS (v : Nat → Nat → Int) : Nat → Nat → Int := zit pSt (nSt v) v
def pN (v : Nat → Nat → Int) : Nat → Nat → Int := zit pEn (nCl v) v
/-- from one frame to the next -/
def Pss (v u : Nat → Nat → Int) : Prop := ∃ c a z n, Que (pN (pS (pF v))) c a ∧ Run a c (pN (pS (pF v))) z n ∧ u = pT z (nset (wre (pS (pF v))) (nCl v))
theorem pF_ne {v : Nat → Nat → Int} {o j : Nat} (h : ¬ (o = 0 ∧ j = 0)) : pF v o j = v o j := vup_ne h
theorem pF_0 {v : Nat → Nat → Int} : pF v 0 0 = v 0 0 + 1 := vup_at
theorem WF.frm {v : Nat → Nat → Int} (w : WF v) (hf : v 0 0 < 9999) : WF (pF v) := by
  have q : ∀ o j, ¬ (o = 0 ∧ j = 0) → Jvm.Pilot.CSatelliteExchangeLaw_law_r1646_76d6fc.pF v o j = v o j := fun o j h => pF_ne h
  have er : ∀ o, o ≠ 0 → Jvm.Pilot.CSatelliteExchangeLaw_law_r1646_76d6fc.pF v o = v o := fun o ho => funext fun j => q o j (fun z => ho z.1)
  obtain ⟨a1, a2, a3, a4, a5, a6, a7, a8, a9⟩ := w
  refine ⟨by rw [pF_0]; omega, by rw [q 0 1 (by omega)]; exact a2, by rw [q 0 3 (by omega)]; exact a3, by rw [q 0 5 (by omega)]; exact a4, by rw [q 0 7 (by omega)]; exact a5, by rw [er 1 (by omega)]; exact a6, fun s hs => ?_, fun r hr => ?_, fun k hk => ?_⟩
  · rw [q 0 3 (by omega)] at hs
    obtain ⟨x1, x2, x3, x4, x5, x6⟩ := a7 s hs
    unfold WFs
    rw [pF_0, er (5 + 2 * s) (by omega), er (6 + 2 * s) (by omega)]
    exact ⟨x1, x2, x3, x4, ⟨x5.1, by omega⟩, x6⟩
  · rw [q 0 5 (by omega)] at hr
    unfold WFr
    rw [q 0 3 (by omega), er (17 + r) (by omega)]
    exact a8 r hr
  · rw [q 0 7 (by omega)] at hk
    obtain ⟨h0, h1, h2, h3, h4, h5, h6, h7, h8, h9, h10, h11⟩ := a9 k hk
    unfold WFc
    rw [pF_0, q 0 1 (by omega), q 0 3 (by omega), er (25 + k) (by omega), er 1 (by omega)]
    exact ⟨h0, h1, h2, h3, h4, h5, h6, ⟨h7.1, by omega⟩, ⟨h8.1, by omega⟩, ⟨h9.1, by omega⟩, h10, h11⟩
theorem GI.frm {v : Nat → Nat → Int} (g : GI v) : GI (pF v) := by
  have q : ∀ o j, ¬ (o = 0 ∧ j = 0) → Jvm.Pilot.CSatelliteExchangeLaw_law_r1646_76d6fc.pF v o j = v o j := fun o j h => pF_ne h
  have er : ∀ o, o ≠ 0 → Jvm.Pilot.CSatelliteExchangeLaw_law_r1646_76d6fc.pF v o = v o := fun o ho => funext fun j => q o j (fun z => ho z.1)
  have e7 := q 0 7 (by omega)
  refine ⟨fun k l hk hl hkl k5 l5 hc => ?_, fun k hk k5 c t h0 h1 hF => ?_, fun k hk k5 => ?_⟩
  · rw [e7] at hk hl
    unfold cfl at hc
    rw [er (25 + k) (by omega)] at k5 hc ⊢
    rw [er (25 + l) (by omega)] at l5 hc ⊢
    rw [er 1 (by omega)]
    exact g.1 k l hk hl hkl k5 l5 hc
  · rw [e7] at hk
    rw [er (25 + k) (by omega)] at k5
    refine g.2.1 k hk k5 c t h0 (by rw [← q 0 1 (by omega)]; exact h1) ?_
    obtain ⟨f1, f2, f3⟩ := Fit.iff.mp hF
    rw [er 1 (by omega)] at f1 f2
    rw [er (25 + k) (by omega)] at f2
    refine Fit.iff.mpr ⟨f1, f2, fun l hl hW hw => f3 l (by rw [e7]; exact hl) hW ?_⟩
    unfold isWay
    rw [er 1 (by omega), er (25 + k) (by omega), er (25 + l) (by omega)]
    exact hw
  · rw [e7] at hk
    rw [er (25 + k) (by omega)] at k5 ⊢
    exact g.2.2 k hk k5
theorem MR.frm {v : Nat → Nat → Int} {N N' T : Nat → Int} (m : MR v N T) (hN : ∀ i, i ≠ 0 → N' i = N i) (h0 : N' 0 = v 0 0 + 1) : MR (pF v) N' T := by
  have q : ∀ o j, ¬ (o = 0 ∧ j = 0) → Jvm.Pilot.CSatelliteExchangeLaw_law_r1646_76d6fc.pF v o j = v o j := fun o j h => pF_ne h
  have er : ∀ o, o ≠ 0 → Jvm.Pilot.CSatelliteExchangeLaw_law_r1646_76d6fc.pF v o = v o := fun o ho => funext fun j => q o j (fun z => ho z.1)
  obtain ⟨a1, a2, a3, a4, a5, a6, a7, a8, a9⟩ := m
  refine ⟨by rw [pF_0, h0], by rw [q 0 1 (by omega)]; exact a2, by rw [q 0 3 (by omega)]; exact a3, by rw [q 0 5 (by omega)]; exact a4, by rw [q 0 7 (by omega), hN 404 (by omega)]; exact a5, fun j hj => by rw [er 1 (by omega), hN _ (by omega)]; exact a6 j hj, fun s hs => ?_, fun r hr => ?_, fun k hk => ?_⟩
  · rw [q 0 3 (by omega)] at hs
    obtain ⟨b1, b2, b3, b4, b5, b6, b7, b8⟩ := a7 s hs
    unfold MRs
    rw [er (5 + 2 * s) (by omega), er (6 + 2 * s) (by omega)]
    exact ⟨b1, b2, b3, b4, b5, by rw [hN _ (by omega)]; exact b6, by rw [hN _ (by omega)]; exact b7, fun j hj => by rw [hN _ (by omega)]; exact b8 j hj⟩
  · rw [q 0 5 (by omega)] at hr
    unfold MRr
    rw [er (17 + r) (by omega)]
    exact a8 r hr
  · rw [q 0 7 (by omega)] at hk
    have hp : ∀ j, N' (405 + 12 * k + j) = N (405 + 12 * k + j) := fun j => hN _ (by omega)
    unfold MRc
    rw [er (25 + k) (by omega), hN 4 (by omega), hN (405 + 12 * k) (by omega), hp 1, hp 2, hp 3, hp 4, hp 5, hp 6, hp 7, hp 8, hp 9, hp 10, hp 11]
    exact a9 k hk
section PU
variable {v : Nat → Nat → Int}
theorem pF_n : nSt (pF v) = nSt v ∧ nCl (pF v) = nCl v := by
  unfold nSt nCl
  rw [pF_ne (by omega), pF_ne (by omega)]
  exact ⟨rfl, rfl⟩
theorem pS_all (w : WF v) (g : GI v) (hf : v 0 0 < 9999) : WF (pS (pF v)) ∧ GI (pS (pF v)) ∧ nCl (pS (pF v)) = nCl v ∧ nSt (pS (pF v)) = nSt v ∧ pS (pF v) 0 0 = v 0 0 + 1 := by
  have wf := w.frm hf
  have h6 := wf.nS.2
  have q : ∀ o j, (o < 5 ∨ 17 ≤ o) → pS (pF v) o j = pF v o j := fun o j h => pS_ne _ o j h6 h
  refine ⟨pS_wf wf _ (Nat.le_refl _), ?_, ?_, ?_, ?_⟩
  · refine Ceq.gi (v := pF v) ⟨⟨(q _ _ (by omega)).symm, (q _ _ (by omega)).symm, (q _ _ (by omega)).symm⟩, fun j hj => (q _ _ (by omega)).symm, fun k hk => ⟨fun j hj => (q _ _ (by omega)).symm, (q _ _ (by omega)).symm, fun _ => ⟨(q _ _ (by omega)).symm, (q _ _ (by omega)).symm⟩⟩⟩ g.frm
  · unfold pS
    rw [(pS_n h6).2, pF_n.2]
  · unfold pS
    rw [(pS_n h6).1, pF_n.1]
  · rw [q 0 0 (by omega), pF_0]
theorem pN_all (w : WF v) (g : GI v) : WF (pN v) ∧ zSep (pN v) ∧ zWt (pN v) ∧ nCl (pN v) = nCl v := ⟨(pN_good w g.1 g.2.2 _).1, (pN_good w g.1 g.2.2 _).2.1, (pN_good w g.1 g.2.2 _).2.2, pN_n⟩
theorem pT_ceq {z : Nat → Nat → Int} {m : Nat} (w : WF z) : ∀ o j, ¬ (25 ≤ o ∧ j = 10) → ¬ (5 ≤ o ∧ o < 17 ∧ j = 6) → pT z m o j = z o j := by
  intro o j h1 h2
  have hS := w.nS
  unfold pT
  rw [pFs_ne _ _ _ (by omega), pD_ne _ _ _ (by omega)]
theorem pT_wf {z : Nat → Nat → Int} {m : Nat} (w : WF z) (hd : Dlt z) : WF (pT z m) := by
  unfold pT
  have e : nSt z = nSt (zit (pDg (sDeg z (fun k => m.testBit k))) (nCl z) z) := pD_n.2.symm
  rw [e]
  exact pFs_wf (pD_wf w hd _ (Nat.le_refl _)) (pD_dlt hd) _ (Nat.le_refl _)
theorem pss_dlt {c : Nat} {a : Nat → Nat} {z : Nat → Nat → Int} {n : Int} (w : WF v) (hf : v 0 0 < 9999) (hR : Run a c (pN (pS (pF v))) z n) : Dlt z := by
  have h6 := (w.frm hf).nS.2
  have st := hR.sta
  have z0 : z 0 0 = v 0 0 + 1 := by
    rw [st 0 0 (by omega)]
    unfold pN
    rw [pN_ne _ _ _ (by omega)]
    unfold pS
    rw [pS_ne _ _ _ h6 (by omega), pF_0]
  have z7 : z 0 7 = v 0 7 := by
    rw [st 0 7 (by omega)]
    unfold pN
    rw [pN_ne _ _ _ (by omega)]
    unfold pS
    rw [pS_ne _ _ _ h6 (by omega), pF_ne (by omega)]
  have z3 : z 0 3 = v 0 3 := by
    rw [st 0 3 (by omega)]
    unfold pN
    rw [pN_ne _ _ _ (by omega)]
    unfold pS
    rw [pS_ne _ _ _ h6 (by omega), pF_ne (by omega)]
  refine ⟨fun k hk => ?_, fun s hs => ?_⟩
  · rw [z7] at hk
    have e : z (25 + k) 10 = v (25 + k) 10 := by
      rw [st _ _ (by omega)]
      unfold pN
      rw [pN_ne _ _ _ (by omega)]
      unfold pS
      rw [pS_ne _ _ _ h6 (by omega), pF_ne (by omega)]
    have := (w.2.2.2.2.2.2.2.2 k hk).2.2.2.2.2.2.2.2.2.1
    omega
  · rw [z3] at hs
    have hs6 := w.nS
    have e : z (5 + 2 * s) 6 = v (5 + 2 * s) 6 := by
      rw [st _ _ (by omega)]
      unfold pN
      rw [pN_ne _ _ _ (by omega)]
      unfold pS
      rw [pS_6 _ _ h6, pF_ne (by omega)]
    have := (w.2.2.2.2.2.2.1 s hs).2.2.2.2.1
    omega
/-- the calls that were active and still are -/
theorem set_go {c : Nat} {a : Nat → Nat} {z : Nat → Nat → Int} {n : Int} (w : WF v) (g : GI v) (hq : Que (pN v) c a) (hR : Run a c (pN v) z n) : sIn v 1 &&& sIn z 1 = nset (wre v) (nCl v) := by
  obtain ⟨b1, b2, b3, b4⟩ := pN_all w g
  have hn := w.nC
  have enz : nCl z = nCl v := by rw [hR.sta.n, b4]
  refine Nat.eq_of_testBit_eq (fun j => ?_)
  rw [Nat.testBit_and]
  unfold sIn
  rw [nset_bit, nset_bit, nset_bit, enz]
  by_cases hj : j < nCl v
  · rw [decide_eq_true hj, Bool.true_and, Bool.true_and, Bool.true_and]
    unfold wre
    have e5 : pN v (25 + j) 5 = if v (25 + j) 5 = 1 ∧ v (25 + j) 9 + v (25 + j) 4 ≤ v 0 0 then 2 else v (25 + j) 5 := pN_5 _ hj
    by_cases h1 : v (25 + j) 5 = 1
    · have hnw : pN v (25 + j) 5 ≠ 0 := by
        rw [e5]
        split
        · decide
        · omega
      have ez : z (25 + j) 5 = pN v (25 + j) 5 := hR.rest (fun i hi e => by
        have := (hq.w b1 i hi).2
        rw [e] at this
        exact hnw this) 5
      rw [ez, e5]
      by_cases h2 : v (25 + j) 9 + v (25 + j) 4 ≤ v 0 0
      · rw [if_pos ⟨h1, h2⟩, decide_eq_true h1, Bool.true_and]
        exact decide_eq_decide.mpr ⟨fun y => by omega, fun y => by omega⟩
      · rw [if_neg (fun y => h2 y.2), decide_eq_true h1, Bool.true_and]
        exact (decide_eq_true ⟨h1, by omega⟩).symm
    · rw [decide_eq_false h1, Bool.false_and]
      exact (decide_eq_false (fun y => h1 y.1)).symm
  · rw [decide_eq_false hj, Bool.false_and, Bool.false_and, Bool.false_and]
theorem Pss.good {u : Nat → Nat → Int} (g : Good v) (hf : v 0 0 < 9999) (h : Pss v u) : Good u ∧ u 0 0 = v 0 0 + 1 := by
  obtain ⟨c, a, z, n, h1, h2, h3⟩ := h
  obtain ⟨a1, a2, a3, a4, a5⟩ := pS_all g.1 g.2 hf
  obtain ⟨b1, b2, b3, b4⟩ := pN_all a1 a2
  have hz := h1.good b1 h2 b2 b3
  have hd := pss_dlt g.1 hf h2
  have q := pT_ceq (z := z) (m := nset (wre (pS (pF v))) (nCl v)) hz.1
  subst h3
  refine ⟨⟨pT_wf hz.1 hd, ?_⟩, ?_⟩
  · exact Ceq.gi (v := z) ⟨⟨(q _ _ (by omega) (by omega)).symm, (q _ _ (by omega) (by omega)).symm, (q _ _ (by omega) (by omega)).symm⟩, fun j hj => (q _ _ (by omega) (by omega)).symm, fun k hk => ⟨fun j hj => (q _ _ (by omega) (by omega)).symm, (q _ _ (by omega) (by omega)).symm, fun _ => ⟨(q _ _ (by omega) (by omega)).symm, (q _ _ (by omega) (by omega)).symm⟩⟩⟩ hz.2
  · rw [q _ _ (by omega) (by omega), h2.sta 0 0 (by omega), ← a5]
    exact pN_ne _ _ _ (by omega)
end PU
section CL
variable {h : zH} {A : Nat}
theorem e4_pass (hc : CV h A) (hG : GI (vw h.1 A)) (hf : vw h.1 A 0 0 < 9999) : ∃ h', q_X4_passFrame h A = some ((), h') ∧ Frm A h h' ∧ Pss (vw h.1 A) (vw h'.1 A) := by
  have w := hc.2
  have hfr := w.1
  obtain ⟨a1, a2, a3, a4, a5⟩ := pS_all w hG hf
  obtain ⟨b1, b2, b3, b4⟩ := pN_all a1 a2
  have wz : zw (vw h.1 A 0 0 + 1) = vw h.1 A 0 0 + 1 := zw_id ⟨by omega, by omega⟩
  unfold q_X4_passFrame
  simp only [zlet_b]
  rw [a_0, wz]
  clear wz
  have ev0 : vw (zput h A 0 (vw h.1 A 0 0 + 1)).1 A = pF (vw h.1 A) := vw_put0
  have hc0 : CV (zput h A 0 (vw h.1 A 0 0 + 1)) A := ⟨hc.1, by rw [ev0]; exact w.frm hf⟩
  have F0 : Frm A h (zput h A 0 (vw h.1 A 0 0 + 1)) := Frm.rf.put (o := 0) (by decide)
  obtain ⟨g1, p1, p2, p3⟩ := m_pst hc0 (by rw [ev0, pF_0]; omega) (K := fun x8 h9 => zbp (q_X4_callsIn h9 A 1) (fun x11 => zbd (q_X4_endAndServe h9 A) (fun _ h12 => zbp (q_X4_callsIn h12 A 1) (fun x13 => zbd (q_X4_countTroubles h12 A (zand x11 x13)) (fun _ h14 => some ((), h14)))))) (nSt (vw (zput h A 0 (vw h.1 A 0 0 + 1)).1 A)) 0 zF _ (Nat.zero_add _) (by have := hc0.2.nS; unfold zF; omega) rfl Frm.rf
  have p1' := p1
  rw [show ((0 : Nat) : Int) = 0 from rfl] at p1'
  rw [p1']
  rw [ev0] at p2
  have p2' : vw g1.1 A = pS (pF (vw h.1 A)) := p2
  have hc1 : CV g1 A := ⟨by rw [p3.1]; exact hc.1, by rw [p2']; exact a1⟩
  obtain ⟨c, a, hq⟩ := Que.ex (pN (pS (pF (vw h.1 A))))
  have hq' : Que (zit pEn (nCl (vw g1.1 A)) (vw g1.1 A)) c a := by rw [p2']; exact hq
  obtain ⟨g2, n, o1, o2, o3⟩ := e4_endAndServe hc1 (by rw [p2']; exact a2) hq'
  have o2' : Run a c (pN (pS (pF (vw h.1 A)))) (vw g2.1 A) n := by
    rw [p2'] at o2
    exact o2
  have hz := hq.good b1 o2' b2 b3
  have hc2 : CV g2 A := ⟨by rw [o3.1]; exact hc1.1, hz.1⟩
  have hd := pss_dlt w hf o2'
  have hset := set_go a1 a2 hq o2'
  rw [a3] at hset
  have hs1 : sIn (vw g1.1 A) 1 < 65536 := nset_16 hc1.2.nC.2
  have hs2 : sIn (vw g2.1 A) 1 < 65536 := nset_16 hc2.2.nC.2
  rw [e4_callsIn hc1 1, zbp_some, o1, zbd_some, e4_callsIn hc2 1, zbp_some, zand_nat (by omega) (by omega), p2', hset]
  obtain ⟨g3, y1, y2, y3⟩ := e4_trouble hc2 hd (m := nset (wre (pS (pF (vw h.1 A)))) (nCl (vw h.1 A))) (nset_16 w.nC.2)
  rw [y1, zbd_some]
  exact ⟨g3, rfl, F0.tr (p3.tr (o3.tr y3)), c, a, _, n, hq, o2', y2⟩
end CL
section OPS
variable {B : Nat}
theorem e8_passes {h : zH} {v u : Nat → Nat → Int} (hm : MV h (B + 541) v) (hG : GI v) (hf : v 0 0 < 9999) (hp : Pss v u) : ∃ h', q_X8_passes h (B + 541) = some ((), h') ∧ MV h' (B + 541) u ∧ zS4 B h h' := by
  have w := hm.2.1
  have hfr := w.1
  obtain ⟨c, a, z, n, h1, h2, h3⟩ := hp
  obtain ⟨a1, a2, a3, a4, a5⟩ := pS_all w hG hf
  obtain ⟨b1, b2, b3, b4⟩ := pN_all a1 a2
  have hz := h1.good b1 h2 b2 b3
  have hd := pss_dlt w hf h2
  have wz : zw (v 0 0 + 1) = v 0 0 + 1 := zw_id ⟨by omega, by omega⟩
  unfold q_X8_passes
  simp only [zlet_b]
  rw [m_now hm, wz, hm.1.now]
  clear wz
  have F0 : zNw B h (zput h (B + 541 + 4) 0 (v 0 0 + 1)) := zNw.rf.put
  have hm0 : MV (zput h (B + 541 + 4) 0 (v 0 0 + 1)) (B + 541) (pF v) := F0.mv hm (w.frm hf) (hm.2.2.frm (fun i hi => zput_ne (fun y => hi y.2)) zput_self)
  have e0 : (zput h (B + 541 + 4) 0 (v 0 0 + 1)).1 ((zput h (B + 541 + 4) 0 (v 0 0 + 1)).2 (B + 541) 5) 0 = pF v 0 0 := m_now hm0
  rw [e0]
  obtain ⟨g1, p1, p2, p3⟩ := m_pst8 hm0 (by rw [pF_0]; omega) (K := fun x7 h8 => q_X8_passes_L70 (B + 541) (pF v 0 0) (fun x19 x20 h21 => zbd (q_X8_serves h21 (B + 541)) (fun x24 h25 => q_X8_passes_L137 (B + 541) x19 (fun x36 x37 h38 => q_X8_passes_L212 (B + 541) x36 (fun x48 h49 => some ((), h49)) zF 0 h38) zF 0 0 h25)) zF 0 0 h8) (nSt (pF v)) 0 zF _ (Nat.zero_add _) (by have := hm0.2.1.nS; unfold zF; omega) hm0 zNw.rf
  have p1' := p1
  rw [show ((0 : Nat) : Int) = 0 from rfl] at p1'
  rw [p1']
  have hm1 : MV g1 (B + 541) (pS (pF v)) := p2
  have e00 : pF v 0 0 = pS (pF v) 0 0 := by rw [a5, pF_0]
  rw [e00]
  obtain ⟨g2, o1, o2, o3⟩ := m_were hm1 a2.1 a2.2.2 (K := fun x19 x20 h21 => zbd (q_X8_serves h21 (B + 541)) (fun x24 h25 => q_X8_passes_L137 (B + 541) x19 (fun x36 x37 h38 => q_X8_passes_L212 (B + 541) x36 (fun x48 h49 => some ((), h49)) zF 0 h38) zF 0 0 h25)) (nCl (pS (pF v))) 0 zF g1 (Nat.zero_add _) (by have := a1.nC; unfold zF; omega) hm1 zNw.rf
  have o1' := o1
  rw [show ((0 : Nat) : Int) = 0 from rfl, show ((nset (wre (pS (pF v))) 0 : Nat) : Int) = 0 from rfl] at o1'
  rw [o1']
  have hm2 : MV g2 (B + 541) (pN (pS (pF v))) := o2
  obtain ⟨g3, s1, s2, s3⟩ := e8_serves hm2 b3 h1 h2
  rw [s1, zbd_some, a3]
  obtain ⟨g4, y1, y2, y3⟩ := m_r137 s2 hd (m := nset (wre (pS (pF v))) (nCl v)) (nset_16 w.nC.2) (K := fun x36 x37 h38 => q_X8_passes_L212 (B + 541) x36 (fun x48 h49 => some ((), h49)) zF 0 h38) (nCl z) 0 zF g3 (Nat.zero_add _) (by have := hz.1.nC; unfold zF; omega) s2 zNw.rf
  have y1' := y1
  rw [show ((0 : Nat) : Int) = 0 from rfl, show ((sSnd' z (nset (wre (pS (pF v))) (nCl v)) 0 : Nat) : Int) = 0 from rfl] at y1'
  rw [y1']
  have en : nSt (zit (pDg (sDeg z (fun k => (nset (wre (pS (pF v))) (nCl v)).testBit k))) (nCl z) z) = nSt z := pD_n.2
  obtain ⟨g5, x1, x2, x3⟩ := m_r212 y2 (pD_dlt hd) (q := sSnd' z (nset (wre (pS (pF v))) (nCl v)) (nCl z)) (sSnd'_b hz.1 _ (Nat.le_refl _)) (K := fun x48 h49 => some ((), h49)) (nSt (zit (pDg (sDeg z (fun k => (nset (wre (pS (pF v))) (nCl v)).testBit k))) (nCl z) z)) 0 zF g4 (Nat.zero_add _) (by have := hz.1.nS; unfold zF; omega) y2 zNw.rf
  have x1' := x1
  rw [show ((0 : Nat) : Int) = 0 from rfl] at x1'
  refine ⟨g5, x1', ?_, F0.s4.tr (p3.s4.tr (o3.s4.tr (s3.tr (y3.s4.tr x3.s4))))⟩
  rw [h3]
  rw [en] at x2
  exact x2
end OPS
/-- frames pass -/
def PsN : Nat → (Nat → Nat → Int) → (Nat → Nat → Int) → Prop
  | 0, v, u => u = v
  | n + 1, v, u => ∃ w, Pss v w ∧ PsN n w u
section OPS
variable {B : Nat}
theorem m_adv {N : Nat} {K : Int → zH → Option (Int × zH)} : ∀ (r i f : Nat) (g : zH), i + r = N → N ≤ 200 → r < f → CV g (B + 1) → g.2 B 0 = B + 1 → Good (vw g.1 (B + 1)) → vw g.1 (B + 1) 0 0 + (r : Int) ≤ 9999 →
    ∃ g', q_X7_advance_L45 B (N : Int) K f (i : Int) g = K (N : Int) g' ∧ PsN r (vw g.1 (B + 1)) (vw g'.1 (B + 1)) ∧ Frm (B + 1) g g' ∧ Good (vw g'.1 (B + 1)) ∧ vw g'.1 (B + 1) 0 0 = vw g.1 (B + 1) 0 0 + (r : Int) := by
  intro r
  induction r with
  | zero =>
    intro i f g q1 q0 q2 hc h0 hg hf
    obtain ⟨f', rfl⟩ : ∃ f', f = f' + 1 := ⟨f - 1, by omega⟩
    have e : i = N := by omega
    refine ⟨g, ?_, rfl, Frm.rf, hg, by omega⟩
    rw [q_X7_advance_L45, e, if_pos (Int.le_refl _)]
  | succ r ih =>
    intro i f g q1 q0 q2 hc h0 hg hf
    obtain ⟨f', rfl⟩ : ∃ f', f = f' + 1 := ⟨f - 1, by omega⟩
    have hni : ¬ (N : Int) ≤ (i : Int) := by omega
    have hii : i < 1000000 := by omega
    obtain ⟨g1, p1, p2, p3⟩ := e4_pass hc hg.2 (by omega)
    obtain ⟨hg1, hf1⟩ := p3.good hg (by omega)
    obtain ⟨g', o1, o2, o3, o4, o5⟩ := ih (i + 1) f' g1 (by omega) q0 (by omega) ⟨by rw [p2.1]; exact hc.1, hg1.1⟩ (by rw [p2.1]; exact h0) hg1 (by omega)
    refine ⟨g', ?_, ⟨_, p3, o2⟩, p2.tr o3, o4, by omega⟩
    rw [q_X7_advance_L45, if_neg hni, h0, p1, zbd_some]
    simp only [zlet_b]
    rw [zw_s hii]
    exact o1
theorem m_adv8 {N : Nat} {u : Nat → Nat → Int} {K : Int → zH → Option (Int × zH)} : ∀ (r i f : Nat) (g : zH) (v : Nat → Nat → Int), i + r = N → N ≤ 200 → r < f → MV g (B + 541) v → Good v → v 0 0 + (r : Int) ≤ 9999 → PsN r v u →
    ∃ g', q_X8_advance_L43 (B + 541) (N : Int) K f (i : Int) g = K (N : Int) g' ∧ MV g' (B + 541) u ∧ zS4 B g g' := by
  intro r
  induction r with
  | zero =>
    intro i f g v q1 q0 q2 hm hg hf hp
    obtain ⟨f', rfl⟩ : ∃ f', f = f' + 1 := ⟨f - 1, by omega⟩
    have e : i = N := by omega
    refine ⟨g, ?_, ?_, zS4.rf⟩
    · rw [q_X8_advance_L43, e, if_pos (Int.le_refl _)]
    · have e2 : u = v := hp
      rw [e2]
      exact hm
  | succ r ih =>
    intro i f g v q1 q0 q2 hm hg hf hp
    obtain ⟨f', rfl⟩ : ∃ f', f = f' + 1 := ⟨f - 1, by omega⟩
    obtain ⟨x, hp1, hp2⟩ := hp
    have hni : ¬ (N : Int) ≤ (i : Int) := by omega
    have hii : i < 1000000 := by omega
    obtain ⟨g1, p1, p2, p3⟩ := e8_passes hm hg.2 (by omega) hp1
    obtain ⟨hg1, hf1⟩ := hp1.good hg (by omega)
    obtain ⟨g', o1, o2, o3⟩ := ih (i + 1) f' g1 x (by omega) q0 (by omega) p2 hg1 (by omega) hp2
    refine ⟨g', ?_, o2, p3.tr o3⟩
    rw [q_X8_advance_L43, if_neg hni, p1, zbd_some]
    simp only [zlet_b]
    rw [zw_s hii]
    exact o1
theorem op_39 : zI_39 (zInv B) B (B + 541) (B + 552) := by
  intro h hI hG a1 r1
  have s1 : zSame B h (zput h (B + 541) 0 0) := zSame.rf.put sM0
  have hm := hI.mv.same s1
  have hw := hI.wf
  have hfr := hw.1
  by_cases hx : 1 ≤ a1 ∧ a1 ≤ 200
  · obtain ⟨N, rfl⟩ : ∃ N : Nat, a1 = (N : Int) := ⟨a1.toNat, by omega⟩
    have hN : N ≤ 200 := by omega
    have n1 : ¬ (N : Int) < 1 := by omega
    have wz : zw (vw h.1 (B + 1) 0 0 + (N : Int)) = vw h.1 (B + 1) 0 0 + (N : Int) := zw_id ⟨by omega, by omega⟩
    by_cases hv : vw h.1 (B + 1) 0 0 + (N : Int) ≤ 9999
    · obtain ⟨np, sh, hkn⟩ := KNum.ex hI.2.2.1.1
      obtain ⟨g, k1, k2⟩ := e1_keep hI hkn
      obtain ⟨g1, g2, g3, _, _⟩ := kpt_cur hI k2
      have hcl : N < zF := Nat.lt_of_le_of_lt hN (by decide)
      obtain ⟨h1, o1, o2, o3, o4, o5⟩ := m_adv (B := B) (N := N) (K := fun x5 h6 => some (h6.1 (h6.2 B 0) 0, h6)) N 0 zF g (Nat.zero_add _) hN hcl g1 g3 (by rw [g2]; exact hI.2.2.2.1) (by rw [g2]; exact hv)
      rw [g2] at o2 o5
      have o1' := o1
      rw [show ((0 : Nat) : Int) = 0 from rfl] at o1'
      have hc1 : ∀ q j, ¬ (B + 1 ≤ q ∧ q < B + 42) → ¬ zScrt B q j → h1.1 q j = g.1 q j := fun q j hq _ => o3.2 q j (by clear wz; omega)
      have hc2 : h1.2 = g.2 := o3.1
      have hx1 : zSame B h1 (zput h1 (B + 541) 0 0) := zSame.rf.put sM0
      have hmx := chg_x hI k2 hc2 hc1 hx1
      obtain ⟨g8, p1, p2, p3, p4, p5⟩ := chg_op hI hkn k2 hc2 hc1 hx1
      obtain ⟨h2, y1, y2, y3⟩ := m_adv8 (B := B) (N := N) (K := fun x5 h6 => some (h6.1 (h6.2 (B + 541) 5) 0, h6)) N 0 zF g8 (vw h.1 (B + 1)) (Nat.zero_add _) hN hcl p2 hI.2.2.2.1 hv o2
      have y1' := y1
      rw [show ((0 : Nat) : Int) = 0 from rfl] at y1'
      refine ⟨h2, ⟨vw h1.1 (B + 1) 0 0, h1, ?_, ?_⟩, p5 h2 y3 o4 y2⟩
      · unfold q_X7_advance
        rw [e_inR hx.1 hx.2, zbp_some, if_neg one0, hI.r0, a_0, wz, if_pos hv, hI.r3, k1, zbd_some, o1', hc2, g3, a_0]
      · unfold q_X8_advance
        simp only [zlet_b]
        rw [if_neg n1, if_pos hx.2, m_now hmx, wz, if_pos hv, p1, zbd_some, y1', m_now y2]
    · refine ⟨zput h (B + 541) 0 0, ⟨-3, h, ?_, ?_⟩, hI.same s1⟩
      · unfold q_X7_advance
        rw [e_inR hx.1 hx.2, zbp_some, if_neg one0, hI.r0, a_0, wz, if_neg hv]
      · unfold q_X8_advance
        simp only [zlet_b]
        rw [if_neg n1, if_pos hx.2, m_now hm, wz, if_neg hv]
  · refine ⟨zput h (B + 541) 0 0, ⟨-2, h, ?_, ?_⟩, hI.same s1⟩
    · unfold q_X7_advance
      rw [e_inN hx, zbp_some, if_pos rfl]
    · unfold q_X8_advance
      simp only [zlet_b]
      by_cases q : a1 < 1
      · rw [if_pos q]
      · rw [if_neg q, if_neg (fun z => hx ⟨by omega, z⟩)]
end OPS
