/-! A frame passes: the stations. -/
def pE (v : Nat → Nat → Int) (s : Nat) : Nat → Nat → Int := vup v (6 + 2 * s) (v 0 0 % 64).toNat (sStep (v (6 + 2 * s)) (v (5 + 2 * s) 2) (v 1 6) (sTripD (v (5 + 2 * s) 1) (v 1 0)) (v 0 0))
def pSt (v : Nat → Nat → Int) (s : Nat) : Nat → Nat → Int := vup (pE v s) (5 + 2 * s) 5 (sNext (pE v s) s (pE v s (5 + 2 * s) 5) (pE v s 0 0))
theorem pE_ne {v : Nat → Nat → Int} {s o j : Nat} (h : o ≠ 6 + 2 * s) : pE v s o j = v o j := vup_ne (fun z => h z.1)
theorem pSt_ne {v : Nat → Nat → Int} {s o j : Nat} (h : o ≠ 6 + 2 * s) (h2 : ¬ (o = 5 + 2 * s ∧ j = 5)) : pSt v s o j = v o j := by
  unfold pSt
  rw [vup_ne h2, pE_ne h]
theorem WF.pE {v : Nat → Nat → Int} (w : WF v) {s : Nat} (hs : (s : Int) < v 0 3) : WF (pE v s) := by
  have h6 := w.nS
  refine w.stn (s := s) (by omega) (fun o j _ h2 => pE_ne h2) (fun _ => ?_)
  obtain ⟨x1, x2, x3, x4, x5, x6⟩ := w.2.2.2.2.2.2.1 s hs
  unfold WFs
  have e : ∀ j, Jvm.Pilot.CSatelliteExchangeLaw_law_r1646_76d6fc.pE v s (5 + 2 * s) j = v (5 + 2 * s) j := fun j => pE_ne (by omega)
  rw [e, e, e, e, e, e, pE_ne (o := 0) (by omega)]
  refine ⟨x1, x2, x3, x4, x5, fun j hj => ?_⟩
  unfold Jvm.Pilot.CSatelliteExchangeLaw_law_r1646_76d6fc.pE
  by_cases ej : j = (v 0 0 % 64).toNat
  · rw [ej, vup_at]
    exact sStep_b
  · rw [vup_ne (fun z => ej z.2)]
    exact x6 j hj
theorem WF.pSt {v : Nat → Nat → Int} (w : WF v) {s : Nat} (hs : (s : Int) < v 0 3) : WF (pSt v s) := by
  have h6 := w.nS
  have w1 := w.pE hs
  have hs1 : (s : Int) < Jvm.Pilot.CSatelliteExchangeLaw_law_r1646_76d6fc.pE v s 0 3 := by rw [pE_ne (by omega)]; exact hs
  refine w1.stn (s := s) (by omega) (fun o j h1 h2 => vup_ne (fun z => h1 z.1)) (fun _ => ?_)
  obtain ⟨x1, x2, x3, x4, x5, x6⟩ := w1.2.2.2.2.2.2.1 s hs1
  unfold WFs Jvm.Pilot.CSatelliteExchangeLaw_law_r1646_76d6fc.pSt
  rw [vup_at, vup_ne (j := 5) (i := 1) (by omega), vup_ne (j := 5) (i := 2) (by omega), vup_ne (j := 5) (i := 3) (by omega), vup_ne (j := 5) (i := 4) (by omega), vup_ne (j := 5) (i := 6) (by omega), vup_ne (j := 5) (i := 0) (by omega)]
  exact ⟨x1, x2, x3, sNext_b w1 hs1 x4 _, x5, fun j hj => by rw [vup_ne (by omega)]; exact x6 j hj⟩
theorem pS_ne {v : Nat → Nat → Int} : ∀ (i o j : Nat), i ≤ 6 → (o < 5 ∨ 17 ≤ o) → zit pSt i v o j = v o j := by
  intro i
  induction i with
  | zero => intro o j _ _; rfl
  | succ i ih =>
    intro o j hi ho
    rw [zit_s, pSt_ne (by omega) (by omega)]
    exact ih o j (by omega) ho
theorem pS_6 {v : Nat → Nat → Int} : ∀ (i s : Nat), i ≤ 6 → zit pSt i v (5 + 2 * s) 6 = v (5 + 2 * s) 6 := by
  intro i
  induction i with
  | zero => intro s _; rfl
  | succ i ih =>
    intro s hi
    rw [zit_s, pSt_ne (by omega) (by omega)]
    exact ih s (by omega)
theorem pS_n {v : Nat → Nat → Int} {i : Nat} (hi : i ≤ 6) : nSt (zit pSt i v) = nSt v ∧ nCl (zit pSt i v) = nCl v := by
  unfold nSt nCl
  rw [pS_ne i 0 3 hi (by omega), pS_ne i 0 7 hi (by omega)]
  exact ⟨rfl, rfl⟩
theorem pS_wf {v : Nat → Nat → Int} (w : WF v) : ∀ i, i ≤ nSt v → WF (zit pSt i v) := by
  have hS := w.nS
  intro i
  induction i with
  | zero => exact fun _ => w
  | succ i ih =>
    intro hi
    rw [zit_s]
    exact (ih (by omega)).pSt (by rw [pS_ne i 0 3 (by omega) (by omega)]; omega)
section CL
variable {h : zH} {A : Nat}
theorem m_pst (hc : CV h A) (hf : 1 ≤ vw h.1 A 0 0) {K : Int → zH → Option (Unit × zH)} : ∀ (r i f : Nat) (g : zH), i + r = nSt (vw h.1 A) → r < f → vw g.1 A = zit pSt i (vw h.1 A) → Frm A h g →
    ∃ g', q_X4_passFrame_L12 A K f (i : Int) g = K (nSt (vw h.1 A) : Int) g' ∧ vw g'.1 A = zit pSt (nSt (vw h.1 A)) (vw h.1 A) ∧ Frm A h g' := by
  have w := hc.2
  have hS := w.nS
  intro r
  induction r with
  | zero =>
    intro i f g q1 q2 hv hF
    obtain ⟨f', rfl⟩ : ∃ f', f = f' + 1 := ⟨f - 1, by omega⟩
    have e : i = nSt (vw h.1 A) := by omega
    have hcg : CV g A := ⟨by rw [hF.1]; exact hc.1, by rw [hv]; exact pS_wf w i (by omega)⟩
    have en : nSt (vw g.1 A) = nSt (vw h.1 A) := by rw [hv]; exact (pS_n (by omega)).1
    refine ⟨g, ?_, by rw [← e]; exact hv, hF⟩
    rw [q_X4_passFrame_L12, a_n3 hcg, en, e, if_pos (Int.le_refl _)]
  | succ r ih =>
    intro i f g q1 q2 hv hF
    obtain ⟨f', rfl⟩ : ∃ f', f = f' + 1 := ⟨f - 1, by omega⟩
    have hcg : CV g A := ⟨by rw [hF.1]; exact hc.1, by rw [hv]; exact pS_wf w i (by omega)⟩
    have en : nSt (vw g.1 A) = nSt (vw h.1 A) := by rw [hv]; exact (pS_n (by omega)).1
    have ef : vw g.1 A 0 0 = vw h.1 A 0 0 := by rw [hv]; exact pS_ne i 0 0 (by omega) (by omega)
    have hi6 : i < 6 := by omega
    have hii : i < 1000000 := by omega
    have hni : ¬ (nSt (vw h.1 A) : Int) ≤ (i : Int) := by omega
    have hs : (i : Int) < vw g.1 A 0 3 := by rw [hcg.2.nS.1, en]; omega
    have hws := hcg.2.2.2.2.2.2.2.1 i hs
    have hset := hcg.2.set
    have hfr := w.1
    have htr := sTripD_b hws.1 hset.1
    have er : g.2 (A + (5 + 2 * i)) 7 = A + (6 + 2 * i) := hcg.1.er hi6
    have kt := e5_keep (h := g) (P := A + (5 + 2 * i)) (t := vw g.1 A 0 0) (trip := sTrip (vw g.1 A) i) (g := vw g.1 A 1 6) (d := vw g.1 A (5 + 2 * i) 2) (e := vw g.1 A (6 + 2 * i)) (by omega) htr hset.2.2.2.2.2.2 (a_s hi6) hws.2.1 (fun j hj => by rw [er]; exact a_e hi6) hws.2.2.2.2.2
    rw [er] at kt
    generalize hg4 : zput g (A + (6 + 2 * i)) (vw g.1 A 0 0 % 64).toNat (sStep (vw g.1 A (6 + 2 * i)) (vw g.1 A (5 + 2 * i) 2) (vw g.1 A 1 6) (sTrip (vw g.1 A) i) (vw g.1 A 0 0)) = g4 at kt
    have ev4 : vw g4.1 A = pE (vw g.1 A) i := by rw [← hg4, vw_put (by omega)]; rfl
    have r4 : g4.2 = g.2 := by rw [← hg4]; rfl
    have f4 : Frm A g g4 := by rw [← hg4]; exact Frm.rf.put (by omega)
    clear hg4
    have hc4 : CV g4 A := ⟨by rw [r4]; exact hcg.1, by rw [ev4]; exact hcg.2.pE hs⟩
    have hs4 : (i : Int) < vw g4.1 A 0 3 := by rw [ev4, pE_ne (by omega)]; exact hs
    have e5 : g4.1 (A + (5 + 2 * i)) 5 = vw g4.1 A (5 + 2 * i) 5 := a_s hi6
    have e0 : g4.1 A 0 = vw g4.1 A 0 0 := a_0 0
    have nx := e4_next hc4 hs4 (hc4.2.2.2.2.2.2.2.1 i hs4).2.2.2.1 (vw g4.1 A 0 0)
    have ev5 : vw (zput g4 (A + (5 + 2 * i)) 5 (sNext (vw g4.1 A) i (vw g4.1 A (5 + 2 * i) 5) (vw g4.1 A 0 0))).1 A = zit pSt (i + 1) (vw h.1 A) := by
      rw [vw_put (by omega), ev4, zit_s, ← hv]
      rfl
    obtain ⟨g', p1, p2, p3⟩ := ih (i + 1) f' _ (by omega) (by omega) ev5 (hF.tr (f4.put (by omega)))
    refine ⟨g', ?_, p2, p3⟩
    rw [q_X4_passFrame_L12, a_n3 hcg, en, if_neg hni]
    simp only [zlet_b]
    rw [zgpos hi6, Int.toNat_natCast, a_stn hcg, e4_trip hcg hs, zbp_some, a_0, a_set hcg, kt, zbd_some, e5, e0, nx, zbp_some, zw_s hii]
    exact p1
end CL
section OPS
variable {B : Nat}
/-- only the row of numbers may differ -/
def zNw (B : Nat) (h g : zH) : Prop := g.2 = h.2 ∧ ∀ q j, q ≠ B + 541 + 4 → g.1 q j = h.1 q j
theorem zNw.rf {h : zH} : zNw B h h := ⟨rfl, fun _ _ _ => rfl⟩
theorem zNw.tr {h g f : zH} (h1 : zNw B h g) (h2 : zNw B g f) : zNw B h f := ⟨h2.1.trans h1.1, fun a j p => (h2.2 a j p).trans (h1.2 a j p)⟩
theorem zNw.put {h g : zH} {j : Nat} {x : Int} (h1 : zNw B h g) : zNw B h (zput g (B + 541 + 4) j x) := ⟨h1.1, fun a i p => (zput_ne (fun z => p z.1)).trans (h1.2 a i p)⟩
theorem zNw.s4 {h g : zH} (h1 : zNw B h g) : zS4 B h g := ⟨h1.1, fun a j p _ _ => h1.2 a j p⟩
theorem zNw.told {h g : zH} (h1 : zNw B h g) : g.1 (B + 541 + 2) = h.1 (B + 541 + 2) := funext fun j => h1.2 _ _ (by omega)
theorem zNw.mv {h g : zH} {v u : Nat → Nat → Int} (h1 : zNw B h g) (hm : MV h (B + 541) v) (w : WF u) (m : MR u (g.1 (B + 541 + 4)) (h.1 (B + 541 + 2))) : MV g (B + 541) u := ⟨by rw [h1.1]; exact hm.1, w, by rw [h1.told]; exact m⟩
theorem m_pst8 {h : zH} {v : Nat → Nat → Int} (hm : MV h (B + 541) v) (hf : 1 ≤ v 0 0) {K : Int → zH → Option (Unit × zH)} : ∀ (r i f : Nat) (g : zH), i + r = nSt v → r < f → MV g (B + 541) (zit pSt i v) → zNw B h g →
    ∃ g', q_X8_passes_L19 (B + 541) (v 0 0) K f (i : Int) g = K (nSt v : Int) g' ∧ MV g' (B + 541) (zit pSt (nSt v) v) ∧ zNw B h g' := by
  have w := hm.2.1
  have hS := w.nS
  intro r
  induction r with
  | zero =>
    intro i f g q1 q2 hg hF
    obtain ⟨f', rfl⟩ : ∃ f', f = f' + 1 := ⟨f - 1, by omega⟩
    have e : i = nSt v := by omega
    refine ⟨g, ?_, by rw [← e]; exact hg, hF⟩
    rw [q_X8_passes_L19, m_n3 hg, (pS_n (by omega)).1, e, if_pos (Int.le_refl _)]
  | succ r ih =>
    intro i f g q1 q2 hg hF
    obtain ⟨f', rfl⟩ : ∃ f', f = f' + 1 := ⟨f - 1, by omega⟩
    have ef : zit pSt i v 0 0 = v 0 0 := pS_ne i 0 0 (by omega) (by omega)
    have e3 : zit pSt i v 0 3 = v 0 3 := pS_ne i 0 3 (by omega) (by omega)
    have hen : h.1 (h.2 (B + 541) 3) 62 = (nSt v : Int) := m_n3 hm
    have hgn : g.1 (g.2 (B + 541) 3) 62 = (nSt v : Int) := by rw [m_n3 hg, (pS_n (by omega)).1]
    have hn : zit pSt (i + 1) v = pSt (zit pSt i v) i := zit_s
    generalize zit pSt i v = u at hg ef e3 hn
    have hi6 : i < 6 := by omega
    have hii : i < 1000000 := by omega
    have hni : ¬ (nSt v : Int) ≤ (i : Int) := by omega
    have hs : (i : Int) < u 0 3 := by omega
    have wu := hg.2.1
    have hws := wu.2.2.2.2.2.2.1 i hs
    have hset := wu.set
    have hfr := w.1
    have ms := hg.2.2.2.2.2.2.2.2.1 i hs
    have hl := hg.1
    have n1 : g.1 (B + 541 + 4) 1 = u 1 0 := by rw [← hl.now]; exact m_set hg (j := 0) (by decide)
    have n7 : g.1 (B + 541 + 4) 7 = u 1 6 := by rw [← hl.now]; exact m_set hg (j := 6) (by decide)
    have st := e8_strays (h := g) (M := B + 541) (s := i) (t := v 0 0) (e := u (6 + 2 * i)) hl hi6 (by omega) hset.1 hset.2.2.2.2.2.2 hws.2.1 hws.1 n1 n7 ms.2.1 ms.2.2.1 ms.2.2.2.2.2.2.2 hws.2.2.2.2.2
    generalize hg3 : zput g (B + 541 + 4) (20 + 64 * i + (v 0 0 % 64).toNat) (sStep (u (6 + 2 * i)) (u (5 + 2 * i) 2) (u 1 6) (sTripD (u (5 + 2 * i) 1) (u 1 0)) (v 0 0)) = g3 at st
    have F3 : zNw B g g3 := by rw [← hg3]; exact zNw.rf.put
    have c3 : ∀ j, j ≠ 20 + 64 * i + (v 0 0 % 64).toNat → g3.1 (B + 541 + 4) j = g.1 (B + 541 + 4) j := fun j hj => by rw [← hg3, zput_ne (fun z => hj z.2)]
    have c3' : g3.1 (B + 541 + 4) (20 + 64 * i + (v 0 0 % 64).toNat) = sStep (u (6 + 2 * i)) (u (5 + 2 * i) 2) (u 1 6) (sTripD (u (5 + 2 * i) 1) (u 1 0)) (v 0 0) := by rw [← hg3, zput_self]
    clear hg3
    have w3 := wu.pE hs
    have pe : ∀ j, pE u i (5 + 2 * i) j = u (5 + 2 * i) j := fun j => pE_ne (by omega)
    have hm3 : MV g3 (B + 541) (pE u i) := by
      refine F3.mv hg w3 (hg.2.2.stn wu hi6 (fun o j _ h2 => pE_ne h2) (fun j h1 h2 h3 => c3 j (by omega)) (fun _ => ?_))
      obtain ⟨b1, b2, b3, b4, b5, b6, b7, b8⟩ := ms
      unfold MRs
      rw [pe, pe, pe, pe, pe, pe, pe, c3 _ (by omega), c3 _ (by omega)]
      refine ⟨b1, b2, b3, b4, b5, b6, b7, fun j hj => ?_⟩
      unfold pE
      rw [ef]
      by_cases ej : j = (v 0 0 % 64).toNat
      · rw [ej, vup_at, c3']
      · rw [vup_ne (fun z => ej z.2), c3 _ (by omega)]
        exact b8 j hj
    have hs3 : (i : Int) < pE u i 0 3 := by rw [pE_ne (by omega)]; exact hs
    have hp3 := (w3.2.2.2.2.2.2.1 i hs3).2.2.2.1
    have m8 : g3.1 (B + 541 + 4) (8 + i) = pE u i (5 + 2 * i) 5 := (hm3.2.2.2.2.2.2.2.2.1 i hs3).2.2.2.2.2.1
    have e0 : pE u i 0 0 = v 0 0 := by rw [pE_ne (by omega), ef]
    have mv := e8_moved hm3 hs3 hp3 (v 0 0)
    have F5 : zNw B g3 (zput g3 (B + 541 + 4) (8 + i) (sNext (pE u i) i (pE u i (5 + 2 * i) 5) (v 0 0))) := zNw.rf.put
    have hm5 : MV (zput g3 (B + 541 + 4) (8 + i) (sNext (pE u i) i (pE u i (5 + 2 * i) 5) (v 0 0))) (B + 541) (pSt u i) := by
      refine F5.mv hm3 (wu.pSt hs) (hm3.2.2.stn w3 hi6 (fun o j h1 _ => vup_ne (fun z => h1 z.1)) (fun j h1 _ _ => zput_ne (fun z => h1 z.2)) (fun _ => ?_))
      obtain ⟨b1, b2, b3, b4, b5, b6, b7, b8⟩ := hm3.2.2.2.2.2.2.2.2.1 i hs3
      unfold MRs pSt
      rw [vup_at, vup_ne (j := 5) (i := 0) (by omega), vup_ne (j := 5) (i := 1) (by omega), vup_ne (j := 5) (i := 2) (by omega), vup_ne (j := 5) (i := 3) (by omega), vup_ne (j := 5) (i := 4) (by omega), vup_ne (j := 5) (i := 6) (by omega), zput_self, zput_ne (by omega), e0]
      exact ⟨b1, b2, b3, b4, b5, rfl, b7, fun j hj => by rw [zput_ne (by omega), vup_ne (by omega)]; exact b8 j hj⟩
    obtain ⟨g', p1, p2, p3⟩ := ih (i + 1) f' _ (by omega) (by omega) (by rw [hn]; exact hm5) (hF.tr (F3.tr F5))
    refine ⟨g', ?_, p2, p3⟩
    have h8 : 8 + i < 597 := by omega
    have w8 : zw (8 + (i : Int)) = ((8 + i : Nat) : Int) := zw_c (c := 8) (Nat.lt_trans h8 (by decide))
    rw [q_X8_passes_L19, hgn, if_neg hni, st, zbd_some]
    simp only [zlet_b]
    rw [w8, zgpos h8, Int.toNat_natCast, hm3.1.now, m8, mv, zbp_some, zgpos h8, zw_s hii]
    exact p1
end OPS
