/-! Requesting and releasing. -/
theorem WF.fin {v : Nat → Nat → Int} (w : WF v) (k : Nat) : WF (vup v (25 + k) 5 2) := by
  refine w.call (k := k) (fun o j h => vup_ne (by omega)) (fun hk => ?_)
  have hw := w.2.2.2.2.2.2.2.2 k hk
  have q : ∀ o j, ¬ (o = 25 + k ∧ j = 5) → vup v (25 + k) 5 2 o j = v o j := fun o j h => vup_ne h
  obtain ⟨h0, h1, h2, h3, h4, h5, h6, h7, h8, h9, h10, h11⟩ := hw
  unfold WFc
  rw [vup_at, q 0 0 (by omega), q 0 3 (by omega), q _ 0 (by omega), q _ 1 (by omega), q _ 2 (by omega), q _ 3 (by omega), q _ 4 (by omega), q _ 8 (by omega), q _ 9 (by omega), q _ 10 (by omega)]
  exact ⟨h0, h1, h2, h3, h4, h5, Or.inr (Or.inr rfl), h7, h8, h9, trivial, fun z => by omega⟩
theorem MR.fin {v : Nat → Nat → Int} {N N' T : Nat → Int} {k : Nat} (m : MR v N T) (w : WF v) (hk : k < 16) (hN : ∀ i, i ≠ 405 + 12 * k + 5 → N' i = N i) (h5 : N' (405 + 12 * k + 5) = 2) : MR (vup v (25 + k) 5 2) N' T := by
  refine m.call w hk (fun o j h => vup_ne (by omega)) (fun i hi => hN i (by omega)) (fun hk7 => ?_)
  have q : ∀ o j, ¬ (o = 25 + k ∧ j = 5) → vup v (25 + k) 5 2 o j = v o j := fun o j h => vup_ne h
  have hp : ∀ j, j < 12 → j ≠ 5 → N' (405 + 12 * k + j) = N (405 + 12 * k + j) := fun j _ hj => hN _ (by omega)
  obtain ⟨h0, h1, h2, h3, h4, h5', h6, h7, h8, h9⟩ := m.2.2.2.2.2.2.2.2 k hk7
  unfold MRc
  rw [vup_at, q _ 0 (by omega), q _ 1 (by omega), q _ 2 (by omega), q _ 3 (by omega), q _ 4 (by omega), q _ 8 (by omega), q _ 9 (by omega), q _ 10 (by omega), h5, hN 4 (by omega), hN (405 + 12 * k) (by omega), hp 1 (by omega) (by omega), hp 2 (by omega) (by omega), hp 3 (by omega) (by omega), hp 4 (by omega) (by omega), hp 9 (by omega) (by omega), hp 10 (by omega) (by omega), hp 11 (by omega) (by omega)]
  exact ⟨h0, h1, h2, h3, h4, rfl, h6, h7, h8, fun z => by omega⟩
theorem fin_sep {v : Nat → Nat → Int} {k : Nat} (hs : zSep v) : zSep (vup v (25 + k) 5 2) := by
  have q : ∀ o j, ¬ (o = 25 + k ∧ j = 5) → vup v (25 + k) 5 2 o j = v o j := fun o j h => vup_ne h
  intro x y hx hy hxy x5 y5 hc
  have ex : x ≠ k := fun z => by rw [z, vup_at] at x5; omega
  have ey : y ≠ k := fun z => by rw [z, vup_at] at y5; omega
  unfold cfl at hc
  rw [q _ 5 (by omega)] at x5 y5
  rw [q _ 6 (by omega), q _ 6 (by omega), q _ 0 (by omega), q _ 0 (by omega), q _ 1 (by omega), q _ 1 (by omega)] at hc
  rw [q _ 7 (by omega), q _ 3 (by omega), q 1 1 (by omega), q _ 7 (by omega), q _ 3 (by omega)]
  rw [q 0 7 (by omega)] at hx hy
  exact hs x y hx hy hxy x5 y5 hc
theorem fin_wt {v : Nat → Nat → Int} {k : Nat} (hs : zWt v) : zWt (vup v (25 + k) 5 2) := by
  have q : ∀ o j, ¬ (o = 25 + k ∧ j = 5) → vup v (25 + k) 5 2 o j = v o j := fun o j h => vup_ne h
  intro x hx x5
  have ex : x ≠ k := fun z => by rw [z, vup_at] at x5; omega
  rw [q _ 5 (by omega)] at x5
  rw [q _ 9 (by omega)]
  rw [q 0 7 (by omega)] at hx
  exact hs x hx x5
section CL
variable {h : zH} {A : Nat}
theorem e4_serve (hc : CV h A) {c : Nat} {a : Nat → Nat} (hq : Que (vw h.1 A) c a) : ∃ (m : Nat) (h' : zH) (n : Int), q_X4_callsIn h A 0 = some (m : Int) ∧ q_X4_placeInOrder h A (m : Int) = some (n, h') ∧ Run a c (vw h.1 A) (vw h'.1 A) n ∧ Frm A h h' := by
  have w := hc.2
  have hn := w.nC
  obtain ⟨h', n, k1, k2, k3⟩ := e4_order hc (m := sIn (vw h.1 A) 0) (c := c) (a := a) (nset_16 hn.2) (Enu.congr hq (fun k hk => by
    have e : (sIn (vw h.1 A) 0).testBit k = sMk (vw h.1 A) 1 k := by
      unfold sIn
      rw [nset_bit, decide_eq_true hk, Bool.true_and]
      exact sIn_mk w 0 (by decide) k hk
    exact e.symm) (fun _ _ => rfl)) (fun i hi => by
    have := (hq.w w i hi).2
    omega)
  exact ⟨sIn (vw h.1 A) 0, h', n, e4_callsIn hc 0, k1, k2, k3⟩
end CL
section OPS
variable {B : Nat}
theorem chg_x {h g h1 x : zH} {np sh : Nat} (hI : zInv B h) (hk : Kpt B h g np sh) (c2 : h1.2 = g.2) (c1 : ∀ q j, ¬ (B + 1 ≤ q ∧ q < B + 42) → ¬ zScrt B q j → h1.1 q j = g.1 q j) (hx : zSame B h1 x) : MV x (B + 541) (vw h.1 (B + 1)) := by
  obtain ⟨K1, K2, K3, K4, K5, K6⟩ := hk
  have xx : ∀ q j, ¬ zScrt B q j → ¬ (B + 1 ≤ q ∧ q < B + 42) → ¬ (B + 87 ≤ q ∧ q < B + 497) → ¬ (q = B + 85 ∧ j = 0) → x.1 q j = h.1 q j := fun q j a b c d => by
    rw [hx.2 q j a, c1 q j b a, K6 q j c d]
  have e4 : x.1 (B + 541 + 4) = h.1 (B + 541 + 4) := funext fun j => xx _ _ (by unfold zScrt; omega) (by omega) (by omega) (by omega)
  have e2 : x.1 (B + 541 + 2) = h.1 (B + 541 + 2) := funext fun j => xx _ _ (by unfold zScrt; omega) (by omega) (by omega) (by omega)
  refine ⟨fun j => ?_, hI.wf, by rw [e4, e2]; exact hI.2.2.2.2.1⟩
  rw [hx.1, c2, K2 _ _ (by omega)]
  exact hI.mly j
theorem op_38 : zI_38 (zInv B) B (B + 541) (B + 552) := by
  intro h hI hG a1 r1
  have s1 : zSame B h (zput h (B + 541) 0 0) := zSame.rf.put sM0
  have hm := hI.mv.same s1
  have hw := hI.wf
  have hn := hw.nC
  by_cases hx : 0 ≤ a1 ∧ a1 < vw h.1 (B + 1) 0 7
  · obtain ⟨k, rfl⟩ : ∃ k : Nat, a1 = (k : Int) := ⟨a1.toNat, by omega⟩
    have hk16 : k < 16 := by omega
    have hb : 0 ≤ (k : Int) ∧ (k : Int) ≤ zw (h.1 (h.2 B 0) 7 - 1) := Classical.not_not.mp (fun z => (b_call hI).mp z hx)
    by_cases h5 : vw h.1 (B + 1) (25 + k) 5 = 2
    · refine ⟨zput h (B + 541) 0 0, ⟨-1, h, ?_, ?_⟩, hI.same s1⟩
      · unfold q_X7_release
        rw [e_inR hb.1 hb.2, zbp_some, if_neg one0, zgpos hk16, Int.toNat_natCast, hI.r0, hI.cly.cls, hI.cly.cl, ← vcl hk16, if_pos h5]
      · unfold q_X8_release
        simp only [zlet_b]
        rw [e8_isCall hm, if_pos hx, zbp_some, if_neg one0, m_5 hm hx.2, zbp_some, if_pos h5]
    · obtain ⟨np, sh, hkn⟩ := KNum.ex hI.2.2.1.1
      obtain ⟨g, k1, k2⟩ := e1_keep hI hkn
      obtain ⟨g1, g2, g3, _, _⟩ := kpt_cur hI k2
      have ev : vw (zput g (B + 1 + (25 + k)) 5 2).1 (B + 1) = vup (vw h.1 (B + 1)) (25 + k) 5 2 := by rw [vw_put (by omega), g2]
      have hc3 : CV (zput g (B + 1 + (25 + k)) 5 2) (B + 1) := ⟨g1.1, by rw [ev]; exact hw.fin k⟩
      obtain ⟨c, a, hq⟩ := Que.ex (vup (vw h.1 (B + 1)) (25 + k) 5 2)
      obtain ⟨m, h1, n, o1, o2, o3, o4⟩ := e4_serve hc3 (by rw [ev]; exact hq)
      rw [ev] at o3
      have hgood : Good (vw h1.1 (B + 1)) := hq.good (hw.fin k) o3 (fin_sep hI.2.2.2.1.2.1) (fin_wt hI.2.2.2.1.2.2.2)
      have hc1 : ∀ q j, ¬ (B + 1 ≤ q ∧ q < B + 42) → ¬ zScrt B q j → h1.1 q j = g.1 q j := fun q j hq _ => by rw [o4.2 q j (by omega), zput_ne (by omega)]
      have hc2 : h1.2 = g.2 := o4.1
      have hx1 : zSame B h1 (zput h1 (B + 541) 0 0) := zSame.rf.put sM0
      have hmx := chg_x hI k2 hc2 hc1 hx1
      obtain ⟨g8, p1, p2, p3, p4, p5⟩ := chg_op hI hkn k2 hc2 hc1 hx1
      have et : (zput g8 (B + 541 + 4) (405 + 12 * k + 5) 2).1 (B + 541 + 2) = g8.1 (B + 541 + 2) := funext fun i => zput_ne (by omega)
      have hm9 : MV (zput g8 (B + 541 + 4) (405 + 12 * k + 5) 2) (B + 541) (vup (vw h.1 (B + 1)) (25 + k) 5 2) := by
        refine ⟨p2.1, hw.fin k, ?_⟩
        rw [et]
        exact p2.2.2.fin hw hk16 (fun i hi => zput_ne (by omega)) zput_self
      obtain ⟨h2, y1, y2, y3⟩ := e8_serves hm9 (fin_wt hI.2.2.2.1.2.2.2) hq o3
      refine ⟨h2, ⟨n, h1, ?_, ?_⟩, p5 h2 (zS4.tr (g := zput g8 (B + 541 + 4) (405 + 12 * k + 5) 2) ⟨rfl, fun q i q1 _ _ => zput_ne (fun z => q1 z.1)⟩ y3) hgood y2⟩
      · unfold q_X7_release
        rw [e_inR hb.1 hb.2, zbp_some, if_neg one0, zgpos hk16, Int.toNat_natCast, hI.r0, hI.cly.cls, hI.cly.cl, ← vcl hk16, if_neg h5, hI.r3, k1, zbd_some, zgpos hk16]
        simp only [zlet_b]
        rw [g3, g1.1.cls, g1.1.cl, zput_2, g3, o1, zbp_some, o2, zbd_some]
      · unfold q_X8_release
        simp only [zlet_b]
        rw [e8_isCall hmx, if_pos hx, zbp_some, if_neg one0, m_5 hmx hx.2, zbp_some, if_neg h5, p1, zbd_some, e8_put (h := g8) p2.1 hk16 (j := 5) (J := 5) (by decide) rfl, zbd_some, y1, zbd_some]
  · refine ⟨zput h (B + 541) 0 0, ⟨-1, h, ?_, ?_⟩, hI.same s1⟩
    · unfold q_X7_release
      rw [e_inN ((b_call hI).mpr hx), zbp_some, if_pos rfl]
    · unfold q_X8_release
      simp only [zlet_b]
      rw [e8_isCall hm, if_neg hx, zbp_some, if_pos rfl]
theorem op_37 : zI_37 (zInv B) B (B + 541) (B + 552) := by
  intro h hI hG s r p sy ho r1 r2 r3 r4 r5
  have s1 : zSame B h (zput h (B + 541) 0 0) := zSame.rf.put sM0
  have hm := hI.mv.same s1
  have hw := hI.wf
  have hn := hw.nC
  have hset := hw.set
  have hS := hw.nS
  have cls7 : q_X7_request h B s r p sy ho = (if 0 ≤ s ∧ s < vw h.1 (B + 1) 0 3 then (if 0 ≤ r ∧ r < vw h.1 (B + 1) 0 3 then (if s = r then some (-1, h) else if 0 ≤ p ∧ p ≤ 9 then (if 1 ≤ sy ∧ sy ≤ 2000 then (if 1 ≤ ho ∧ ho ≤ 9999 then (if vw h.1 (B + 1) 0 7 < 16 then zbd (q_X1_keep h (B + 85) (B + 1)) (fun _ h7 => zbd (q_X4_addCall h7 (h7.2 B 0) s r p sy ho) (fun _ h9 => some (h7.1 (h7.2 B 0) 7, h9))) else some (-3, h)) else some (-2, h)) else some (-2, h)) else some (-2, h)) else some (-1, h)) else some (-1, h)) := by
    have bs : ∀ x : Int, q_X7_inRange h x 0 (zw (h.1 (h.2 B 0) 3 - 1)) = some (if 0 ≤ x ∧ x < vw h.1 (B + 1) 0 3 then 1 else 0) := fun x => by
      by_cases z : 0 ≤ x ∧ x < vw h.1 (B + 1) 0 3
      · have hb : 0 ≤ x ∧ x ≤ zw (h.1 (h.2 B 0) 3 - 1) := Classical.not_not.mp (fun y => (b_station hI).mp y z)
        rw [e_inR hb.1 hb.2, if_pos z]
      · rw [e_inN ((b_station hI).mpr z), if_neg z]
    unfold q_X7_request
    simp only [zlet_b]
    rw [bs s, zbp_some]
    by_cases c1 : 0 ≤ s ∧ s < vw h.1 (B + 1) 0 3
    · rw [if_pos c1, if_pos c1, if_neg one0, bs r, zbp_some]
      by_cases c2 : 0 ≤ r ∧ r < vw h.1 (B + 1) 0 3
      · rw [if_pos c2, if_pos c2, if_neg one0]
        by_cases c3 : s = r
        · rw [if_pos c3, if_pos c3]
        · rw [if_neg c3, if_neg c3]
          by_cases c4 : 0 ≤ p ∧ p ≤ 9
          · rw [e_inR c4.1 c4.2, zbp_some, if_neg one0, if_pos c4]
            by_cases c5 : 1 ≤ sy ∧ sy ≤ 2000
            · rw [e_inR c5.1 c5.2, zbp_some, if_neg one0, if_pos c5]
              by_cases c6 : 1 ≤ ho ∧ ho ≤ 9999
              · rw [e_inR c6.1 c6.2, zbp_some, if_neg one0, if_pos c6, hI.r0, hI.r3, ← vc0]
              · rw [e_inN c6, zbp_some, if_pos rfl, if_neg c6]
            · rw [e_inN c5, zbp_some, if_pos rfl, if_neg c5]
          · rw [e_inN c4, zbp_some, if_pos rfl, if_neg c4]
      · rw [if_neg c2, if_neg c2, if_pos rfl]
    · rw [if_neg c1, if_neg c1, if_pos rfl]
  have ref8 : ∀ y, MV (zput y (B + 541) 0 0) (B + 541) (vw h.1 (B + 1)) → q_X8_request y (B + 541) s r p sy ho = (if 0 ≤ s ∧ s < vw h.1 (B + 1) 0 3 then (if 0 ≤ r ∧ r < vw h.1 (B + 1) 0 3 then (if s = r then some (-1, zput y (B + 541) 0 0) else if 0 ≤ p ∧ p ≤ 9 then (if 1 ≤ sy ∧ sy ≤ 2000 then (if 1 ≤ ho ∧ ho ≤ 9999 then (if vw h.1 (B + 1) 0 7 < 16 then zbd (q_X8_keeps (zput y (B + 541) 0 0) (B + 541)) (fun _ h4 => zbd (q_X8_asks (zput h4 (B + 541) 25 (h4.1 (h4.2 (B + 541) 3) 64)) (B + 541) s r p sy ho) (fun x6 h7 => zbd (q_X8_assigns h7 (B + 541) x6) (fun _ h9 => some (x6, h9)))) else some (-3, zput y (B + 541) 0 0)) else some (-2, zput y (B + 541) 0 0)) else some (-2, zput y (B + 541) 0 0)) else some (-2, zput y (B + 541) 0 0)) else some (-1, zput y (B + 541) 0 0)) else some (-1, zput y (B + 541) 0 0)) := by
    intro y hmy
    have e7 : (zput y (B + 541) 0 0).1 ((zput y (B + 541) 0 0).2 (B + 541) 5) 404 = vw h.1 (B + 1) 0 7 := by rw [m_n7 hmy, hn.1]
    unfold q_X8_request
    simp only [zlet_b]
    rw [e8_isStation hmy, zbp_some]
    by_cases c1 : 0 ≤ s ∧ s < vw h.1 (B + 1) 0 3
    · rw [if_pos c1, if_pos c1, if_neg one0, e8_isStation hmy, zbp_some]
      by_cases c2 : 0 ≤ r ∧ r < vw h.1 (B + 1) 0 3
      · rw [if_pos c2, if_pos c2, if_neg one0]
        by_cases c3 : s = r
        · rw [if_pos c3, if_pos c3]
        · rw [if_neg c3, if_neg c3]
          by_cases c4 : 0 ≤ p ∧ p ≤ 9
          · rw [if_pos c4, if_neg (by omega), if_neg (by omega)]
            by_cases c5 : 1 ≤ sy ∧ sy ≤ 2000
            · rw [if_pos c5, if_neg (by omega), if_neg (by omega)]
              by_cases c6 : 1 ≤ ho ∧ ho ≤ 9999
              · rw [if_pos c6, if_neg (by omega), if_pos c6.2, e7]
                by_cases c7 : vw h.1 (B + 1) 0 7 < 16
                · rw [if_pos c7, if_neg (by omega)]
                · rw [if_neg c7, if_pos (by omega)]
              · rw [if_neg c6]
                by_cases c6a : ho < 1
                · rw [if_pos c6a]
                · rw [if_neg c6a, if_neg (by omega)]
            · rw [if_neg c5]
              by_cases c5a : sy < 1
              · rw [if_pos c5a]
              · rw [if_neg c5a, if_pos (by omega)]
          · rw [if_neg c4]
            by_cases c4a : p < 0
            · rw [if_pos c4a]
            · rw [if_neg c4a, if_pos (by omega)]
      · rw [if_neg c2, if_neg c2, if_pos rfl]
    · rw [if_neg c1, if_neg c1, if_pos rfl]
  rw [show zO_37 h B (B + 541) s r p sy ho = fun h2 => ∃ (v : Int) (h1 : zH), q_X7_request h B s r p sy ho = some (v, h1) ∧ q_X8_request h1 (B + 541) s r p sy ho = some (v, h2) from rfl]
  have ref0 := ref8 h hm
  rw [cls7]
  by_cases c1 : 0 ≤ s ∧ s < vw h.1 (B + 1) 0 3
  · rw [if_pos c1] at ref0 ⊢
    by_cases c2 : 0 ≤ r ∧ r < vw h.1 (B + 1) 0 3
    · rw [if_pos c2] at ref0 ⊢
      by_cases c3 : s = r
      · rw [if_pos c3] at ref0 ⊢
        exact ⟨_, ⟨_, _, rfl, ref0⟩, hI.same s1⟩
      · rw [if_neg c3] at ref0 ⊢
        by_cases c4 : 0 ≤ p ∧ p ≤ 9
        · rw [if_pos c4] at ref0 ⊢
          by_cases c5 : 1 ≤ sy ∧ sy ≤ 2000
          · rw [if_pos c5] at ref0 ⊢
            by_cases c6 : 1 ≤ ho ∧ ho ≤ 9999
            · rw [if_pos c6] at ref0 ⊢
              by_cases c7 : vw h.1 (B + 1) 0 7 < 16
              · rw [if_pos c7]
                obtain ⟨n, hn'⟩ : ∃ n : Nat, vw h.1 (B + 1) 0 7 = (n : Int) := ⟨_, hn.1⟩
                have h16 : n < 16 := by omega
                obtain ⟨np, sh, hkn⟩ := KNum.ex hI.2.2.1.1
                obtain ⟨g, k1, k2⟩ := e1_keep hI hkn
                obtain ⟨g1, g2, g3, _, _⟩ := kpt_cur hI k2
                obtain ⟨h1, x, o1, o2, o3⟩ := e4_addCall g1 (n := n) (by rw [g2]; exact hn') h16 (s := s) (r := r) (p := p) (sy := sy) (ho := ho) (by rw [g2]; exact c1) (by rw [g2]; exact c2) c3 c4 c5 c6
                rw [g2] at o3
                have hgood : Good (vw h1.1 (B + 1)) := new_good hI.2.2.2.1 hn' h16 c1 c2 c3 c4 ⟨by omega, by omega⟩ c6 o3
                have hc1 : ∀ q j, ¬ (B + 1 ≤ q ∧ q < B + 42) → ¬ zScrt B q j → h1.1 q j = g.1 q j := fun q j hq _ => o2.2 q j (by omega)
                have hc2 : h1.2 = g.2 := o2.1
                have hx1 : zSame B h1 (zput h1 (B + 541) 0 0) := zSame.rf.put sM0
                have hmx := chg_x hI k2 hc2 hc1 hx1
                obtain ⟨g8, p1, p2, p3, p4, p5⟩ := chg_op hI hkn k2 hc2 hc1 hx1
                have e64 : g8.1 (g8.2 (B + 541) 3) 64 = vw h.1 (B + 1) 0 1 := by rw [p2.1.told, p2.2.2.2.1]
                have hm9 : MVt (zput g8 (B + 541) 25 (vw h.1 (B + 1) 0 1)) (B + 541) (vw h.1 (B + 1)) (g8.1 (B + 541 + 2)) := MVt.same p2 (zSame.rf.put (by unfold zScrt; omega))
                obtain ⟨g10, y1, y2, y3, y4⟩ := e8_asks hm9 hn' h16 (s := s) (r := r) (p := p) (sy := sy) (ho := ho) c1 c2 c3 c4 c5 c6
                have e25 : g10.1 (B + 541) 25 = vnew (vw h.1 (B + 1)) n s r p (vw h.1 (B + 1) 1 3 + sy) ho 0 1 := by
                  rw [y4 _ _ (by omega), zput_self, vnew_ne (by omega) (by omega)]
                obtain ⟨h2, z1, z2, z3⟩ := e8_assigns y2 (k := n) (by rw [vnew_n]; omega) vnew_c.2.2.2.2.2.2.2.1 e25 o3
                have ref1 := ref8 h1 hmx
                rw [if_pos c1, if_pos c2, if_neg c3, if_pos c4, if_pos c5, if_pos c6, if_pos c7, p1, zbd_some, e64, y1, zbd_some, z1, zbd_some] at ref1
                refine ⟨h2, ⟨(n : Int), h1, ?_, ref1⟩, p5 h2 ?_ hgood ?_⟩
                · rw [k1, zbd_some, g3, o1, zbd_some, a_0, g2, hn']
                · refine zS4.tr (g := zput g8 (B + 541) 25 (vw h.1 (B + 1) 0 1)) ⟨rfl, fun q j _ _ z => zput_ne (by omega)⟩ (zS4.tr (g := g10) ⟨y3, fun q j q1 _ _ => y4 q j q1⟩ z3.s4)
                · have e2 : h2.1 (B + 541 + 2) = g8.1 (B + 541 + 2) := z3.same' (funext fun j => by rw [y4 _ _ (by omega), zput_ne (by omega)])
                  show MVt h2 (B + 541) _ (h2.1 (B + 541 + 2))
                  rw [e2]
                  exact z2
              · rw [if_neg c7] at ref0 ⊢
                exact ⟨_, ⟨_, _, rfl, ref0⟩, hI.same s1⟩
            · rw [if_neg c6] at ref0 ⊢
              exact ⟨_, ⟨_, _, rfl, ref0⟩, hI.same s1⟩
          · rw [if_neg c5] at ref0 ⊢
            exact ⟨_, ⟨_, _, rfl, ref0⟩, hI.same s1⟩
        · rw [if_neg c4] at ref0 ⊢
          exact ⟨_, ⟨_, _, rfl, ref0⟩, hI.same s1⟩
    · rw [if_neg c2] at ref0 ⊢
      exact ⟨_, ⟨_, _, rfl, ref0⟩, hI.same s1⟩
  · rw [if_neg c1] at ref0 ⊢
    exact ⟨_, ⟨_, _, rfl, ref0⟩, hI.same s1⟩
end OPS
