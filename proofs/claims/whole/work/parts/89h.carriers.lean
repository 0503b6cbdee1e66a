/-! The statements carriers and set. -/
theorem GI.none {v : Nat → Nat → Int} (h : v 0 7 = 0) : GI v := ⟨fun k l hk => by omega, fun k hk => by omega, fun k hk => by omega⟩
theorem WF.car {v : Nat → Nat → Int} {y : Int} (w : WF v) (h7 : v 0 7 = 0) (hy : 1 ≤ y ∧ y ≤ 4) : WF (vup v 0 1 y) := by
  have q : ∀ o j, ¬ (o = 0 ∧ j = 1) → vup v 0 1 y o j = v o j := fun o j h => vup_ne h
  have er : ∀ o, o ≠ 0 → vup v 0 1 y o = v o := fun o ho => funext fun j => q o j (fun z => ho z.1)
  obtain ⟨a1, a2, a3, a4, a5, a6, a7, a8, a9⟩ := w
  refine ⟨by rw [q 0 0 (by omega)]; exact a1, by rw [vup_at]; exact hy, by rw [q 0 3 (by omega)]; exact a3, by rw [q 0 5 (by omega)]; exact a4, by rw [q 0 7 (by omega)]; exact a5, by rw [er 1 (by omega)]; exact a6, fun s hs => ?_, fun r hr => ?_, fun k hk => ?_⟩
  · rw [q 0 3 (by omega)] at hs
    have := a7 s hs
    unfold WFs at this ⊢
    rw [er (5 + 2 * s) (by omega), er (6 + 2 * s) (by omega), q 0 0 (by omega)]
    exact this
  · rw [q 0 5 (by omega)] at hr
    have := a8 r hr
    unfold WFr at this ⊢
    rw [er (17 + r) (by omega), q 0 3 (by omega)]
    exact this
  · rw [q 0 7 (by omega)] at hk
    omega
theorem MR.car {v : Nat → Nat → Int} {N T T' : Nat → Int} {y : Int} (m : MR v N T) (h7 : v 0 7 = 0) (w : WF v) (hT : ∀ i, i ≠ 64 → T' i = T i) (hy : T' 64 = y) : MR (vup v 0 1 y) N T' := by
  have q : ∀ o j, ¬ (o = 0 ∧ j = 1) → vup v 0 1 y o j = v o j := fun o j h => vup_ne h
  have er : ∀ o, o ≠ 0 → vup v 0 1 y o = v o := fun o ho => funext fun j => q o j (fun z => ho z.1)
  have hS := w.nS
  have hR := w.nR
  obtain ⟨a1, a2, a3, a4, a5, a6, a7, a8, a9⟩ := m
  refine ⟨by rw [q 0 0 (by omega)]; exact a1, by rw [vup_at]; exact hy, by rw [q 0 3 (by omega), hT _ (by omega)]; exact a3, by rw [q 0 5 (by omega), hT _ (by omega)]; exact a4, by rw [q 0 7 (by omega)]; exact a5, by rw [er 1 (by omega)]; exact a6, fun s hs => ?_, fun r hr => ?_, fun k hk => ?_⟩
  · rw [q 0 3 (by omega)] at hs
    obtain ⟨b1, b2, b3, b4, b5, b6, b7, b8⟩ := a7 s hs
    unfold MRs
    rw [er (5 + 2 * s) (by omega), er (6 + 2 * s) (by omega), hT s (by omega), hT (6 + s) (by omega), hT (12 + s) (by omega), hT (18 + s) (by omega), hT (24 + s) (by omega)]
    exact ⟨b1, b2, b3, b4, b5, b6, b7, b8⟩
  · rw [q 0 5 (by omega)] at hr
    obtain ⟨b1, b2, b3, b4⟩ := a8 r hr
    unfold MRr
    rw [er (17 + r) (by omega), hT (30 + r) (by omega), hT (38 + r) (by omega), hT (46 + r) (by omega), hT (54 + r) (by omega)]
    exact ⟨b1, b2, b3, b4⟩
  · rw [q 0 7 (by omega)] at hk
    omega
theorem WF.set0 {v : Nat → Nat → Int} {j : Nat} {x : Int} (w : WF v) (h7 : v 0 7 = 0) (hx : zsV 0 j ≤ x ∧ x ≤ zsV 1 j) : WF (vup v 1 j x) := by
  have e0 : vup v 1 j x 0 = v 0 := funext fun i => vup_ne (by omega)
  have eo : ∀ o, o ≠ 1 → vup v 1 j x o = v o := fun o ho => funext fun i => vup_ne (by omega)
  obtain ⟨a1, a2, a3, a4, a5, a6, a7, a8, a9⟩ := w
  refine ⟨by rw [e0]; exact a1, by rw [e0]; exact a2, by rw [e0]; exact a3, by rw [e0]; exact a4, by rw [e0]; exact a5, fun i hi => ?_, fun s hs => ?_, fun r hr => ?_, fun l hl => ?_⟩
  · by_cases e : i = j
    · rw [e, vup_at]
      exact hx
    · rw [vup_ne (by omega)]
      exact a6 i hi
  · rw [e0] at hs
    unfold WFs
    rw [e0, eo _ (by omega), eo _ (by omega)]
    exact a7 s hs
  · rw [e0] at hr
    unfold WFr
    rw [e0, eo _ (by omega)]
    exact a8 r hr
  · rw [e0] at hl
    omega
theorem MR.set0 {v : Nat → Nat → Int} {N N' T : Nat → Int} {j : Nat} {x : Int} (m : MR v N T) (h7 : v 0 7 = 0) (hj : j < 7) (hN : ∀ i, i ≠ 1 + j → N' i = N i) (hx : N' (1 + j) = x) : MR (vup v 1 j x) N' T := by
  have e0 : vup v 1 j x 0 = v 0 := funext fun i => vup_ne (by omega)
  have eo : ∀ o, o ≠ 1 → vup v 1 j x o = v o := fun o ho => funext fun i => vup_ne (by omega)
  obtain ⟨a1, a2, a3, a4, a5, a6, a7, a8, a9⟩ := m
  refine ⟨by rw [e0, hN 0 (by omega)]; exact a1, by rw [e0]; exact a2, by rw [e0]; exact a3, by rw [e0]; exact a4, by rw [e0, hN 404 (by omega)]; exact a5, fun i hi => ?_, fun s hs => ?_, fun r hr => ?_, fun l hl => ?_⟩
  · by_cases e : i = j
    · rw [e, vup_at, hx]
    · rw [vup_ne (by omega), hN _ (by omega)]
      exact a6 i hi
  · rw [e0] at hs
    obtain ⟨b1, b2, b3, b4, b5, b6, b7, b8⟩ := a7 s hs
    unfold MRs
    rw [eo (5 + 2 * s) (by omega), eo (6 + 2 * s) (by omega)]
    exact ⟨b1, b2, b3, b4, b5, by rw [hN _ (by omega)]; exact b6, by rw [hN _ (by omega)]; exact b7, fun i hi => by rw [hN _ (by omega)]; exact b8 i hi⟩
  · rw [e0] at hr
    unfold MRr
    rw [eo _ (by omega)]
    exact a8 r hr
  · rw [e0] at hl
    omega
/-- a setting as a statement may change it -/
theorem set_good {v : Nat → Nat → Int} {j : Nat} {x : Int} (g : Good v) (hj : j < 7) (h7 : 4 ≤ j ∨ v 0 7 = 0) (hx : zsV 0 j ≤ x ∧ x ≤ zsV 1 j) : Good (vup v 1 j x) := by
  rcases h7 with h4 | h7
  · exact ⟨g.1.set1 h4 hj hx, Ceq.gi (v := v) ⟨⟨(vup_ne (by omega)).symm, (vup_ne (by omega)).symm, (vup_ne (by omega)).symm⟩, fun i hi => (vup_ne (by omega)).symm, fun k hk => ⟨fun i hi => (vup_ne (by omega)).symm, (vup_ne (by omega)).symm, fun _ => ⟨(vup_ne (by omega)).symm, (vup_ne (by omega)).symm⟩⟩⟩ g.2⟩
  · exact ⟨g.1.set0 h7 hx, GI.none (by rw [vup_ne (by omega)]; exact h7)⟩
section OPS
variable {B : Nat} {t : Nat → Int} {len : Nat}
def PSt (B : Nat) (t : Nat → Int) (len : Nat) (h g h' g' : zH) : Prop := LB B t len h' g' ∧ FcW B h h' ∧ FrW B g g' ∧ g'.1 (B + 541) 18 = zw (g.1 (B + 541) 18 + 1) ∧ (h'.1 (B + 497) 3 = 0 → h.1 (B + 497) 3 = 0 ∧ h.1 (B + 498) 5 < h'.1 (B + 498) 5)
theorem acc3 {U : Nat → Nat → Int} {cg sg : Int} {h g h' : zH} (hJ : LJ B t len U cg sg h g) (p : q_X2_accept h (B + 497) = some ((), h')) : h'.1 (B + 497) 3 = h.1 (B + 497) 3 := by
  by_cases z : h.1 (B + 497) 3 = 0
  · obtain ⟨j1, j2, j3, ⟨s, x, κ, tk⟩, j5, j6, j7⟩ := hJ.mode z
    obtain ⟨h2, g2, s', x', κ', p1, p2, p3, p4, p5, p6⟩ := j_step hJ.1.1 hJ.1.2.1 hJ.1.2.2.1 tk.1.1 tk.2.1.1 tk.2.2.1.2
    unfold q_X2_accept at p
    rw [if_pos z, hJ.1.2.2.2.1, p1, zbd_some] at p
    have e : h2 = h' := (Prod.mk.inj (Option.some.inj p)).2
    rw [← e]
    exact p3.2 _ _ (by omega)
  · rw [noacc z] at p
    have e : h = h' := (Prod.mk.inj (Option.some.inj p)).2
    rw [e]
/-- the end of a statement of which nothing more is read -/
theorem j_tailE {U' : Nat → Nat → Int} {cg' sg' : Int} {h g : zH} (hJ : LJ B t len U' cg' sg' h g) (z : ¬ h.1 (B + 497) 3 = 0) : ∃ g', q_X8_readStatement_J144 g (B + 541) = some ((), g') ∧ LB B t len h g' ∧ FrW B g g' ∧ g'.1 (B + 541) 18 = zw (g.1 (B + 541) 18 + 1) := by
  obtain ⟨h', g', p1, p2, p3, p4, p5, p6, p7⟩ := j_tail hJ (upd := fun h4 => some ((), h4)) (fun h4 _ z0 => absurd z0 z)
  have e : h = h' := by
    unfold q_X2_readSemicolon at p1
    rw [noacc z, nofail z] at p1
    by_cases q : h.1 (h.2 (B + 497) 0) 4 = 3
    · rw [if_pos q, zbd_some, zbd_some, if_neg z] at p1
      exact (Prod.mk.inj (Option.some.inj p1)).2
    · rw [if_neg q, zbd_some, noacc z, zbd_some, zbd_some, if_neg z] at p1
      exact (Prod.mk.inj (Option.some.inj p1)).2
  rw [← e] at p3
  exact ⟨g', p2, p3, p5, p6⟩
theorem m_carr {U : Nat → Nat → Int} {cg sg : Int} {h g : zH} (hJ : LJ B t len U cg sg h g) (hU : h.1 (B + 497) 3 = 0 → (U = vw h.1 (B + 500) ∧ U 0 7 = 0 ∧ Good U) ∧ h.1 (B + 497) 5 = sg ∧ (∃ n : Nat, n < 65536 ∧ sg = (n : Int)) ∧ h.1 (B + 498) 4 ≠ 0) :
    ∃ h' g', zbd (q_X2_accept h (B + 497)) (fun _ h1 => zbd (q_X2_readNumber h1 (B + 497) 1 4) (fun x2 h3 => zbd (q_X2_readSemicolon h3 (B + 497)) (fun _ h4 => if h4.1 (B + 497) 3 = 0 then some ((), zput (zput h4 (B + 497) 4 1) ((zput h4 (B + 497) 4 1).2 (B + 497) 1) 1 x2) else (some ((), h4))))) = some ((), h') ∧ zbd (q_X8_goOn (zput g (B + 541) 20 1) (B + 541)) (fun _ h4 => zbd (q_X8_integer h4 (B + 541) 1 4) (fun x5 h6 => q_X8_readStatement_J144 (zput h6 (h4.2 (B + 541) 4) 64 x5) (B + 541))) = some ((), g') ∧ PSt B t len h g h' g' := by
  have f0 : FrX B g (zput g (B + 541) 20 1) := ⟨rfl, fun q j z _ _ _ => zput_ne (fun y => z ⟨y.1, by omega⟩)⟩
  have J1 : LJ B t len U 1 sg h (zput g (B + 541) 20 1) := hJ.chg f0 (fun z => by
    have J0 := hJ.mode z
    refine ⟨J0.2.2.2.2.1.keep rfl (funext fun i => zput_ne (by omega)) (funext fun i => zput_ne (by omega)), zput_self, ?_⟩
    rw [zput_ne (by omega)]
    exact J0.2.2.2.2.2.2)
  obtain ⟨h1, g1, a1, a2, a3, a4, a5, a6⟩ := j_accept J1
  obtain ⟨h2, g2, y, y', b1, b2, b3, b4, b5, b6⟩ := j_num a3 (lo := 1) (hi := 4) (lo' := 1) (hi' := 4) (fun _ => ⟨rfl, rfl, by decide, by decide, by decide⟩)
  have e4 : g1.2 (B + 541) 4 = B + 541 + 3 := a3.1.2.2.2.2.2.2 4
  have f2 : FrX B g2 (zput g2 (B + 541 + 3) 64 y') := ⟨rfl, fun q j _ z _ _ => zput_ne (fun w => z w.1)⟩
  have pr : h2.1 (B + 497) 3 = 0 → h.1 (B + 497) 3 = 0 ∧ h.1 (B + 498) 5 < h2.1 (B + 498) 5 := fun z => by
    obtain ⟨⟨c1, c2⟩, _⟩ := b6 z
    obtain ⟨d1, d2, d3⟩ := a6 c1
    exact ⟨d1, Int.lt_of_lt_of_le (d3 (hU d1).2.2.2) c2⟩
  have fP : FcP B h h2 := a4.tr b4
  have J3 : LJ B t len (vup U 0 1 y) 1 sg h2 (zput g2 (B + 541 + 3) 64 y') := b3.chg f2 (fun z => by
    have J0 := b3.mode z
    obtain ⟨_, ey, y1, y4⟩ := b6 z
    obtain ⟨⟨u1, u2, u3⟩, _⟩ := hU (pr z).1
    obtain ⟨⟨m1, m2, m3⟩, m4⟩ := J0.2.2.2.2.1
    have r4 : (zput g2 (B + 541 + 3) 64 y').1 (B + 541 + 4) = g2.1 (B + 541 + 4) := funext fun i => zput_ne (by omega)
    refine ⟨⟨⟨m1, m2.car u2 ⟨y1, y4⟩, ?_⟩, fun s hs hu => ?_⟩, ?_, ?_⟩
    · rw [r4]
      exact m3.car u2 m2 (fun i hi => zput_ne (fun w => hi w.2)) (by rw [zput_self]; exact ey.symm)
    · rw [r4]
      rw [vup_ne (by omega)] at hu
      exact m4 s hs hu
    · rw [zput_ne (by omega)]; exact J0.2.2.2.2.2.1
    · rw [zput_ne (by omega)]; exact J0.2.2.2.2.2.2)
  obtain ⟨h', g', k1, k2, k3, k4, k5, k6, k7⟩ := j_tail J3 (upd := fun h4 => some ((), zput (zput h4 (B + 497) 4 1) ((zput h4 (B + 497) 4 1).2 (B + 497) 1) 1 y)) (fun h4 fp z0 z4 => by
    obtain ⟨⟨u1, u2, u3⟩, u4, u5, _⟩ := hU (pr z0).1
    obtain ⟨_, ey, y1, y4⟩ := b6 z0
    have rA : (zput h4 (B + 497) 4 1).2 (B + 497) 1 = B + 500 := by rw [zput_2, fp.1, fP.1]; exact hJ.1.2.2.2.2.1
    have ev : vw h4.1 (B + 500) = U := by rw [fp.view, fP.view]; exact u1.symm
    rw [rA]
    refine ⟨_, rfl, ⟨rfl, fun q j z1 z2 => by rw [zput_ne (by omega), zput_ne (by omega)]⟩, ?_, ?_, ?_, ⟨u3.1.car u2 ⟨y1, y4⟩, GI.none (by rw [vup_ne (by omega)]; exact u2)⟩, u5⟩
    · rw [vw_put0]
      have : vw (zput h4 (B + 497) 4 1).1 (B + 500) = vw h4.1 (B + 500) := vw_ext fun o ho j => zput_ne (by omega)
      rw [this, ev]
    · rw [zput_ne (by omega), zput_self]
    · rw [zput_ne (by omega), zput_ne (by omega), fp.2 _ _ (by omega) (by omega), fP.2 _ _ (by omega) (by omega)]
      exact u4)
  refine ⟨h', g', ?_, ?_, k3, fP.w.tr k4, (f0.w.tr (a5.tr b5).w).tr (f2.w.tr k5), ?_, fun z => ?_⟩
  · rw [a1, zbd_some, b1, zbd_some]
    exact k1
  · rw [a2, zbd_some, b2, zbd_some, e4]
    exact k2
  · rw [k6, zput_ne (by omega), (a5.tr b5).2 _ _ (by omega), zput_ne (by omega)]
  · obtain ⟨c1, c2⟩ := k7 z
    exact ⟨(pr c1).1, Int.lt_of_lt_of_le (pr c1).2 c2⟩
theorem j_carriers {h g : zH} (hB : LB B t len h g) (h0 : h.1 (B + 497) 3 = 0) (hk : h.1 (B + 498) 4 ≠ 0) : ∃ h' g', q_X2_readCarriers h (B + 497) = some ((), h') ∧ q_X8_readStatement_J15 g (B + 541) 0 = some ((), g') ∧ PSt B t len h g h' g' := by
  obtain ⟨hJ, hG⟩ := hB
  obtain ⟨g0, n, n1, n2⟩ := hG h0
  have J0 := hJ.mode h0
  have hC := hJ.1
  have rA := hC.2.2.2.2.1
  have cg : g.1 (B + 541) 20 = h.1 (B + 497) 4 := J0.2.2.2.2.2.1
  have hmv := J0.2.2.2.2.1.1
  have e7 : h.1 (B + 500) 7 = vw h.1 (B + 500) 0 7 := a_0 7
  have e404 : g.1 (g.2 (B + 541) 5) 404 = vw h.1 (B + 500) 0 7 := by rw [hmv.1.now]; exact hmv.2.2.2.2.2.2.1
  have w7 := g0.1.2.2.2.2.1
  unfold q_X2_readCarriers q_X8_readStatement_J15
  simp only [zlet_b]
  rw [rA, e7, if_pos trivial, cg]
  have bad : ∀ c : Int, c < 0 → ∃ h1 g1, q_X2_fail h (B + 497) c = some ((), h1) ∧ q_X8_failsIf g (B + 541) 1 c = some ((), g1) ∧ ¬ h1.1 (B + 497) 3 = 0 ∧ ¬ g1.1 (B + 541) 15 = 0 ∧ LJ B t len (vw h.1 (B + 500)) (h.1 (B + 497) 4) (h.1 (B + 497) 5) h1 g1 ∧ FcP B h h1 ∧ FrP B g g1 := fun c hc => by
    obtain ⟨h1, g1, f1, f2, f3, f4, f5, f6⟩ := j_fail hJ hc
    have J2 : LJ B t len (vw h.1 (B + 500)) (h.1 (B + 497) 4) (h.1 (B + 497) 5) h1 g1 := ⟨f3, Or.inr f4⟩
    obtain ⟨e, e0, e1, e2, _⟩ := f4
    exact ⟨h1, g1, f1, f2, by omega, by omega, J2, f5, f6⟩
  have post : ∀ h1 g1 h' g', FcP B h h1 → FrP B g g1 → PSt B t len h1 g1 h' g' → (h1.1 (B + 497) 3 = 0 → h1 = h) → PSt B t len h g h' g' := fun h1 g1 h' g' f5 f6 p pe => by
    obtain ⟨p1, p2, p3, p4, p5⟩ := p
    refine ⟨p1, f5.w.tr p2, f6.w.tr p3, by rw [p4, f6.2 _ _ (by omega)], fun z => ?_⟩
    obtain ⟨c1, c2⟩ := p5 z
    have e := pe c1
    rw [e] at c2
    rw [← e]
    exact ⟨c1, by rw [e]; exact c2⟩
  have badc : ∀ c : Int, c < 0 → ∃ h1 g1, q_X2_fail h (B + 497) c = some ((), h1) ∧ q_X8_failsIf g (B + 541) 1 c = some ((), g1) ∧ ¬ g1.1 (B + 541) 15 = 0 ∧ ∃ h' g', zbd (q_X2_accept h1 (B + 497)) (fun _ h1 => zbd (q_X2_readNumber h1 (B + 497) 1 4) (fun x2 h3 => zbd (q_X2_readSemicolon h3 (B + 497)) (fun _ h4 => if h4.1 (B + 497) 3 = 0 then some ((), zput (zput h4 (B + 497) 4 1) ((zput h4 (B + 497) 4 1).2 (B + 497) 1) 1 x2) else (some ((), h4))))) = some ((), h') ∧ zbd (q_X8_goOn (zput g1 (B + 541) 20 1) (B + 541)) (fun _ h4 => zbd (q_X8_integer h4 (B + 541) 1 4) (fun x5 h6 => q_X8_readStatement_J144 (zput h6 (h4.2 (B + 541) 4) 64 x5) (B + 541))) = some ((), g') ∧ PSt B t len h g h' g' := fun c hc => by
    obtain ⟨h1, g1, f1, f2, f3, f4, f5, f6, f7⟩ := bad c hc
    obtain ⟨h', g', p1, p2, p3⟩ := m_carr f5 (fun z => absurd z f3)
    exact ⟨h1, g1, f1, f2, f4, h', g', p1, p2, post h1 g1 h' g' f6 f7 p3 (fun z => absurd z f3)⟩
  by_cases c0 : h.1 (B + 497) 4 = 0
  · rw [if_pos c0, c0, j_ok, zbd_some, e404]
    by_cases c7 : vw h.1 (B + 500) 0 7 ≤ 0
    · rw [if_pos c7, if_pos c7]
      unfold q_X8_readStatement_J79
      rw [j_ok, zbd_some]
      simp only [zlet_b]
      exact m_carr hJ (fun _ => ⟨⟨rfl, by omega, g0⟩, rfl, ⟨n, n1, n2⟩, hk⟩)
    · obtain ⟨h1, g1, f1, f2, f4, h', g', p1, p2, p3⟩ := badc (-15) (by decide)
      rw [if_neg c7, if_neg c7, f1, zbd_some]
      unfold q_X8_readStatement_J79
      rw [f2, zbd_some]
      simp only [zlet_b]
      exact ⟨h', g', p1, p2, p3⟩
  · obtain ⟨h1, g1, f1, f2, f4, h', g', p1, p2, p3⟩ := badc (-14) (by decide)
    have ef : q_X8_failsIf g (B + 541) (h.1 (B + 497) 4) (-14) = some ((), g1) := by
      rw [← f2]
      unfold q_X8_failsIf
      rw [if_neg c0, if_neg one0]
    rw [if_neg c0, f1, zbd_some, ef, zbd_some]
    have j79 : ∀ y : Int, q_X8_readStatement_J79 g1 (B + 541) y (B + 541) = some ((), g') := fun y => by
      unfold q_X8_readStatement_J79
      rw [nofails f4, zbd_some]
      simp only [zlet_b]
      exact p2
    rw [j79, j79]
    refine ⟨h', g', p1, ?_, p3⟩
    split <;> rfl
end OPS
