/-! The statement station. -/
section OPS
variable {B : Nat} {t : Nat → Int} {len : Nat}
def StaC (B : Nat) (σ : Int) (h : zH) (x2 x4 : Int) : Option (Unit × zH) := zbd (q_X2_readNumber h (B + 497) 0 50) (fun x16 h17 => zbd (q_X2_readNumber h17 (B + 497) 0 999) (fun x19 h20 => zbd (q_X2_readNumber h20 (B + 497) x19 999) (fun x21 h22 => zbd (q_X2_readSemicolon h22 (B + 497)) (fun _ h23 => if h23.1 (B + 497) 3 = 0 then (zbd (q_X4_addStation h23 (h23.2 (B + 497) 1) x2 x4 (zw (σ * x16)) x19 x21) (fun _ h24 => some ((), h24))) else (some ((), h23))))))
theorem m_stn {U : Nat → Nat → Int} {cg sg : Int} {h g : zH} (hJ : LJ B t len U cg sg h g) {σ i2 x2 x4 x4' : Int} (hU : h.1 (B + 497) 3 = 0 → (U = vw h.1 (B + 500) ∧ U 0 3 < 6 ∧ Good U) ∧ (h.1 (B + 497) 4 = cg ∧ h.1 (B + 497) 5 = sg) ∧ (∃ n : Nat, n < 65536 ∧ sg = (n : Int)) ∧ g.1 (B + 541) 14 = x2 ∧ (x4 = x4' ∧ 0 ≤ x4 ∧ x4 ≤ 5000) ∧ ((σ = 1 ∧ i2 = 0) ∨ (σ = -1 ∧ i2 = 1))) :
    ∃ h' g', StaC B σ h x2 x4 = some ((), h') ∧ zbd (q_X8_readStation_J106 g (B + 541) x4' i2) (fun _ h11 => q_X8_readStatement_J144 h11 (B + 541)) = some ((), g') ∧ LB B t len h' g' ∧ FcW B h h' ∧ FrW B g g' ∧ g'.1 (B + 541) 18 = zw (g.1 (B + 541) 18 + 1) ∧ (h'.1 (B + 497) 3 = 0 → h.1 (B + 497) 3 = 0 ∧ h.1 (B + 498) 5 ≤ h'.1 (B + 498) 5) := by
  obtain ⟨h1, g1, y1, y1', a1, a2, a3, a4, a5, a6⟩ := j_num hJ (lo := 0) (hi := 50) (lo' := 0) (hi' := 50) (fun _ => ⟨rfl, rfl, by decide, by decide, by decide⟩)
  obtain ⟨h2, g2, y2, y2', b1, b2, b3, b4, b5, b6⟩ := j_num a3 (lo := 0) (hi := 999) (lo' := 0) (hi' := 999) (fun _ => ⟨rfl, rfl, by decide, by decide, by decide⟩)
  have q3 : h2.1 (B + 497) 3 = 0 → y2 = y2' ∧ (999 : Int) = 999 ∧ 0 ≤ y2 ∧ y2 ≤ 9999 ∧ (999 : Int) ≤ 9999 := fun z => by
    obtain ⟨_, e1, e2, e3⟩ := b6 z
    exact ⟨e1, rfl, e2, by omega, by decide⟩
  obtain ⟨h3, g3, y3, y3', c1, c2, c3, c4, c5, c6⟩ := j_num b3 (lo := y2) (hi := 999) (lo' := y2') (hi' := 999) q3
  have fP : FcP B h h3 := a4.tr (b4.tr c4)
  have fR : FrP B g g3 := a5.tr (b5.tr c5)
  have pr : h3.1 (B + 497) 3 = 0 → (h.1 (B + 497) 3 = 0 ∧ h.1 (B + 498) 5 ≤ h3.1 (B + 498) 5) ∧ (y1 = y1' ∧ y2 = y2' ∧ y3 = y3') ∧ (0 ≤ y1 ∧ y1 ≤ 50) ∧ (0 ≤ y2 ∧ y2 ≤ y3 ∧ y3 ≤ 999) := fun z => by
    obtain ⟨⟨d1, d2⟩, d3, d4, d5⟩ := c6 z
    obtain ⟨⟨f1, f2⟩, f3, f4, f5⟩ := b6 d1
    obtain ⟨⟨k1, k2⟩, k3, k4, k5⟩ := a6 f1
    exact ⟨⟨k1, by omega⟩, ⟨k3, f3, d3⟩, ⟨k4, k5⟩, ⟨f4, d4, d5⟩⟩
  have e4 : ∀ g' : zH, g'.2 = g.2 → g'.2 (B + 541) 4 = B + 541 + 3 := fun g' e => by rw [e]; exact hJ.1.2.2.2.2.2.2 4
  have e5 : ∀ g' : zH, g'.2 = g.2 → g'.2 (B + 541) 5 = B + 541 + 4 := fun g' e => by rw [e]; exact hJ.1.2.2.2.2.2.2 5
  by_cases z : h3.1 (B + 497) 3 = 0
  · obtain ⟨⟨z0, z5⟩, ⟨v1, v2, v3⟩, w1, w2⟩ := pr z
    obtain ⟨⟨u1, u2, u3⟩, ⟨u4, u5⟩, u6, u7, ⟨u8, u9⟩, u10⟩ := hU z0
    subst v1 v2 v3 u8
    have J0 := c3.mode z
    obtain ⟨⟨m1, m2, m3⟩, m4⟩ := J0.2.2.2.2.1
    obtain ⟨hn, hn6⟩ := u3.1.nS
    have n6 : nSt U < 6 := by omega
    generalize nSt U = n at hn hn6 n6
    have t62 : g3.1 (B + 541 + 3) 62 = (n : Int) := by rw [← hn]; exact m3.2.2.1
    have x14 : g3.1 (B + 541) 14 = x2 := by rw [fR.2 _ _ (by omega)]; exact u7
    have zn6 : ∀ _ : Unit, zw (6 + (n : Int)) = ((6 + n : Nat) : Int) := fun _ => zw_c (c := 6) (i := n) (by omega)
    have zn12 : ∀ _ : Unit, zw (12 + (n : Int)) = ((12 + n : Nat) : Int) := fun _ => zw_c (c := 12) (i := n) (by omega)
    have zn18 : ∀ _ : Unit, zw (18 + (n : Int)) = ((18 + n : Nat) : Int) := fun _ => zw_c (c := 18) (i := n) (by omega)
    have zn24 : ∀ _ : Unit, zw (24 + (n : Int)) = ((24 + n : Nat) : Int) := fun _ => zw_c (c := 24) (i := n) (by omega)
    have zn8 : ∀ _ : Unit, zw (8 + (n : Int)) = ((8 + n : Nat) : Int) := fun _ => zw_c (c := 8) (i := n) (by omega)
    have hs : ∃ s0 : Int, (∀ _ : Unit, zw (σ * y1) = s0) ∧ (-50 ≤ s0 ∧ s0 ≤ 50) ∧ ∀ g' : zH, (if i2 = 0 then (q_X8_readStation_J195 g' (B + 541) y2 y3 (n : Int) y1 ((12 + n : Nat) : Int) (B + 541 + 3)) else (q_X8_readStation_J195 g' (B + 541) y2 y3 (n : Int) (zw (-y1)) ((12 + n : Nat) : Int) (B + 541 + 3))) = q_X8_readStation_J195 g' (B + 541) y2 y3 (n : Int) s0 ((12 + n : Nat) : Int) (B + 541 + 3) := by
      rcases u10 with ⟨s1, s2⟩ | ⟨s1, s2⟩
      · subst s1 s2
        have hb : -50 ≤ y1 ∧ y1 ≤ 50 := by omega
        have hR : zR y1 := by unfold zR; omega
        have e : zw (1 * y1) = y1 := by rw [Int.one_mul, zw_id hR]
        exact ⟨y1, fun _ => e, hb, fun g' => if_pos rfl⟩
      · subst s1 s2
        have hb : -50 ≤ -y1 ∧ -y1 ≤ 50 := by omega
        have hR : zR (-y1) := by unfold zR; omega
        have e : zw (-1 * y1) = -y1 := by rw [Int.neg_one_mul, zw_id hR]
        have e' : zw (-y1) = -y1 := zw_id hR
        exact ⟨-y1, fun _ => e, hb, fun g' => by rw [if_neg one0, e']⟩
    obtain ⟨s0, hs1, hs2, hs3⟩ := hs
    have g1 : Good (vsn U n x2 x4 s0 y2 y3) := sts_good u3 hn n6 u9 hs2 w2
    let gT := zput (zput (zput (zput (zput (zput (zput g3 (B + 541 + 3) n x2) (B + 541 + 3) (6 + n) x4) (B + 541 + 3) (12 + n) s0) (B + 541 + 3) (18 + n) y2) (B + 541 + 3) (24 + n) y3) (B + 541 + 4) (8 + n) y2) (B + 541 + 3) 62 ((n + 1 : Nat) : Int)
    have fT : FrX B g3 gT := ⟨rfl, fun q j z1 z2 z3 z4 => by
      show (zput _ _ _ _).1 q j = _
      rw [zput_ne (by omega), zput_ne (by omega), zput_ne (by omega), zput_ne (by omega), zput_ne (by omega), zput_ne (by omega), zput_ne (by omega)]⟩
    have ref : q_X8_readStation_J106 g (B + 541) x4 i2 = some ((), gT) := by
      unfold q_X8_readStation_J106
      have f2 : g3.2 = g.2 := fR.1
      have i15 : g3.1 (B + 541) 15 = 0 := J0.2.1
      have n0 : ∀ _ : Unit, zw (0 + (n : Int)) = (n : Int) := fun _ => zw_c (c := 0) (i := n) (by omega) |>.trans (by rw [Nat.zero_add])
      have nn1 : n < 65 := by omega
      have nn2 : 6 + n < 65 := by omega
      have nn3 : 12 + n < 65 := by omega
      have nn4 : 18 + n < 65 := by omega
      have nn5 : 24 + n < 65 := by omega
      have nn6 : 8 + n < 597 := by omega
      rw [a2, zbd_some, b2, zbd_some, c2, zbd_some, if_pos i15]
      simp only [zlet_b]
      rw [e4 g3 f2, t62, n0 (), zgpos nn1, Int.toNat_natCast, x14, zn6 (), zgpos nn2, Int.toNat_natCast]
      have p4 : ∀ (k : zH) (j : Nat) (x : Int), k.2 = g.2 → (zput k (B + 541 + 3) j x).2 = g.2 := fun k j x e => e
      have r1 := e4 (zput g3 (B + 541 + 3) n x2) f2
      rw [r1]
      have r2 := e4 (zput (zput g3 (B + 541 + 3) n x2) (B + 541 + 3) (6 + n) x4) f2
      rw [r2, zn12 ()]
      refine (hs3 _).trans ?_
      unfold q_X8_readStation_J195
      simp only [zlet_b]
      rw [zgpos nn3, Int.toNat_natCast, zn18 (), zgpos nn4, Int.toNat_natCast]
      have r3 := e4 (zput (zput (zput g3 (B + 541 + 3) n x2) (B + 541 + 3) (6 + n) x4) (B + 541 + 3) (12 + n) s0) f2
      rw [r3, zn24 (), zgpos nn5, Int.toNat_natCast]
      have r4 := e4 (zput (zput (zput (zput g3 (B + 541 + 3) n x2) (B + 541 + 3) (6 + n) x4) (B + 541 + 3) (12 + n) s0) (B + 541 + 3) (18 + n) y2) f2
      rw [r4, zn8 (), zgpos nn6, Int.toNat_natCast]
      have r5 := e5 (zput (zput (zput (zput (zput g3 (B + 541 + 3) n x2) (B + 541 + 3) (6 + n) x4) (B + 541 + 3) (12 + n) s0) (B + 541 + 3) (18 + n) y2) (B + 541 + 3) (24 + n) y3) f2
      rw [r5]
      have r6 := e4 (zput (zput (zput (zput (zput (zput g3 (B + 541 + 3) n x2) (B + 541 + 3) (6 + n) x4) (B + 541 + 3) (12 + n) s0) (B + 541 + 3) (18 + n) y2) (B + 541 + 3) (24 + n) y3) (B + 541 + 4) (8 + n) y2) f2
      rw [r6, zput_ne (a := B + 541 + 4) (by omega), zput_ne (j := 24 + n) (by omega), zput_ne (j := 18 + n) (by omega), zput_ne (j := 12 + n) (by omega), zput_ne (j := 6 + n) (by omega), zput_ne (j := n) (by omega), t62, zw_s (by omega)]
    have J3 : LJ B t len (vsn U n x2 x4 s0 y2 y3) cg sg h3 gT := c3.chg fT (fun _ => by
      have T3 : ∀ i, gT.1 (B + 541 + 3) i = if i = 62 then ((n + 1 : Nat) : Int) else if i = 24 + n then y3 else if i = 18 + n then y2 else if i = 12 + n then s0 else if i = 6 + n then x4 else if i = n then x2 else g3.1 (B + 541 + 3) i := fun i => by
        show (zput _ _ _ _).1 (B + 541 + 3) i = _
        by_cases q1 : i = 62
        · rw [if_pos q1, q1, zput_self]
        · rw [if_neg q1, zput_ne (by omega), zput_ne (by omega)]
          by_cases q2 : i = 24 + n
          · rw [if_pos q2, q2, zput_self]
          · rw [if_neg q2, zput_ne (by omega)]
            by_cases q3 : i = 18 + n
            · rw [if_pos q3, q3, zput_self]
            · rw [if_neg q3, zput_ne (by omega)]
              by_cases q4 : i = 12 + n
              · rw [if_pos q4, q4, zput_self]
              · rw [if_neg q4, zput_ne (by omega)]
                by_cases q5 : i = 6 + n
                · rw [if_pos q5, q5, zput_self]
                · rw [if_neg q5, zput_ne (by omega)]
                  by_cases q6 : i = n
                  · rw [if_pos q6, q6, zput_self]
                  · rw [if_neg q6, zput_ne (by omega)]
      have N4 : ∀ i, i ≠ 8 + n → gT.1 (B + 541 + 4) i = g3.1 (B + 541 + 4) i := fun i hi => by
        show (zput _ _ _ _).1 (B + 541 + 4) i = _
        rw [zput_ne (by omega), zput_ne (by omega), zput_ne (by omega), zput_ne (by omega), zput_ne (by omega), zput_ne (by omega), zput_ne (by omega)]
      have N8 : gT.1 (B + 541 + 4) (8 + n) = y2 := by
        show (zput _ _ _ _).1 (B + 541 + 4) (8 + n) = _
        rw [zput_ne (by omega), zput_self]
      obtain ⟨k1, k2⟩ := m4 n n6 (by omega)
      refine ⟨⟨⟨m1, g1.1, m3.sts u3.1 hn n6 (fun i i1 i2 i3 i4 i5 i6 => by rw [T3, if_neg i1, if_neg i6, if_neg i5, if_neg i4, if_neg i3, if_neg i2]) N4 (by rw [T3, if_pos rfl]) (by rw [T3, if_neg (by omega), if_neg (by omega), if_neg (by omega), if_neg (by omega), if_neg (by omega), if_pos rfl]) (by rw [T3, if_neg (by omega), if_neg (by omega), if_neg (by omega), if_neg (by omega), if_pos rfl]) (by rw [T3, if_neg (by omega), if_neg (by omega), if_neg (by omega), if_pos rfl]) (by rw [T3, if_neg (by omega), if_neg (by omega), if_pos rfl]) (by rw [T3, if_neg (by omega), if_pos rfl]) N8 k1 k2⟩, fun s hs hu => ?_⟩, ?_, ?_⟩
      · rw [vsn_n] at hu
        obtain ⟨o1, o2⟩ := m4 s hs (by omega)
        refine ⟨?_, fun i hi => ?_⟩
        · rw [N4 _ (by omega)]; exact o1
        · rw [N4 _ (by omega)]; exact o2 i hi
      · show (zput _ _ _ _).1 (B + 541) 20 = _
        rw [zput_ne (by omega), zput_ne (by omega), zput_ne (by omega), zput_ne (by omega), zput_ne (by omega), zput_ne (by omega), zput_ne (by omega)]
        exact J0.2.2.2.2.2.1
      · show (zput _ _ _ _).1 (B + 541) 19 = _
        rw [zput_ne (by omega), zput_ne (by omega), zput_ne (by omega), zput_ne (by omega), zput_ne (by omega), zput_ne (by omega), zput_ne (by omega)]
        exact J0.2.2.2.2.2.2)
    obtain ⟨h', g', k1, k2, k3, k4, k5, k6, k7⟩ := j_tail J3 (upd := fun h23 => zbd (q_X4_addStation h23 (h23.2 (B + 497) 1) x2 x4 s0 y2 y3) (fun _ h24 => some ((), h24))) (fun h4 fp _ z4 => by
      have rA : h4.2 (B + 497) 1 = B + 500 := by rw [fp.1, fP.1]; exact hJ.1.2.2.2.2.1
      have cl : cly h4.2 (B + 500) := by rw [fp.1, fP.1]; exact hJ.1.2.2.2.2.2.1.1
      have ev : vw h4.1 (B + 500) = U := by rw [fp.view, fP.view]; exact u1.symm
      have n3 : h4.1 (B + 500) 3 = (n : Int) := by rw [← hn, ← ev]; exact a_0 3
      obtain ⟨h5, p1, p2, p3, p4⟩ := e4_addStation cl n3 n6 (a := x2) (b := x4) (c := s0) (d := y2) (e := y3)
      rw [rA, p1, zbd_some]
      refine ⟨h5, rfl, ⟨p2, fun q j z1 z2 => p4 q j (by omega)⟩, by rw [p3, ev], ?_, ?_, g1, u6⟩
      · rw [p4 _ _ (by omega), fp.2 _ _ (by omega) (by omega), fP.2 _ _ (by omega) (by omega)]
        exact u4
      · rw [p4 _ _ (by omega), fp.2 _ _ (by omega) (by omega), fP.2 _ _ (by omega) (by omega)]
        exact u5)
    refine ⟨h', g', ?_, ?_, k3, fP.w.tr k4, fR.w.tr (fT.w.tr k5), ?_, fun zz => ?_⟩
    · unfold StaC
      rw [a1, zbd_some, b1, zbd_some, c1, zbd_some, hs1 ()]
      exact k1
    · rw [ref, zbd_some]
      exact k2
    · have : gT.1 (B + 541) 18 = g3.1 (B + 541) 18 := by
        show (zput _ _ _ _).1 (B + 541) 18 = _
        rw [zput_ne (by omega), zput_ne (by omega), zput_ne (by omega), zput_ne (by omega), zput_ne (by omega), zput_ne (by omega), zput_ne (by omega)]
      rw [k6, this, fR.2 _ _ (by omega)]
    · obtain ⟨d1, d2⟩ := k7 zz
      exact ⟨z0, Int.le_trans z5 d2⟩
  · have i15 : ¬ g3.1 (B + 541) 15 = 0 := fun w => z (c3.e0.mpr w)
    obtain ⟨h', g', k1, k2, k3, k4, k5, k6, k7⟩ := j_tail c3 (upd := fun h23 => zbd (q_X4_addStation h23 (h23.2 (B + 497) 1) x2 x4 (zw (σ * y1)) y2 y3) (fun _ h24 => some ((), h24))) (fun h4 fp z0 z4 => absurd z0 z)
    refine ⟨h', g', ?_, ?_, k3, fP.w.tr k4, fR.w.tr k5, by rw [k6, fR.2 _ _ (by omega)], fun zz => absurd (k7 zz).1 z⟩
    · unfold StaC
      rw [a1, zbd_some, b1, zbd_some, c1, zbd_some]
      exact k1
    · unfold q_X8_readStation_J106
      rw [a2, zbd_some, b2, zbd_some, c2, zbd_some, if_neg i15, zbd_some]
      exact k2
end OPS
