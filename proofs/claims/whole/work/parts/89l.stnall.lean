/-! The statement station: from its word on. -/
section OPS
variable {B : Nat} {t : Nat → Int} {len : Nat}
def StaF (B : Nat) (h : zH) : Option (Unit × zH) := zbd (q_X2_accept h (B + 497)) (fun _ h1 => zbd (q_X2_readNewName h1 (B + 497)) (fun x2 h3 => zbd (q_X2_readNumber h3 (B + 497) 0 5000) (fun x4 h5 => if h5.1 (h5.2 (B + 497) 0) 4 = 4 then zbd (q_X2_accept h5 (B + 497)) (fun _ h15 => StaC B (-1) h15 x2 x4) else StaC B 1 h5 x2 x4)))
def StaG (B : Nat) (g : zH) : Option (Unit × zH) := zbd (q_X8_goOn g (B + 541)) (fun _ h2 => zbd (q_X8_seesName h2 (B + 541)) (fun _ h3 => if h3.1 (B + 541) 15 = 0 then (zbp (q_X8_found h3 (h3.2 (B + 541) 4) (h3.1 (B + 541) 14)) (fun x32 => if x32 = (-1) then (q_X8_readStation_J59 h3 (B + 541) 0 (B + 541)) else (q_X8_readStation_J59 h3 (B + 541) 1 (B + 541)))) else (q_X8_readStation_J59 h3 (B + 541) 0 (B + 541))))
theorem m_stF {U : Nat → Nat → Int} {cg sg : Int} {h g : zH} (hJ : LJ B t len U cg sg h g) (hU : h.1 (B + 497) 3 = 0 → (U = vw h.1 (B + 500) ∧ U 0 3 < 6 ∧ Good U) ∧ (h.1 (B + 497) 4 = cg ∧ h.1 (B + 497) 5 = sg) ∧ (∃ n : Nat, n < 65536 ∧ sg = (n : Int)) ∧ h.1 (B + 498) 4 ≠ 0) :
    ∃ h' g', StaF B h = some ((), h') ∧ zbd (StaG B g) (fun _ h11 => q_X8_readStatement_J144 h11 (B + 541)) = some ((), g') ∧ PSt B t len h g h' g' := by
  obtain ⟨h1, g1, a1, a2, a3, a4, a5, a6⟩ := j_accept hJ
  have hU1 : h1.1 (B + 497) 3 = 0 → U = vw h1.1 (B + 500) := fun z => by rw [a4.view]; exact (hU (a6 z).1).1.1
  obtain ⟨h2, g2, y, b1, b2, b3, b4, b5, b6⟩ := j_newName a3 hU1
  obtain ⟨h3, g3, w, w', c1, c2, c3, c4, c5, c6⟩ := j_num b3 (lo := 0) (hi := 5000) (lo' := 0) (hi' := 5000) (fun _ => ⟨rfl, rfl, by decide, by decide, by decide⟩)
  have fP : FcP B h h3 := a4.tr (b4.tr c4)
  have fR : FrN B g g3 := a5.n.tr (b5.tr c5.n)
  have r0 : h3.2 (B + 497) 0 = B + 498 := c3.1.2.2.2.1
  have pr : h3.1 (B + 497) 3 = 0 → (h.1 (B + 497) 3 = 0 ∧ h.1 (B + 498) 5 < h3.1 (B + 498) 5) ∧ g3.1 (B + 541) 14 = y ∧ w = w' ∧ 0 ≤ w ∧ w ≤ 5000 := fun z => by
    obtain ⟨⟨d1, d2⟩, d3, d4, d5⟩ := c6 z
    obtain ⟨f1, f2, f3⟩ := b6 d1
    obtain ⟨k1, k2, k3⟩ := a6 f1
    have := k3 (hU k1).2.2.2
    exact ⟨⟨k1, by omega⟩, by rw [c5.2 _ _ (by omega)]; exact f3, d3, d4, d5⟩
  -- the latitude, with or without its sign
  have tail : ∀ (σ i2 : Int) (h4 g4 : zH), LJ B t len U cg sg h4 g4 → FcP B h3 h4 → FrP B g3 g4 → (h4.1 (B + 497) 3 = 0 → h3.1 (B + 497) 3 = 0 ∧ h3.1 (B + 498) 5 ≤ h4.1 (B + 498) 5 ∧ ((σ = 1 ∧ i2 = 0) ∨ (σ = -1 ∧ i2 = 1))) → ∃ h' g', StaC B σ h4 y w = some ((), h') ∧ zbd (q_X8_readStation_J106 g4 (B + 541) w' i2) (fun _ h11 => q_X8_readStatement_J144 h11 (B + 541)) = some ((), g') ∧ PSt B t len h g h' g' := by
    intro σ i2 h4 g4 J4 f4 r4 p4
    obtain ⟨h', g', k1, k2, k3, k4, k5, k6, k7⟩ := m_stn J4 (σ := σ) (i2 := i2) (x2 := y) (x4 := w) (x4' := w') (fun z => by
      obtain ⟨d1, d2, d3⟩ := p4 z
      obtain ⟨⟨f1, f2⟩, f3, f4', f5, f6⟩ := pr d1
      obtain ⟨⟨u1, u2, u3⟩, ⟨u4, u5⟩, u6, u7⟩ := hU f1
      refine ⟨⟨by rw [f4.view, fP.view]; exact u1, u2, u3⟩, ⟨?_, ?_⟩, u6, ?_, ⟨f4', f5, f6⟩, d3⟩
      · rw [f4.2 _ _ (by omega) (by omega), fP.2 _ _ (by omega) (by omega)]; exact u4
      · rw [f4.2 _ _ (by omega) (by omega), fP.2 _ _ (by omega) (by omega)]; exact u5
      · rw [r4.2 _ _ (by omega)]; exact f3)
    refine ⟨h', g', k1, k2, k3, fP.w.tr (f4.w.tr k4), fR.w.tr (r4.w.tr k5), by rw [k6, r4.2 _ _ (by omega), fR.2 _ _ (by omega)], fun z => ?_⟩
    obtain ⟨d1, d2⟩ := k7 z
    obtain ⟨d3, d4, _⟩ := p4 d1
    obtain ⟨⟨f1, f2⟩, _⟩ := pr d3
    exact ⟨f1, by omega⟩
  unfold StaF StaG
  rw [a1, zbd_some, b1, zbd_some, c1, zbd_some, r0, a2, zbd_some, b2]
  unfold J59c
  rw [c2, zbd_some]
  have j97 : ∀ g' : zH, q_X8_readStation_J97 g' (B + 541) w' 0 = q_X8_readStation_J106 g' (B + 541) w' 0 := fun g' => by
    unfold q_X8_readStation_J97 q_X8_readStation_J106
    rw [if_pos rfl]
  have j971 : ∀ g' : zH, q_X8_readStation_J97 g' (B + 541) w' 1 = zbd (q_X8_goOn g' (B + 541)) (fun _ h22 => q_X8_readStation_J106 h22 (B + 541) w' 1) := fun g' => by
    unfold q_X8_readStation_J97
    rw [if_neg one0]
  by_cases z : h3.1 (B + 497) 3 = 0
  · have J0 := c3.mode z
    have i15 : g3.1 (B + 541) 15 = 0 := J0.2.1
    obtain ⟨s, x, κ, tk⟩ := J0.2.2.2.1
    have hk := kr_i κ tk.2.2.2.1
    have ek : h3.1 (B + 498) 4 = κ := tk.1.2.1
    have er : g3.1 (B + 541) 12 = kr κ := tk.2.1.2.2
    rw [if_pos i15]
    by_cases q : κ = 4
    · have q4 : h3.1 (B + 498) 4 = 4 := by rw [ek, q]; rfl
      have q12 : g3.1 (B + 541) 12 = 3 := by rw [er]; exact hk.2.2.2.1.mpr q
      obtain ⟨h4, g4, p1, p2, p3, p4, p5, p6⟩ := j_accept c3
      obtain ⟨h', g', k1, k2, k3⟩ := tail (-1) 1 h4 g4 p3 p4 p5 (fun y => ⟨(p6 y).1, (p6 y).2.1, Or.inr ⟨rfl, rfl⟩⟩)
      rw [if_pos q4, if_pos q12, j971, p1, zbd_some, p2, zbd_some]
      exact ⟨h', g', k1, k2, k3⟩
    · have q4 : ¬ h3.1 (B + 498) 4 = 4 := by rw [ek]; omega
      have q12 : ¬ g3.1 (B + 541) 12 = 3 := by rw [er]; exact fun y => q (hk.2.2.2.1.mp y)
      obtain ⟨h', g', k1, k2, k3⟩ := tail 1 0 h3 g3 c3 FcP.rf FrP.rf (fun y => ⟨y, Int.le_refl _, Or.inl ⟨rfl, rfl⟩⟩)
      rw [if_neg q4, if_neg q12, j97]
      exact ⟨h', g', k1, k2, k3⟩
  · have i15 : ¬ g3.1 (B + 541) 15 = 0 := fun y => z (c3.e0.mpr y)
    rw [if_neg i15, noacc z, zbd_some, j97]
    by_cases q4 : h3.1 (B + 498) 4 = 4
    · obtain ⟨h', g', k1, k2, k3⟩ := tail (-1) 0 h3 g3 c3 FcP.rf FrP.rf (fun y => absurd y z)
      rw [if_pos q4]
      exact ⟨h', g', k1, k2, k3⟩
    · obtain ⟨h', g', k1, k2, k3⟩ := tail 1 0 h3 g3 c3 FcP.rf FrP.rf (fun y => absurd y z)
      rw [if_neg q4]
      exact ⟨h', g', k1, k2, k3⟩
theorem PSt.of {h g h1 g1 h' g' : zH} (f5 : FcP B h h1) (f6 : FrP B g g1) (p : PSt B t len h1 g1 h' g') (pe : h1.1 (B + 497) 3 = 0 → h1 = h) : PSt B t len h g h' g' := by
  obtain ⟨p1, p2, p3, p4, p5⟩ := p
  refine ⟨p1, f5.w.tr p2, f6.w.tr p3, by rw [p4, f6.2 _ _ (by omega)], fun z => ?_⟩
  obtain ⟨c1, c2⟩ := p5 z
  have e := pe c1
  rw [e] at c2
  rw [← e]
  exact ⟨c1, by rw [e]; exact c2⟩
/-- a failure at the word of a statement -/
theorem m_bad {U : Nat → Nat → Int} {cg sg : Int} {h g : zH} (hJ : LJ B t len U cg sg h g) {c : Int} (hc : c < 0) : ∃ h1 g1, q_X2_fail h (B + 497) c = some ((), h1) ∧ q_X8_failsIf g (B + 541) 1 c = some ((), g1) ∧ ¬ h1.1 (B + 497) 3 = 0 ∧ LJ B t len U cg sg h1 g1 ∧ FcP B h h1 ∧ FrP B g g1 := by
  obtain ⟨h2, g2, f1, f2, f3, f4, f5, f6⟩ := j_fail hJ hc
  have J2 : LJ B t len U cg sg h2 g2 := ⟨f3, Or.inr f4⟩
  obtain ⟨e, e0, e1, e2, _⟩ := f4
  exact ⟨h2, g2, f1, f2, by omega, J2, f5, f6⟩
theorem j_stn {h g : zH} (hB : LB B t len h g) (h0 : h.1 (B + 497) 3 = 0) (hk : h.1 (B + 498) 4 ≠ 0) : ∃ h' g', q_X2_readStation h (B + 497) = some ((), h') ∧ q_X8_readStatement_J15 g (B + 541) 1 = some ((), g') ∧ PSt B t len h g h' g' := by
  obtain ⟨hJ, hG⟩ := hB
  obtain ⟨gd, n, n1, n2⟩ := hG h0
  have J0 := hJ.mode h0
  have hC := hJ.1
  have rA : h.2 (B + 497) 1 = B + 500 := hC.2.2.2.2.1
  have hmv := J0.2.2.2.2.1.1
  have e3 : h.1 (B + 500) 3 = vw h.1 (B + 500) 0 3 := a_0 3
  have e62 : g.1 (g.2 (B + 541) 4) 62 = vw h.1 (B + 500) 0 3 := by rw [hC.2.2.2.2.2.2 4]; exact hmv.2.2.2.2.1
  have w3 := gd.1.2.2.1
  have cls : q_X2_readStation h (B + 497) = if vw h.1 (B + 500) 0 3 < 6 then StaF B h else zbd (q_X2_fail h (B + 497) ((-16))) (fun _ h25 => StaF B h25) := by
    unfold q_X2_readStation
    rw [rA, e3]
    rfl
  have ref : q_X8_readStatement_J15 g (B + 541) 1 = if vw h.1 (B + 500) 0 3 = 6 then zbd (zbd (q_X8_failsIf g (B + 541) 1 (-16)) (fun _ h1 => StaG B h1)) (fun _ h11 => q_X8_readStatement_J144 h11 (B + 541)) else zbd (zbd (q_X8_failsIf g (B + 541) 0 (-16)) (fun _ h1 => StaG B h1)) (fun _ h11 => q_X8_readStatement_J144 h11 (B + 541)) := by
    unfold q_X8_readStatement_J15
    rw [if_neg one0, if_pos rfl]
    unfold q_X8_readStation
    rw [e62]
    by_cases q : vw h.1 (B + 500) 0 3 = 6
    · rw [if_pos q, if_pos q]
      rfl
    · rw [if_neg q, if_neg q]
      rfl
  rw [cls, ref]
  by_cases q : vw h.1 (B + 500) 0 3 < 6
  · have q6 : ¬ vw h.1 (B + 500) 0 3 = 6 := by omega
    rw [if_pos q, if_neg q6, j_ok, zbd_some]
    exact m_stF hJ (fun _ => ⟨⟨rfl, q, gd⟩, ⟨rfl, rfl⟩, ⟨n, n1, n2⟩, hk⟩)
  · have q6 : vw h.1 (B + 500) 0 3 = 6 := by omega
    obtain ⟨h1, g1, f1, f2, f3, f4, f5, f6⟩ := m_bad hJ (c := -16) (by decide)
    obtain ⟨h', g', p1, p2, p3⟩ := m_stF f4 (fun z => absurd z f3)
    rw [if_neg q, if_pos q6, f1, zbd_some, f2, zbd_some]
    exact ⟨h', g', p1, p2, PSt.of f5 f6 p3 (fun z => absurd z f3)⟩
end OPS
