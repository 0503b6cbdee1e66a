/-! The statement set. -/
section OPS
variable {B : Nat} {t : Nat → Int} {len : Nat}
theorem FrX.tr {g g' g'' : zH} (a : FrX B g g') (b : FrX B g' g'') : FrX B g g'' := ⟨b.1.trans a.1, fun q j z1 z2 z3 z4 => (b.2 q j z1 z2 z3 z4).trans (a.2 q j z1 z2 z3 z4)⟩
theorem noint {g : zH} (z : ¬ g.1 (B + 541) 15 = 0) (lo hi : Int) : q_X8_integer g (B + 541) lo hi = some (lo, g) := by
  unfold q_X8_integer
  simp only [nofails z, nogo z, zbd_some, zlet_b]
  rw [if_neg z]
  split
  · split
    · rfl
    · split <;> rfl
  · split
    · rfl
    · split <;> rfl
def SetC (B j : Nat) (h : zH) : Option (Unit × zH) := zbd (q_X2_accept h (B + 497)) (fun _ h3 => zbd (q_X2_readNumber h3 (B + 497) (zsV 0 j) (zsV 1 j)) (fun x4 h5 => zbd (q_X2_readSemicolon h5 (B + 497)) (fun _ h6 => if h6.1 (B + 497) 3 = 0 then some ((), zput (zput h6 (B + 497) 5 (zor (h6.1 (B + 497) 5) (zshl 1 (j : Int)))) ((zput h6 (B + 497) 5 (zor (h6.1 (B + 497) 5) (zshl 1 (j : Int)))).2 ((zput h6 (B + 497) 5 (zor (h6.1 (B + 497) 5) (zshl 1 (j : Int)))).2 (B + 497) 1) 2) j x4) else some ((), h6))))
def SetR (B j : Nat) (g : zH) : Option (Unit × zH) := zbd (q_X8_goOn (zput g (B + 541) 19 (zor (g.1 (B + 541) 19) (zshl 1 (j : Int)))) (B + 541)) (fun _ h6 => zbp (q_X8_leastOf h6 (j : Int)) (fun x7 => zbp (q_X8_mostOf h6 (j : Int)) (fun x8 => zbd (q_X8_integer h6 (B + 541) x7 x8) (fun x9 h10 => some ((), zput h10 (h6.2 (B + 541) 5) (1 + j) x9)))))
theorem SetC_eq {h : zH} {j : Nat} (hj : j < 7) : zbd (q_X2_accept h (B + 497)) (fun _ h3 => zgi 7 (j : Int) (zgi 7 (j : Int) (zbd (q_X2_readNumber h3 (B + 497) (zsV 0 (j : Int).toNat) (zsV 1 (j : Int).toNat)) (fun x4 h5 => zbd (q_X2_readSemicolon h5 (B + 497)) (fun _ h6 => if h6.1 (B + 497) 3 = 0 then (zlet (zput h6 (B + 497) 5 (zor (h6.1 (B + 497) 5) (zshl 1 (j : Int)))) (fun h7 => zgi 7 (j : Int) (zlet (zput h7 (h7.2 (h7.2 (B + 497) 1) 2) (j : Int).toNat x4) (fun h8 => some ((), h8))))) else (some ((), h6))))))) = SetC B j h := by
  have a0 : (0 : Int) ≤ (j : Int) := by omega
  have a1 : (j : Int) < ((7 : Nat) : Int) := by omega
  simp only [zgi_pos a0 a1, Int.toNat_natCast, zlet_b]
  rfl
theorem SetR_eq {g : zH} {j : Nat} (hj : j < 7) {c : Int} (hf : q_X8_failsIf g (B + 541) c (-15) = some ((), g)) : q_X8_readSet_J107 g (B + 541) (j : Int) c (B + 541) = SetR B j g := by
  have e : zw (1 + (j : Int)) = ((1 + j : Nat) : Int) := zw_c (c := 1) (i := j) (by omega)
  have a0 : (0 : Int) ≤ ((1 + j : Nat) : Int) := by omega
  have a1 : ((1 + j : Nat) : Int) < ((597 : Nat) : Int) := by omega
  unfold q_X8_readSet_J107
  rw [hf, zbd_some]
  simp only [e, zgi_pos a0 a1, Int.toNat_natCast, zlet_b]
  rfl
theorem m_setE {U : Nat → Nat → Int} {cg sg : Int} {h g : zH} (hJ : LJ B t len U cg sg h g) (z : ¬ h.1 (B + 497) 3 = 0) {j : Nat} (hj : j < 7) : ∃ g', zbd (SetR B j g) (fun _ h14 => q_X8_readStatement_J144 h14 (B + 541)) = some ((), g') ∧ LB B t len h g' ∧ FrW B g g' ∧ g'.1 (B + 541) 18 = zw (g.1 (B + 541) 18 + 1) := by
  have z15 : ¬ g.1 (B + 541) 15 = 0 := fun w => z (hJ.e0.mpr w)
  have z16 : ∀ x : Int, ¬ (zput g (B + 541) 19 x).1 (B + 541) 15 = 0 := fun x => by rw [zput_ne (by omega)]; exact z15
  have e5 : g.2 (B + 541) 5 = B + 541 + 4 := hJ.1.2.2.2.2.2.2 5
  unfold SetR
  rw [nogo (z16 _), zbd_some, e8_leastOf j hj rfl, zbp_some, e8_mostOf j hj rfl, zbp_some, noint (z16 _), zbd_some, zbd_some]
  have e5' : ∀ x : Int, (zput g (B + 541) 19 x).2 (B + 541) 5 = B + 541 + 4 := fun x => e5
  rw [e5']
  have f : FrX B g (zput (zput g (B + 541) 19 (zor (g.1 (B + 541) 19) (zshl 1 (j : Int)))) (B + 541 + 4) (1 + j) (zsV 0 j)) := ⟨rfl, fun q i z1 z2 z3 z4 => by rw [zput_ne (by omega), zput_ne (by omega)]⟩
  have J2 : LJ B t len U cg sg h (zput (zput g (B + 541) 19 (zor (g.1 (B + 541) 19) (zshl 1 (j : Int)))) (B + 541 + 4) (1 + j) (zsV 0 j)) := hJ.chg f (fun y => absurd y z)
  obtain ⟨g', p1, p2, p3, p4⟩ := j_tailE J2 z
  refine ⟨g', p1, p2, f.w.tr p3, ?_⟩
  rw [p4, zput_ne (by omega), zput_ne (by omega)]
theorem m_setJ {U : Nat → Nat → Int} {cg sg : Int} {h g : zH} (hJ : LJ B t len U cg sg h g) {j : Nat} (hj : j < 7) (hU : h.1 (B + 497) 3 = 0 → (U = vw h.1 (B + 500) ∧ (4 ≤ j ∨ U 0 7 = 0) ∧ Good U) ∧ (h.1 (B + 497) 4 = cg ∧ h.1 (B + 497) 5 = sg) ∧ (∃ n : Nat, n < 65536 ∧ sg = (n : Int)) ∧ h.1 (B + 498) 4 ≠ 0) :
    ∃ h' g', SetC B j h = some ((), h') ∧ zbd (SetR B j g) (fun _ h14 => q_X8_readStatement_J144 h14 (B + 541)) = some ((), g') ∧ PSt B t len h g h' g' := by
  have hz0 : ∀ i, i < 7 → 0 ≤ zsV 0 i := by decide
  have hz1 : ∀ i, i < 7 → zsV 0 i ≤ 9999 := by decide
  have hz2 : ∀ i, i < 7 → zsV 1 i ≤ 9999 := by decide
  have f0 : FrX B g (zput g (B + 541) 19 (zor (g.1 (B + 541) 19) (zshl 1 (j : Int)))) := ⟨rfl, fun q i z _ _ _ => zput_ne (fun y => z ⟨y.1, by omega⟩)⟩
  have J1 : LJ B t len U cg (zor sg (zshl 1 (j : Int))) h (zput g (B + 541) 19 (zor (g.1 (B + 541) 19) (zshl 1 (j : Int)))) := hJ.chg f0 (fun z => by
    have J0 := hJ.mode z
    refine ⟨J0.2.2.2.2.1.keep rfl (funext fun i => zput_ne (by omega)) (funext fun i => zput_ne (by omega)), ?_, ?_⟩
    · rw [zput_ne (by omega)]
      exact J0.2.2.2.2.2.1
    · rw [zput_self, J0.2.2.2.2.2.2])
  obtain ⟨h1, g1, a1, a2, a3, a4, a5, a6⟩ := j_accept J1
  obtain ⟨h2, g2, y, y', b1, b2, b3, b4, b5, b6⟩ := j_num a3 (lo := zsV 0 j) (hi := zsV 1 j) (lo' := zsV 0 j) (hi' := zsV 1 j) (fun _ => ⟨rfl, rfl, hz0 j hj, hz1 j hj, hz2 j hj⟩)
  have e5 : g1.2 (B + 541) 5 = B + 541 + 4 := a3.1.2.2.2.2.2.2 5
  have f2 : FrX B g2 (zput g2 (B + 541 + 4) (1 + j) y') := ⟨rfl, fun q i _ _ z _ => zput_ne (fun w => z w.1)⟩
  have pr : h2.1 (B + 497) 3 = 0 → h.1 (B + 497) 3 = 0 ∧ h.1 (B + 498) 5 < h2.1 (B + 498) 5 := fun z => by
    obtain ⟨⟨c1, c2⟩, _⟩ := b6 z
    obtain ⟨d1, d2, d3⟩ := a6 c1
    exact ⟨d1, Int.lt_of_lt_of_le (d3 (hU d1).2.2.2) c2⟩
  have fP : FcP B h h2 := a4.tr b4
  have gd : h2.1 (B + 497) 3 = 0 → Good (vup U 1 j y) := fun z => by
    obtain ⟨_, ey, y1, y4⟩ := b6 z
    obtain ⟨⟨u1, u2, u3⟩, _⟩ := hU (pr z).1
    exact set_good u3 hj u2 ⟨y1, y4⟩
  have J3 : LJ B t len (vup U 1 j y) cg (zor sg (zshl 1 (j : Int))) h2 (zput g2 (B + 541 + 4) (1 + j) y') := b3.chg f2 (fun z => by
    have J0 := b3.mode z
    obtain ⟨_, ey, y1, y4⟩ := b6 z
    obtain ⟨⟨u1, u2, u3⟩, _⟩ := hU (pr z).1
    obtain ⟨⟨m1, m2, m3⟩, m4⟩ := J0.2.2.2.2.1
    have r3 : (zput g2 (B + 541 + 4) (1 + j) y').1 (B + 541 + 3) = g2.1 (B + 541 + 3) := funext fun i => zput_ne (by omega)
    have hN : ∀ i, i ≠ 1 + j → (zput g2 (B + 541 + 4) (1 + j) y').1 (B + 541 + 4) i = g2.1 (B + 541 + 4) i := fun i hi => zput_ne (fun w => hi w.2)
    have hx : (zput g2 (B + 541 + 4) (1 + j) y').1 (B + 541 + 4) (1 + j) = y := by rw [zput_self]; exact ey.symm
    refine ⟨⟨⟨m1, (gd z).1, ?_⟩, fun s hs hu => ?_⟩, ?_, ?_⟩
    · rw [r3]
      rcases u2 with u4 | u7
      · exact m3.set1 u4 hj hN hx
      · exact m3.set0 u7 hj hN hx
    · rw [vup_ne (by omega)] at hu
      obtain ⟨k1, k2⟩ := m4 s hs hu
      refine ⟨?_, fun i hi => ?_⟩
      · rw [hN _ (by omega)]; exact k1
      · rw [hN _ (by omega)]; exact k2 i hi
    · rw [zput_ne (by omega)]; exact J0.2.2.2.2.2.1
    · rw [zput_ne (by omega)]; exact J0.2.2.2.2.2.2)
  obtain ⟨h', g', k1, k2, k3, k4, k5, k6, k7⟩ := j_tail J3 (upd := fun h6 => some ((), zput (zput h6 (B + 497) 5 (zor (h6.1 (B + 497) 5) (zshl 1 (j : Int)))) ((zput h6 (B + 497) 5 (zor (h6.1 (B + 497) 5) (zshl 1 (j : Int)))).2 ((zput h6 (B + 497) 5 (zor (h6.1 (B + 497) 5) (zshl 1 (j : Int)))).2 (B + 497) 1) 2) j y)) (fun h4 fp z0 z4 => by
    obtain ⟨⟨u1, u2, u3⟩, ⟨u4, u5⟩, ⟨n, n1, n2⟩, _⟩ := hU (pr z0).1
    have r1 : h4.2 (B + 497) 1 = B + 500 := by rw [fp.1, fP.1]; exact hJ.1.2.2.2.2.1
    have r2 : h4.2 (B + 500) 2 = B + 500 + 1 := by rw [fp.1, fP.1]; exact hJ.1.2.2.2.2.2.1.1.set
    have rA : ∀ x : Int, (zput h4 (B + 497) 5 x).2 ((zput h4 (B + 497) 5 x).2 (B + 497) 1) 2 = B + 500 + 1 := fun x => by rw [zput_2, r1, r2]
    have l5 : h4.1 (B + 497) 5 = sg := by rw [fp.2 _ _ (by omega) (by omega), fP.2 _ _ (by omega) (by omega)]; exact u5
    have ev : vw h4.1 (B + 500) = U := by rw [fp.view, fP.view]; exact u1.symm
    rw [rA, l5]
    refine ⟨_, rfl, ⟨rfl, fun q i z1 z2 => by rw [zput_ne (by omega), zput_ne (by omega)]⟩, ?_, ?_, ?_, gd z0, n ||| 2 ^ j, ?_, ?_⟩
    · rw [vw_put (by decide)]
      have : vw (zput h4 (B + 497) 5 (zor sg (zshl 1 (j : Int)))).1 (B + 500) = vw h4.1 (B + 500) := vw_ext fun o ho i => zput_ne (by omega)
      rw [this, ev]
    · rw [zput_ne (by omega), zput_ne (by omega), fp.2 _ _ (by omega) (by omega), fP.2 _ _ (by omega) (by omega)]
      exact u4
    · rw [zput_ne (by omega), zput_self]
    · exact Nat.or_lt_two_pow (n := 16) n1 (Nat.pow_lt_pow_right (by decide) (by omega))
    · rw [n2]
      exact zor_set n1 (by omega))
  refine ⟨h', g', ?_, ?_, k3, fP.w.tr k4, (f0.w.tr (a5.tr b5).w).tr (f2.w.tr k5), ?_, fun z => ?_⟩
  · unfold SetC
    rw [a1, zbd_some, b1, zbd_some]
    exact k1
  · unfold SetR
    rw [a2, zbd_some, e8_leastOf j hj rfl, zbp_some, e8_mostOf j hj rfl, zbp_some, b2, zbd_some, zbd_some, e5]
    exact k2
  · rw [k6, zput_ne (by omega), (a5.tr b5).2 _ _ (by omega), zput_ne (by omega)]
  · obtain ⟨c1, c2⟩ := k7 z
    exact ⟨(pr c1).1, Int.lt_of_lt_of_le (pr c1).2 c2⟩
theorem J61_E {g : zH} {i : Nat} (hi : i < 7) (z : ¬ g.1 (B + 541) 15 = 0) : q_X8_readSet_J61 g (B + 541) (i : Int) = SetR B i g := by
  have e : ∀ c : Int, q_X8_readSet_J80 g (B + 541) (i : Int) c (B + 541) = SetR B i g := fun c => by
    unfold q_X8_readSet_J80
    rw [nofails z, zbd_some, SetR_eq hi (nofails z _ _), SetR_eq hi (nofails z _ _)]
    split
    · rfl
    · split <;> rfl
  unfold q_X8_readSet_J61
  rw [e, e]
  split <;> rfl
theorem j_set {h g : zH} (hB : LB B t len h g) (h0 : h.1 (B + 497) 3 = 0) (hk : h.1 (B + 498) 4 ≠ 0) : ∃ h' g', q_X2_readSet h (B + 497) = some ((), h') ∧ q_X8_readStatement_J15 g (B + 541) 4 = some ((), g') ∧ PSt B t len h g h' g' := by
  obtain ⟨hJ, hG⟩ := hB
  obtain ⟨gd, n, n1, n2⟩ := hG h0
  obtain ⟨h1, g1, a1, a2, a3, a4, a5, a6⟩ := j_accept hJ
  have z1 : h1.1 (B + 497) 3 = 0 := by rw [acc3 hJ a1]; exact h0
  have st1 := (a6 z1).2.2 hk
  have J1 := a3.mode z1
  have z15 := J1.2.1
  obtain ⟨s, x, κ, tk⟩ := J1.2.2.2.1
  have hC := a3.1
  have hk1 := kr_i κ tk.2.2.2.1
  have hsx := tk.2.2.1
  have k12 := tk.2.1.2.2
  have ev : vw h1.1 (B + 500) = vw h.1 (B + 500) := a4.view
  have e4 : h1.1 (B + 497) 4 = h.1 (B + 497) 4 := a4.2 _ _ (by omega) (by omega)
  have e5 : h1.1 (B + 497) 5 = h.1 (B + 497) 5 := a4.2 _ _ (by omega) (by omega)
  have rA : h1.2 (B + 497) 1 = B + 500 := hC.2.2.2.2.1
  have hmv := J1.2.2.2.2.1.1
  have e7 : h1.1 (B + 500) 7 = vw h1.1 (B + 500) 0 7 := a_0 7
  have e404 : g1.1 (g1.2 (B + 541) 5) 404 = vw h.1 (B + 500) 0 7 := by rw [hmv.1.now]; exact hmv.2.2.2.2.2.2.1
  have hset := e2_setting (L := B + 497) hC.2.2.2.1 hC.1 hC.2.1 tk.1.2.2 tk.1.1 hsx.1 hsx.2
  have ek : h1.1 (B + 498) 4 = κ := tk.1.2.1
  have post : ∀ h2 g2 h' g', FcP B h1 h2 → FrP B g1 g2 → PSt B t len h2 g2 h' g' → (h2.1 (B + 497) 3 = 0 → h2 = h1) → PSt B t len h g h' g' := fun h2 g2 h' g' f5 f6 p pe => by
    obtain ⟨p1, p2, p3, p4, p5⟩ := p
    refine ⟨p1, (a4.w.tr f5.w).tr p2, (a5.w.tr f6.w).tr p3, by rw [p4, f6.2 _ _ (by omega), a5.2 _ _ (by omega)], fun z => ?_⟩
    obtain ⟨c1, c2⟩ := p5 z
    have e := pe c1
    rw [e] at c2
    exact ⟨h0, by omega⟩
  unfold q_X2_readSet q_X8_readStatement_J15
  rw [if_neg (by decide), if_neg (by decide), if_neg (by decide), if_neg (by decide), if_pos rfl]
  unfold q_X8_readSet
  rw [a1, zbd_some, a2, zbd_some, if_pos z15, hset, zbp_some]
  by_cases ok : h1.1 (B + 498) 4 = 1 ∧ 5 ≤ wdx t s x
  · obtain ⟨o1, o2⟩ := ok
    have hκ : κ = 1 := by rw [ek] at o1; omega
    have c12 : g1.1 (B + 541) 12 = 0 := by rw [k12]; exact hk1.2.1.mpr hκ
    have c13 : g1.1 (B + 541) 13 = wdx t s x := tk.2.2.2.2.2.1 hκ
    obtain ⟨m, m1, m2⟩ : ∃ m : Nat, m < 12 ∧ wdx t s x = (m : Int) := by
      rcases wdx_b (t := t) (s := s) (x := x) with e | e
      · omega
      · exact e
    obtain ⟨j, rfl⟩ : ∃ j, m = j + 5 := ⟨m - 5, by omega⟩
    have hj : j < 7 := by omega
    have ej : wdx t s x - 5 = (j : Int) := by omega
    have ezw : zw (g1.1 (B + 541) 13 - 5) = (j : Int) := by rw [c13, ej, zw_id (by unfold zR; omega)]
    have ref : (if g1.1 (B + 541) 12 = 0 then (if g1.1 (B + 541) 13 < 5 then (q_X8_readSet_J31 g1 (B + 541) 0) else (q_X8_readSet_J31 g1 (B + 541) 1)) else (q_X8_readSet_J31 g1 (B + 541) 0)) = q_X8_readSet_J61 g1 (B + 541) (j : Int) := by
      rw [if_pos c12, if_neg (by omega)]
      unfold q_X8_readSet_J31
      rw [if_neg one0]
      unfold q_X8_readSet_J42
      rw [j_ok, zbd_some, if_neg one0, ezw]
    have hx2 : (if h1.1 (B + 498) 4 = 1 ∧ 5 ≤ wdx t s x then wdx t s x - 5 else -1) = (j : Int) := by rw [if_pos ⟨o1, o2⟩, ej]
    have hx3 : ¬ (j : Int) = -1 := by omega
    rw [hx2, if_neg hx3, ref, SetC_eq hj]
    unfold q_X8_readSet_J61
    rw [J1.2.2.2.2.2.2, e5, n2, rA, e7, ev]
    have good : 4 ≤ j ∨ vw h.1 (B + 500) 0 7 = 0 → ∃ h' g', SetC B j h1 = some ((), h') ∧ zbd (SetR B j g1) (fun _ h14 => q_X8_readStatement_J144 h14 (B + 541)) = some ((), g') ∧ PSt B t len h g h' g' := fun hj4 => by
      obtain ⟨h', g', p1, p2, p3⟩ := m_setJ a3 hj (fun _ => ⟨⟨ev.symm, hj4, gd⟩, ⟨e4, e5⟩, ⟨n, n1, n2⟩, by rw [o1]; decide⟩)
      exact ⟨h', g', p1, p2, post h1 g1 h' g' FcP.rf FrP.rf p3 (fun _ => rfl)⟩
    have bad : ∀ c : Int, c < 0 → ∃ h2 g2, q_X2_fail h1 (B + 497) c = some ((), h2) ∧ q_X8_failsIf g1 (B + 541) 1 c = some ((), g2) ∧ ¬ g2.1 (B + 541) 15 = 0 ∧ ∃ h' g', SetC B j h2 = some ((), h') ∧ zbd (SetR B j g2) (fun _ h14 => q_X8_readStatement_J144 h14 (B + 541)) = some ((), g') ∧ PSt B t len h g h' g' := fun c hc => by
      obtain ⟨h2, g2, f1, f2, f3, f4, f5, f6⟩ := j_fail a3 hc
      have J2 : LJ B t len (vw h.1 (B + 500)) (h.1 (B + 497) 4) (h.1 (B + 497) 5) h2 g2 := ⟨f3, Or.inr f4⟩
      obtain ⟨e, e0, e1, e2, _⟩ := f4
      have z2 : ¬ h2.1 (B + 497) 3 = 0 := by omega
      obtain ⟨h', g', p1, p2, p3⟩ := m_setJ J2 hj (fun z => absurd z z2)
      exact ⟨h2, g2, f1, f2, by omega, h', g', p1, p2, post h2 g2 h' g' f5 f6 p3 (fun z => absurd z z2)⟩
    by_cases d : n.testBit j = true
    · have d0 : ¬ zand (zshr (n : Int) (j : Int)) 1 = 0 := fun y => (z_bit n1 (by omega)).mp y d
      obtain ⟨h2, g2, f1, f2, f3, h', g', p1, p2, p3⟩ := bad (-14) (by decide)
      rw [if_neg d0, if_pos ((z_bit1 n1 (by omega)).mpr d), f1, zbd_some, SetC_eq hj]
      unfold q_X8_readSet_J80
      rw [f2, zbd_some, SetR_eq hj (nofails f3 _ _), SetR_eq hj (nofails f3 _ _)]
      refine ⟨h', g', p1, ?_, p3⟩
      split
      · exact p2
      · split
        · exact p2
        · exact p2
    · have d0 : zand (zshr (n : Int) (j : Int)) 1 = 0 := (z_bit n1 (by omega)).mpr d
      rw [if_pos d0, if_neg (fun y => d ((z_bit1 n1 (by omega)).mp y))]
      unfold q_X8_readSet_J80
      rw [j_ok, zbd_some, e404]
      by_cases j4 : 4 ≤ j
      · have q4 : 4 ≤ (j : Int) := by omega
        have q3 : 3 < (j : Int) := by omega
        rw [if_pos q4, if_pos q3, SetR_eq hj j_ok]
        exact good (Or.inl j4)
      · have q4 : ¬ 4 ≤ (j : Int) := by omega
        have q3 : ¬ 3 < (j : Int) := by omega
        rw [if_neg q4, if_neg q3]
        have w7 := gd.1.2.2.2.2.1
        by_cases c7 : vw h.1 (B + 500) 0 7 ≤ 0
        · rw [if_pos c7, if_pos c7, SetR_eq hj j_ok]
          exact good (Or.inr (by omega))
        · obtain ⟨h2, g2, f1, f2, f3, h', g', p1, p2, p3⟩ := bad (-15) (by decide)
          rw [if_neg c7, if_neg c7, f1, zbd_some, SetC_eq hj]
          have e : q_X8_readSet_J107 g1 (B + 541) (j : Int) 1 (B + 541) = SetR B j g2 := by
            rw [← SetR_eq hj (c := 0) (g := g2) j_ok]
            unfold q_X8_readSet_J107
            rw [f2, zbd_some, j_ok, zbd_some]
          rw [e]
          exact ⟨h', g', p1, p2, p3⟩
  · obtain ⟨h2, g2, f1, f2, f3, f4, f5, f6⟩ := j_fail a3 (c := -11) (by decide)
    have J2 : LJ B t len (vw h.1 (B + 500)) (h.1 (B + 497) 4) (h.1 (B + 497) 5) h2 g2 := ⟨f3, Or.inr f4⟩
    obtain ⟨e, e0, e1, e2, _⟩ := f4
    have z2 : ¬ h2.1 (B + 497) 3 = 0 := by omega
    have z25 : ¬ g2.1 (B + 541) 15 = 0 := by omega
    have ref : (if g1.1 (B + 541) 12 = 0 then (if g1.1 (B + 541) 13 < 5 then (q_X8_readSet_J31 g1 (B + 541) 0) else (q_X8_readSet_J31 g1 (B + 541) 1)) else (q_X8_readSet_J31 g1 (B + 541) 0)) = SetR B 0 g2 := by
      have j31 : q_X8_readSet_J31 g1 (B + 541) 0 = SetR B 0 g2 := by
        unfold q_X8_readSet_J31
        rw [if_pos rfl]
        unfold q_X8_readSet_J42
        rw [f2, zbd_some, if_pos rfl]
        exact J61_E (i := 0) (by decide) z25
      by_cases c12 : g1.1 (B + 541) 12 = 0
      · have hκ : κ = 1 := hk1.2.1.mp (by rw [← k12]; exact c12)
        have c13 : g1.1 (B + 541) 13 = wdx t s x := tk.2.2.2.2.2.1 hκ
        have o1 : h1.1 (B + 498) 4 = 1 := by rw [ek, hκ]; rfl
        rw [if_pos c12, if_pos (by
          have : ¬ 5 ≤ wdx t s x := fun y => ok ⟨o1, y⟩
          omega)]
        exact j31
      · rw [if_neg c12]
        exact j31
    obtain ⟨g', p1, p2, p3, p4⟩ := m_setE J2 z2 (j := 0) (by decide)
    rw [if_neg ok, if_pos rfl, f1, zbd_some, ref]
    exact ⟨h2, g', rfl, p1, post h2 g2 h2 g' f5 f6 ⟨p2, FcW.rf, p3, p4, fun z => absurd z z2⟩ (fun z => absurd z z2)⟩
end OPS
