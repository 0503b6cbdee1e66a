/-! The statement call. -/
section OPS
variable {B : Nat} {t : Nat → Int} {len : Nat}
theorem zbp_ex {α γ : Type} {o : Option α} {k : α → Option γ} {y : γ} (h : zbp o k = some y) : ∃ x, o = some x ∧ k x = some y := by
  cases o with
  | none => exact absurd h (by unfold zbp; exact fun z => by cases z)
  | some x => exact ⟨x, rfl, h⟩
/-- only the cells of the calls are written -/
def Rw4 (B : Nat) (h g : zH) : Prop := mly g.2 (B + 541) ∧ ∀ j, j < 404 → g.1 (B + 541 + 4) j = h.1 (B + 541 + 4) j
theorem put_st {γ : Type} {h g : zH} (r : Rw4 B h g) {n : Nat} (hn : n < 16) {j : Nat} (hj : j < 12) {J x : Int} (hJ : J = (j : Int)) {k : Unit → zH → Option γ} {y : γ} (he : zbd (q_X8_put g (B + 541) (n : Int) J x) k = some y) : ∃ g1, k () g1 = some y ∧ Rw4 B h g1 := by
  rw [e8_put r.1 hn hj hJ, zbd_some] at he
  exact ⟨_, he, r.1, fun i hi => by rw [zput_ne (by omega)]; exact r.2 i hi⟩
theorem e8_askRow {h h' : zH} (hl : mly h.2 (B + 541)) {n : Nat} (hn : h.1 (B + 541 + 4) 404 = (n : Int)) (h16 : n < 16) {s r p sy ho y : Int} (he : q_X8_asks h (B + 541) s r p sy ho = some (y, h')) : ∀ j, j < 404 → h'.1 (B + 541 + 4) j = h.1 (B + 541 + 4) j := by
  unfold q_X8_asks at he
  simp only [zlet_b] at he
  rw [hl.now, hn] at he
  have r0 : Rw4 B h h := ⟨hl, fun _ _ => rfl⟩
  obtain ⟨g1, he, r1⟩ := put_st r0 h16 (j := 0) (by decide) rfl he
  obtain ⟨g2, he, r2⟩ := put_st r1 h16 (j := 1) (by decide) rfl he
  obtain ⟨g3, he, r3⟩ := put_st r2 h16 (j := 2) (by decide) rfl he
  obtain ⟨g4, he, r4⟩ := put_st r3 h16 (j := 3) (by decide) rfl he
  obtain ⟨g5, he, r5⟩ := put_st r4 h16 (j := 4) (by decide) rfl he
  obtain ⟨g6, he, r6⟩ := put_st r5 h16 (j := 5) (by decide) rfl he
  obtain ⟨g7, he, r7⟩ := put_st r6 h16 (j := 9) (by decide) rfl he
  obtain ⟨g8, he, r8⟩ := put_st r7 h16 (j := 10) (by decide) rfl he
  obtain ⟨g9, he, r9⟩ := put_st r8 h16 (j := 11) (by decide) rfl he
  have e := (Prod.mk.inj (Option.some.inj he)).2
  intro j hj
  rw [← e, r9.1.now, zput_ne (by omega)]
  exact r9.2 j hj
theorem e8_asgRow {h h' : zH} {v : Nat → Nat → Int} {T0 : Nat → Int} (hm : MVt h (B + 541) v T0) {k : Nat} (hk : (k : Int) < v 0 7) (hC : h.1 (B + 541) 25 = v 0 1) {r : Int} (he : q_X8_assigns h (B + 541) (k : Int) = some (r, h')) : ∀ j, j < 404 → h'.1 (B + 541 + 4) j = h.1 (B + 541 + 4) j := by
  have w := hm.2.1
  have hn := w.nC
  have hC4 := w.2.1
  have hk16 : k < 16 := by omega
  obtain ⟨C, hC'⟩ : ∃ C : Nat, v 0 1 = (C : Int) := ⟨(v 0 1).toNat, by omega⟩
  obtain ⟨h2, k1, k2, k3⟩ := e8_lays hm 0
  have hm2 := hm.same k2.same
  have hC2 : h2.1 (B + 541) 25 = (C : Int) := by rw [k2.2 _ _ (by omega) (by omega), hC, hC']
  obtain ⟨r', fc, fs, y1, y2⟩ := e8_finds hm2 hk k3 (layS_c w) hC2 (by omega)
  have r0 : Rw4 B h (z2x B h2 fc fs) := ⟨(hm2.same z2x_same : MVt (z2x B h2 fc fs) (B + 541) v T0).1, fun j hj => by
    have : (zAs.z2 (h := h2) (a := fc) (b := fs) : zAs B h2 _) = zAs.z2 := rfl
    rw [z2x_ne (by omega)]
    exact k2.2 _ _ (by omega) (by omega)⟩
  unfold q_X8_assigns at he
  rw [k1, zbd_some, y1, zbd_some] at he
  generalize z2x B h2 fc fs = g0 at he r0
  by_cases q : r' = 0
  · rw [if_pos q] at he
    have e := (Prod.mk.inj (Option.some.inj he)).2
    rw [← e]
    exact r0.2
  · rw [if_neg q] at he
    obtain ⟨g1, he, r1⟩ := put_st r0 hk16 (j := 5) (by decide) rfl he
    obtain ⟨g2, he, r2⟩ := put_st r1 hk16 (j := 6) (by decide) rfl he
    obtain ⟨g3, he, r3⟩ := put_st r2 hk16 (j := 7) (by decide) rfl he
    obtain ⟨g4, he, r4⟩ := put_st r3 hk16 (j := 10) (by decide) rfl he
    obtain ⟨x, _, he⟩ := zbp_ex he
    obtain ⟨g5, he, r5⟩ := put_st r4 hk16 (j := 8) (by decide) rfl he
    have e := (Prod.mk.inj (Option.some.inj he)).2
    rw [← e]
    exact r5.2
def CalF (B : Nat) (h : zH) : Option (Unit × zH) := zbd (q_X2_accept h (B + 497)) (fun _ h1 => zbd (q_X2_readStationName h1 (B + 497) (-1)) (fun x2 h3 => zbd (q_X2_readStationName h3 (B + 497) x2) (fun x4 h5 => zbd (q_X2_readNumber h5 (B + 497) 0 9) (fun x6 h7 => zbd (q_X2_readNumber h7 (B + 497) 1 2000) (fun x8 h9 => zbd (q_X2_readNumber h9 (B + 497) 1 9999) (fun x10 h11 => zbd (q_X2_readSemicolon h11 (B + 497)) (fun _ h12 => if h12.1 (B + 497) 3 = 0 then (zbd (q_X4_addCall h12 (h12.2 (B + 497) 1) x2 x4 x6 x8 x10) (fun _ h13 => some ((), h13))) else (some ((), h12)))))))))
def CalT (B : Nat) (g : zH) (a b : Int) : Option (Unit × zH) := zbd (q_X8_integer g (B + 541) 0 9) (fun x20 h21 => zbd (q_X8_integer h21 (B + 541) 1 2000) (fun x22 h23 => zbd (q_X8_integer h23 (B + 541) 1 9999) (fun x24 h25 => if h25.1 (B + 541) 15 = 0 then (zlet (zput h25 (B + 541) 25 (h25.1 (h25.2 (B + 541) 4) 64)) (fun h26 => zbd (q_X8_asks h26 (B + 541) a b x20 x22 x24) (fun x27 h28 => zbd (q_X8_assigns h28 (B + 541) x27) (fun _ h30 => some ((), h30))))) else (some ((), h25)))))
def CalG (B : Nat) (g : zH) : Option (Unit × zH) := zbd (q_X8_goOn g (B + 541)) (fun _ h2 => zbd (q_X8_station h2 (B + 541) (-1)) (fun x3 h4 => if h4.1 (B + 541) 15 = 0 then zbd (q_X8_station h4 (B + 541) x3) (fun x18 h19 => CalT B h19 x3 x18) else zbd (q_X8_station h4 (B + 541) (-1)) (fun x18 h19 => CalT B h19 x3 x18)))
theorem m_callJ {U : Nat → Nat → Int} {cg sg : Int} {h g : zH} (hJ : LJ B t len U cg sg h g) (hU : h.1 (B + 497) 3 = 0 → (U = vw h.1 (B + 500) ∧ U 0 7 < 16 ∧ Good U) ∧ (h.1 (B + 497) 4 = cg ∧ h.1 (B + 497) 5 = sg) ∧ (∃ n : Nat, n < 65536 ∧ sg = (n : Int)) ∧ h.1 (B + 498) 4 ≠ 0) :
    ∃ h' g', CalF B h = some ((), h') ∧ zbd (CalG B g) (fun _ h13 => q_X8_readStatement_J144 h13 (B + 541)) = some ((), g') ∧ PSt B t len h g h' g' := by
  obtain ⟨h0, g0, s1, s2, s3, s4, s5, s6⟩ := j_accept hJ
  have hU1 : h0.1 (B + 497) 3 = 0 → U = vw h0.1 (B + 500) := fun z => by rw [s4.view]; exact (hU (s6 z).1).1.1
  obtain ⟨hn, gn, x, x', d1, d2, d3, d4, d5, d6⟩ := j_station s3 hU1 (a := -1) (b := -1) (fun _ => rfl)
  have hU2 : hn.1 (B + 497) 3 = 0 → U = vw hn.1 (B + 500) := fun z => by rw [d4.view]; exact hU1 (d6 z).1.1
  have q15 : (hn.1 (B + 497) 3 = 0 ↔ gn.1 (B + 541) 15 = 0) := d3.e0
  obtain ⟨hw, gw, w, w', e1, e2, e3, e4, e5, e6⟩ := j_station d3 hU2 (a := x) (b := if gn.1 (B + 541) 15 = 0 then x' else -1) (fun z => by rw [if_pos (q15.mp z)]; exact (d6 z).2.1)
  obtain ⟨h1, g1, y1, y1', a1, a2, a3, a4, a5, a6⟩ := j_num e3 (lo := 0) (hi := 9) (lo' := 0) (hi' := 9) (fun _ => ⟨rfl, rfl, by decide, by decide, by decide⟩)
  obtain ⟨h2, g2, y2, y2', b1, b2, b3, b4, b5, b6⟩ := j_num a3 (lo := 1) (hi := 2000) (lo' := 1) (hi' := 2000) (fun _ => ⟨rfl, rfl, by decide, by decide, by decide⟩)
  obtain ⟨h3, g3, y3, y3', c1, c2, c3, c4, c5, c6⟩ := j_num b3 (lo := 1) (hi := 9999) (lo' := 1) (hi' := 9999) (fun _ => ⟨rfl, rfl, by decide, by decide, by decide⟩)
  have fP : FcP B h h3 := s4.tr (d4.tr (e4.tr (a4.tr (b4.tr c4))))
  have fR : FrN B g g3 := s5.n.tr (d5.tr (e5.tr (a5.n.tr (b5.n.tr c5.n))))
  have pr : h3.1 (B + 497) 3 = 0 → (h.1 (B + 497) 3 = 0 ∧ h.1 (B + 498) 5 < h3.1 (B + 498) 5) ∧ (x = x' ∧ w = w' ∧ y1 = y1' ∧ y2 = y2' ∧ y3 = y3') ∧ (0 ≤ x ∧ x < U 0 3) ∧ (0 ≤ w ∧ w < U 0 3) ∧ x ≠ w ∧ (0 ≤ y1 ∧ y1 ≤ 9) ∧ (1 ≤ y2 ∧ y2 ≤ 2000) ∧ (1 ≤ y3 ∧ y3 ≤ 9999) := fun z => by
    obtain ⟨⟨r1, r2⟩, r3, r4, r5⟩ := c6 z
    obtain ⟨⟨f1, f2⟩, f3, f4, f5⟩ := b6 r1
    obtain ⟨⟨k1, k2⟩, k3, k4, k5⟩ := a6 f1
    obtain ⟨⟨n1, n2⟩, n3, n4, n5⟩ := e6 k1
    obtain ⟨⟨l1, l2⟩, l3, l4, l5⟩ := d6 n1
    obtain ⟨m1, m2, m3⟩ := s6 l1
    have := m3 (hU m1).2.2.2
    exact ⟨⟨m1, by omega⟩, ⟨l3, n3, k3, f3, r3⟩, l4, n4, fun z => n5 z.symm, ⟨k4, k5⟩, ⟨f4, f5⟩, ⟨r4, r5⟩⟩
  have e4' : g3.2 (B + 541) 4 = B + 541 + 3 := c3.1.2.2.2.2.2.2 4
  have gG : CalG B g = CalT B gw x' w' := by
    unfold CalG
    rw [s2, zbd_some, d2, zbd_some]
    by_cases q : gn.1 (B + 541) 15 = 0
    · rw [if_pos q] at e2 ⊢
      rw [e2, zbd_some]
    · rw [if_neg q] at e2 ⊢
      rw [e2, zbd_some]
  rw [gG]
  unfold CalF CalT
  rw [s1, zbd_some, d1, zbd_some, e1, zbd_some, a1, zbd_some, b1, zbd_some, c1, zbd_some, a2, zbd_some, b2, zbd_some, c2, zbd_some]
  by_cases z : h3.1 (B + 497) 3 = 0
  · obtain ⟨⟨z0, z5⟩, ⟨v0, v1, v2, v3, v4⟩, w0, w1, w2, w3, w4, w5⟩ := pr z
    obtain ⟨⟨u1, u2, u3⟩, ⟨u4, u5⟩, u6, _⟩ := hU z0
    subst v0 v1 v2 v3 v4
    have J0 := c3.mode z
    have hrd := J0.2.2.2.2.1
    have i15 : g3.1 (B + 541) 15 = 0 := J0.2.1
    obtain ⟨hN, hN16⟩ := u3.1.nC
    have n16 : nCl U < 16 := by omega
    generalize nCl U = n at hN hN16 n16
    rw [if_pos i15]
    simp only [zlet_b]
    rw [e4']
    have t64 : g3.1 (B + 541 + 3) 64 = U 0 1 := hrd.1.2.2.2.1
    rw [t64]
    have hr5 : RdV B U (zput g3 (B + 541) 25 (U 0 1)) := hrd.keep rfl (funext fun i => zput_ne (by omega)) (funext fun i => zput_ne (by omega))
    generalize hg5 : zput g3 (B + 541) 25 (U 0 1) = g5 at hr5
    have c25 : g5.1 (B + 541) 25 = U 0 1 := by rw [← hg5, zput_self]
    have f5 : FrX B g3 g5 := by rw [← hg5]; exact ⟨rfl, fun q j z1 _ _ _ => zput_ne (fun y => z1 ⟨y.1, by omega⟩)⟩
    have k5 : ∀ j, j ≠ 25 → g5.1 (B + 541) j = g3.1 (B + 541) j := fun j hj => by rw [← hg5, zput_ne (fun y => hj y.2)]
    clear hg5
    obtain ⟨ga, A1, A2, A3, A4⟩ := e8_asks hr5.1 hN n16 (s := x) (r := w) (p := y1) (sy := y2) (ho := y3) w0 w1 w2 w3 w4 w5
    have hcv : CV h (B + 500) := hJ.1.2.2.2.2.2.1
    have hU0 : ∀ o j, vw h.1 (B + 500) o j = U o j := fun o j => by rw [u1]
    obtain ⟨hd, X, D1, D2, D3⟩ := e4_addCall hcv (n := n) (by rw [hU0]; exact hN) n16 (s := x) (r := w) (p := y1) (sy := y2) (ho := y3) (by rw [hU0]; exact w0) (by rw [hU0]; exact w1) w2 w3 w4 w5
    rw [← u1] at D3
    generalize vw hd.1 (B + 500) = U' at D3
    clear D1 D2 hd
    have gd : Good U' := new_good u3 hN n16 w0 w1 w2 w3 (by
      have := u3.1.set
      omega) w5 D3
    have n01 : vnew U n x w y1 (U 1 3 + y2) y3 0 1 = U 0 1 := vnew_ne (by omega) (by omega)
    have hk' : (n : Int) < vnew U n x w y1 (U 1 3 + y2) y3 0 7 := by rw [vnew_n]; omega
    have ca25 : ga.1 (B + 541) 25 = vnew U n x w y1 (U 1 3 + y2) y3 0 1 := by rw [n01, A4 _ _ (by omega)]; exact c25
    obtain ⟨gz, Z1, Z2, Z3⟩ := e8_assigns A2 (k := n) hk' vnew_c.2.2.2.2.2.2.2.1 ca25 D3
    have rowA := e8_askRow hr5.1.1 (n := n) (by rw [hr5.1.2.2.2.2.2.2.1]; exact hN) n16 A1
    have rowZ := e8_asgRow A2 hk' ca25 Z1
    have row3 : gz.1 (B + 541 + 3) = g5.1 (B + 541 + 3) := funext fun i => by rw [Z3.2 _ _ (by omega) (by omega) (by omega) (by omega), A4 _ _ (by omega)]
    have kM : ∀ j, j ≠ 25 → j ≠ 26 → j ≠ 27 → gz.1 (B + 541) j = g3.1 (B + 541) j := fun j j1 j2 j3 => by rw [Z3.2 _ _ (by omega) (by omega) (by omega) (by omega), A4 _ _ (by omega)]; exact k5 j j1
    have fT : FrX B g3 gz := f5.tr ⟨Z3.1.trans A3, fun q j z1 z2 z3 z4 => by rw [Z3.2 _ _ (by omega) (by omega) (by omega) (fun y => z1 ⟨y.1, by omega⟩), A4 _ _ (by omega)]⟩
    have u03 : U' 0 3 = U 0 3 := (D3.sta 0 3 (by omega)).trans (vnew_ne (by omega) (by omega))
    have J3 : LJ B t len U' cg sg h3 gz := c3.chg fT (fun _ => by
      refine ⟨⟨by rw [row3]; exact Z2, fun s hs hu => ?_⟩, ?_, ?_⟩
      · rw [u03] at hu
        obtain ⟨o1, o2⟩ := hr5.2 s hs hu
        refine ⟨?_, fun j hj => ?_⟩
        · rw [rowZ _ (by omega), rowA _ (by omega)]; exact o1
        · rw [rowZ _ (by omega), rowA _ (by omega)]; exact o2 j hj
      · rw [kM _ (by decide) (by decide) (by decide)]; exact J0.2.2.2.2.2.1
      · rw [kM _ (by decide) (by decide) (by decide)]; exact J0.2.2.2.2.2.2)
    obtain ⟨h', g', p1, p2, p3, p4, p5, p6, p7⟩ := j_tail J3 (upd := fun h12 => zbd (q_X4_addCall h12 (h12.2 (B + 497) 1) x w y1 y2 y3) (fun _ h13 => some ((), h13))) (fun h4 fp _ z4 => by
      have rA : h4.2 (B + 497) 1 = B + 500 := by rw [fp.1, fP.1]; exact hJ.1.2.2.2.2.1
      have cl : cly h4.2 (B + 500) := by rw [fp.1, fP.1]; exact hcv.1
      have ev : vw h4.1 (B + 500) = U := by rw [fp.view, fP.view]; exact u1.symm
      have hU4 : ∀ o j, vw h4.1 (B + 500) o j = U o j := fun o j => by rw [ev]
      obtain ⟨h5, X', E1, E2, E3⟩ := e4_addCall (h := h4) (A := B + 500) ⟨cl, by rw [ev]; exact u3.1⟩ (n := n) (by rw [hU4]; exact hN) n16 (s := x) (r := w) (p := y1) (sy := y2) (ho := y3) (by rw [hU4]; exact w0) (by rw [hU4]; exact w1) w2 w3 w4 w5
      rw [ev] at E3
      rw [rA, E1, zbd_some]
      refine ⟨h5, rfl, ⟨E2.1, fun q j z1 z2 => E2.2 q j (by omega)⟩, (E3.uniq D3).1, ?_, ?_, gd, u6⟩
      · rw [E2.2 _ _ (by omega), fp.2 _ _ (by omega) (by omega), fP.2 _ _ (by omega) (by omega)]
        exact u4
      · rw [E2.2 _ _ (by omega), fp.2 _ _ (by omega) (by omega), fP.2 _ _ (by omega) (by omega)]
        exact u5)
    rw [A1, zbd_some, Z1, zbd_some, zbd_some]
    refine ⟨h', g', p1, p2, p3, fP.w.tr p4, fR.w.tr (fT.w.tr p5), ?_, fun zz => ?_⟩
    · rw [p6, kM _ (by decide) (by decide) (by decide), fR.2 _ _ (by omega)]
    · obtain ⟨d1, d2⟩ := p7 zz
      exact ⟨z0, Int.lt_of_lt_of_le z5 d2⟩
  · have i15 : ¬ g3.1 (B + 541) 15 = 0 := fun w => z (c3.e0.mpr w)
    obtain ⟨h', g', k1, k2, k3, k4, k5, k6, k7⟩ := j_tail c3 (upd := fun h12 => zbd (q_X4_addCall h12 (h12.2 (B + 497) 1) x w y1 y2 y3) (fun _ h13 => some ((), h13))) (fun h4 fp z0 z4 => absurd z0 z)
    rw [if_neg i15, zbd_some]
    exact ⟨h', g', k1, k2, k3, fP.w.tr k4, fR.w.tr k5, by rw [k6, fR.2 _ _ (by omega)], fun zz => absurd (k7 zz).1 z⟩
theorem j_call {h g : zH} (hB : LB B t len h g) (h0 : h.1 (B + 497) 3 = 0) (hk : h.1 (B + 498) 4 ≠ 0) : ∃ h' g', q_X2_readCall h (B + 497) = some ((), h') ∧ q_X8_readStatement_J15 g (B + 541) 3 = some ((), g') ∧ PSt B t len h g h' g' := by
  obtain ⟨hJ, hG⟩ := hB
  obtain ⟨gd, n, n1, n2⟩ := hG h0
  have J0 := hJ.mode h0
  have hC := hJ.1
  have rA : h.2 (B + 497) 1 = B + 500 := hC.2.2.2.2.1
  have hmv := J0.2.2.2.2.1.1
  have e7 : h.1 (B + 500) 7 = vw h.1 (B + 500) 0 7 := a_0 7
  have e404 : g.1 (g.2 (B + 541) 5) 404 = vw h.1 (B + 500) 0 7 := by rw [hmv.1.now]; exact hmv.2.2.2.2.2.2.1
  have w7 := gd.1.2.2.2.2.1
  have cls : q_X2_readCall h (B + 497) = if vw h.1 (B + 500) 0 7 < 16 then CalF B h else zbd (q_X2_fail h (B + 497) ((-16))) (fun _ h25 => CalF B h25) := by
    unfold q_X2_readCall
    rw [rA, e7]
    rfl
  have ref : q_X8_readStatement_J15 g (B + 541) 3 = if vw h.1 (B + 500) 0 7 = 16 then zbd (zbd (q_X8_failsIf g (B + 541) 1 (-16)) (fun _ h1 => CalG B h1)) (fun _ h11 => q_X8_readStatement_J144 h11 (B + 541)) else zbd (zbd (q_X8_failsIf g (B + 541) 0 (-16)) (fun _ h1 => CalG B h1)) (fun _ h11 => q_X8_readStatement_J144 h11 (B + 541)) := by
    unfold q_X8_readStatement_J15
    rw [if_neg (by decide), if_neg (by decide), if_neg (by decide), if_pos rfl]
    unfold q_X8_readCall
    rw [e404]
    by_cases q : vw h.1 (B + 500) 0 7 = 16
    · rw [if_pos q, if_pos q]
      rfl
    · rw [if_neg q, if_neg q]
      rfl
  rw [cls, ref]
  by_cases q : vw h.1 (B + 500) 0 7 < 16
  · have q8 : ¬ vw h.1 (B + 500) 0 7 = 16 := by omega
    rw [if_pos q, if_neg q8, j_ok, zbd_some]
    exact m_callJ hJ (fun _ => ⟨⟨rfl, q, gd⟩, ⟨rfl, rfl⟩, ⟨n, n1, n2⟩, hk⟩)
  · have q8 : vw h.1 (B + 500) 0 7 = 16 := by omega
    obtain ⟨h1, g1, f1, f2, f3, f4, f5, f6⟩ := m_bad hJ (c := -16) (by decide)
    obtain ⟨h', g', p1, p2, p3⟩ := m_callJ f4 (fun z => absurd z f3)
    rw [if_neg q, if_pos q8, f1, zbd_some, f2, zbd_some]
    exact ⟨h', g', p1, p2, PSt.of f5 f6 p3 (fun z => absurd z f3)⟩
end OPS
