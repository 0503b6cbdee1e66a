/-! The statement rain. -/
def vra (v : Nat → Nat → Int) (n : Nat) (a b c d : Int) : Nat → Nat → Int := vup (vup (vup (vup (vup v (17 + n) 0 a) (17 + n) 1 b) (17 + n) 2 c) (17 + n) 3 d) 0 5 ((n + 1 : Nat) : Int)
section VR
variable {v : Nat → Nat → Int} {n : Nat} {a b c d : Int}
theorem vra_ne {o j : Nat} (h1 : ¬ (o = 0 ∧ j = 5)) (h2 : o ≠ 17 + n) : vra v n a b c d o j = v o j := by
  unfold vra
  rw [vup_ne (by omega), vup_ne (by omega), vup_ne (by omega), vup_ne (by omega), vup_ne (by omega)]
theorem vra_n : vra v n a b c d 0 5 = ((n + 1 : Nat) : Int) := vup_at
theorem vra_cs : vra v n a b c d (17 + n) 0 = a ∧ vra v n a b c d (17 + n) 1 = b ∧ vra v n a b c d (17 + n) 2 = c ∧ vra v n a b c d (17 + n) 3 = d := by
  unfold vra
  refine ⟨?_, ?_, ?_, ?_⟩
  · rw [vup_ne (by omega), vup_ne (by omega), vup_ne (by omega), vup_ne (by omega), vup_at]
  · rw [vup_ne (by omega), vup_ne (by omega), vup_ne (by omega), vup_at]
  · rw [vup_ne (by omega), vup_ne (by omega), vup_at]
  · rw [vup_ne (by omega), vup_at]
theorem vra_row {o : Nat} (h1 : o ≠ 0) (h2 : o ≠ 17 + n) : vra v n a b c d o = v o := funext fun j => vra_ne (fun z => h1 z.1) h2
theorem WF.rns (w : WF v) (hn : v 0 5 = (n : Int)) (h8 : n < 8) (ha : 0 ≤ a ∧ a < v 0 3) (hb : 0 ≤ b ∧ b ≤ c ∧ c ≤ 9999) (hd : 1 ≤ d ∧ d ≤ 400) : WF (vra v n a b c d) := by
  obtain ⟨c0, c1, c2, c3⟩ := vra_cs (v := v) (n := n) (a := a) (b := b) (c := c) (d := d)
  have hS := w.nS
  obtain ⟨a1, a2, a3, a4, a5, a6, a7, a8, a9⟩ := w
  have z0 : vra v n a b c d 0 0 = v 0 0 := vra_ne (by omega) (by omega)
  have z1 : vra v n a b c d 0 1 = v 0 1 := vra_ne (by omega) (by omega)
  have z3 : vra v n a b c d 0 3 = v 0 3 := vra_ne (by omega) (by omega)
  have z7 : vra v n a b c d 0 7 = v 0 7 := vra_ne (by omega) (by omega)
  refine ⟨by rw [z0]; exact a1, by rw [z1]; exact a2, by rw [z3]; exact a3, by rw [vra_n]; omega, by rw [z7]; exact a5, fun j hj => by rw [vra_row (o := 1) (by omega) (by omega)]; exact a6 j hj, fun s hs => ?_, fun r hr => ?_, fun k hk => ?_⟩
  · rw [z3] at hs
    have := a7 s hs
    unfold WFs at this ⊢
    rw [vra_row (o := 5 + 2 * s) (by omega) (by omega), vra_row (o := 6 + 2 * s) (by omega) (by omega), z0]
    exact this
  · rw [vra_n] at hr
    by_cases q : r = n
    · subst q
      unfold WFr
      rw [c0, c1, c2, c3, z3]
      exact ⟨ha, hb, hd⟩
    · have := a8 r (by omega)
      unfold WFr at this ⊢
      rw [vra_row (o := 17 + r) (by omega) (by omega), z3]
      exact this
  · rw [z7] at hk
    have := a9 k hk
    unfold WFc at this ⊢
    rw [vra_row (o := 25 + k) (by omega) (by omega), vra_row (o := 1) (by omega) (by omega), z0, z1, z3]
    exact this
theorem MR.rns {N T T' : Nat → Int} (m : MR v N T) (w : WF v) (hn : v 0 5 = (n : Int)) (h8 : n < 8) (hT : ∀ i, i ≠ 63 → i ≠ 30 + n → i ≠ 38 + n → i ≠ 46 + n → i ≠ 54 + n → T' i = T i) (t63 : T' 63 = ((n + 1 : Nat) : Int)) (t0 : T' (30 + n) = a) (t1 : T' (38 + n) = b) (t2 : T' (46 + n) = c) (t3 : T' (54 + n) = d) : MR (vra v n a b c d) N T' := by
  obtain ⟨c0, c1, c2, c3⟩ := vra_cs (v := v) (n := n) (a := a) (b := b) (c := c) (d := d)
  have hS := w.nS
  have hK := w.2.2.2.2.1
  obtain ⟨a1, a2, a3, a4, a5, a6, a7, a8, a9⟩ := m
  have z0 : vra v n a b c d 0 0 = v 0 0 := vra_ne (by omega) (by omega)
  have z1 : vra v n a b c d 0 1 = v 0 1 := vra_ne (by omega) (by omega)
  have z3 : vra v n a b c d 0 3 = v 0 3 := vra_ne (by omega) (by omega)
  have z7 : vra v n a b c d 0 7 = v 0 7 := vra_ne (by omega) (by omega)
  refine ⟨by rw [z0]; exact a1, by rw [z1, hT 64 (by omega) (by omega) (by omega) (by omega) (by omega)]; exact a2, by rw [z3, hT 62 (by omega) (by omega) (by omega) (by omega) (by omega)]; exact a3, by rw [vra_n, t63], by rw [z7]; exact a5, fun j hj => by rw [vra_row (o := 1) (by omega) (by omega)]; exact a6 j hj, fun s hs => ?_, fun r hr => ?_, fun k hk => ?_⟩
  · rw [z3] at hs
    obtain ⟨b1, b2, b3, b4, b5, b6, b7, b8⟩ := a7 s hs
    unfold MRs
    rw [vra_row (o := 5 + 2 * s) (by omega) (by omega), vra_row (o := 6 + 2 * s) (by omega) (by omega)]
    refine ⟨?_, ?_, ?_, ?_, ?_, b6, b7, b8⟩
    · rw [hT _ (by omega) (by omega) (by omega) (by omega) (by omega)]; exact b1
    · rw [hT _ (by omega) (by omega) (by omega) (by omega) (by omega)]; exact b2
    · rw [hT _ (by omega) (by omega) (by omega) (by omega) (by omega)]; exact b3
    · rw [hT _ (by omega) (by omega) (by omega) (by omega) (by omega)]; exact b4
    · rw [hT _ (by omega) (by omega) (by omega) (by omega) (by omega)]; exact b5
  · rw [vra_n] at hr
    by_cases q : r = n
    · subst q
      unfold MRr
      rw [c0, c1, c2, c3, t0, t1, t2, t3]
      exact ⟨rfl, rfl, rfl, rfl⟩
    · obtain ⟨b1, b2, b3, b4⟩ := a8 r (by omega)
      unfold MRr
      rw [vra_row (o := 17 + r) (by omega) (by omega)]
      refine ⟨?_, ?_, ?_, ?_⟩
      · rw [hT _ (by omega) (by omega) (by omega) (by omega) (by omega)]; exact b1
      · rw [hT _ (by omega) (by omega) (by omega) (by omega) (by omega)]; exact b2
      · rw [hT _ (by omega) (by omega) (by omega) (by omega) (by omega)]; exact b3
      · rw [hT _ (by omega) (by omega) (by omega) (by omega) (by omega)]; exact b4
  · rw [z7] at hk
    have := a9 k hk
    unfold MRc at this ⊢
    rw [vra_row (o := 25 + k) (by omega) (by omega)]
    exact this
theorem rns_good (g : Good v) (hn : v 0 5 = (n : Int)) (h8 : n < 8) (ha : 0 ≤ a ∧ a < v 0 3) (hb : 0 ≤ b ∧ b ≤ c ∧ c ≤ 9999) (hd : 1 ≤ d ∧ d ≤ 400) : Good (vra v n a b c d) := by
  have w7 := g.1.2.2.2.2.1
  refine ⟨g.1.rns hn h8 ha hb hd, Ceq.gi (v := v) ⟨⟨(vra_ne (by omega) (by omega)).symm, (vra_ne (by omega) (by omega)).symm, (vra_ne (by omega) (by omega)).symm⟩, fun i hi => (vra_ne (by omega) (by omega)).symm, fun k hk => ?_⟩ g.2⟩
  have er : vra v n a b c d (25 + k) = v (25 + k) := vra_row (by omega) (by omega)
  rw [er]
  exact ⟨fun i hi => rfl, rfl, fun _ => ⟨rfl, rfl⟩⟩
end VR
theorem e4_addRain {h : zH} {A n : Nat} (hc : cly h.2 A) (hn : h.1 A 5 = (n : Int)) (h8 : n < 8) {a b c d : Int} : ∃ h', q_X4_addRain h A a b c d = some ((), h') ∧ h'.2 = h.2 ∧ vw h'.1 A = vra (vw h.1 A) n a b c d ∧ ∀ q j, ¬ (A ≤ q ∧ q < A + 41) → h'.1 q j = h.1 q j := by
  have eP : h.2 (h.2 A 6) n = A + (17 + n) := by rw [hc.rns, hc.rn]
  unfold q_X4_addRain
  rw [hn, if_neg (by omega), zgpos h8, Int.toNat_natCast, eP]
  simp only [zlet_b]
  have z5 : (zput (zput (zput (zput h (A + (17 + n)) 0 a) (A + (17 + n)) 1 b) (A + (17 + n)) 2 c) (A + (17 + n)) 3 d).1 A 5 = (n : Int) := by
    rw [zput_ne (by omega), zput_ne (by omega), zput_ne (by omega), zput_ne (by omega)]
    exact hn
  rw [z5, zw_s (by omega)]
  refine ⟨_, rfl, rfl, ?_, fun q j hq => ?_⟩
  · rw [vw_put0, vw_put (by omega), vw_put (by omega), vw_put (by omega), vw_put (by omega)]
    rfl
  · rw [zput_ne (by omega), zput_ne (by omega), zput_ne (by omega), zput_ne (by omega), zput_ne (by omega)]
section OPS
variable {B : Nat} {t : Nat → Int} {len : Nat}
def RaiF (B : Nat) (h : zH) : Option (Unit × zH) := zbd (q_X2_accept h (B + 497)) (fun _ h1 => zbd (q_X2_readStationName h1 (B + 497) (-1)) (fun x2 h3 => zbd (q_X2_readNumber h3 (B + 497) 0 9999) (fun x4 h5 => zbd (q_X2_readNumber h5 (B + 497) x4 9999) (fun x6 h7 => zbd (q_X2_readNumber h7 (B + 497) 1 400) (fun x8 h9 => zbd (q_X2_readSemicolon h9 (B + 497)) (fun _ h10 => if h10.1 (B + 497) 3 = 0 then (zbd (q_X4_addRain h10 (h10.2 (B + 497) 1) x2 x4 x6 x8) (fun _ h11 => some ((), h11))) else (some ((), h10))))))))
def RaiG (B : Nat) (g : zH) : Option (Unit × zH) := zbd (q_X8_goOn g (B + 541)) (fun _ h2 => zbd (q_X8_station h2 (B + 541) (-1)) (fun x3 h4 => zbd (q_X8_integer h4 (B + 541) 0 9999) (fun x5 h6 => zbd (q_X8_integer h6 (B + 541) x5 9999) (fun x7 h8 => zbd (q_X8_integer h8 (B + 541) 1 400) (fun x9 h10 => if h10.1 (B + 541) 15 = 0 then (zlet (h10.1 (h10.2 (B + 541) 4) 63) (fun x11 => zgi 65 (zw (30 + x11)) (zlet (zput h10 (h10.2 (B + 541) 4) (zw (30 + x11)).toNat x3) (fun h12 => zgi 65 (zw (38 + x11)) (zlet (zput h12 (h12.2 (B + 541) 4) (zw (38 + x11)).toNat x5) (fun h13 => zgi 65 (zw (46 + x11)) (zlet (zput h13 (h13.2 (B + 541) 4) (zw (46 + x11)).toNat x7) (fun h14 => zgi 65 (zw (54 + x11)) (zlet (zput h14 (h14.2 (B + 541) 4) (zw (54 + x11)).toNat x9) (fun h15 => zlet (zput h15 (h15.2 (B + 541) 4) 63 (zw (h15.1 (h15.2 (B + 541) 4) 63 + 1))) (fun h16 => some ((), h16)))))))))))) else (some ((), h10)))))))
theorem m_rain {U : Nat → Nat → Int} {cg sg : Int} {h g : zH} (hJ : LJ B t len U cg sg h g) (hU : h.1 (B + 497) 3 = 0 → (U = vw h.1 (B + 500) ∧ U 0 5 < 8 ∧ Good U) ∧ (h.1 (B + 497) 4 = cg ∧ h.1 (B + 497) 5 = sg) ∧ (∃ n : Nat, n < 65536 ∧ sg = (n : Int)) ∧ h.1 (B + 498) 4 ≠ 0) :
    ∃ h' g', RaiF B h = some ((), h') ∧ zbd (RaiG B g) (fun _ h12 => q_X8_readStatement_J144 h12 (B + 541)) = some ((), g') ∧ PSt B t len h g h' g' := by
  obtain ⟨h0, g0, s1, s2, s3, s4, s5, s6⟩ := j_accept hJ
  have hU1 : h0.1 (B + 497) 3 = 0 → U = vw h0.1 (B + 500) := fun z => by rw [s4.view]; exact (hU (s6 z).1).1.1
  obtain ⟨hn, gn, x, x', d1, d2, d3, d4, d5, d6⟩ := j_station s3 hU1 (a := -1) (b := -1) (fun _ => rfl)
  obtain ⟨h1, g1, y1, y1', a1, a2, a3, a4, a5, a6⟩ := j_num d3 (lo := 0) (hi := 9999) (lo' := 0) (hi' := 9999) (fun _ => ⟨rfl, rfl, by decide, by decide, by decide⟩)
  have q3 : h1.1 (B + 497) 3 = 0 → y1 = y1' ∧ (9999 : Int) = 9999 ∧ 0 ≤ y1 ∧ y1 ≤ 9999 ∧ (9999 : Int) ≤ 9999 := fun z => by
    obtain ⟨_, e1, e2, e3⟩ := a6 z
    exact ⟨e1, rfl, e2, e3, by decide⟩
  obtain ⟨h2, g2, y2, y2', b1, b2, b3, b4, b5, b6⟩ := j_num a3 (lo := y1) (hi := 9999) (lo' := y1') (hi' := 9999) q3
  obtain ⟨h3, g3, y3, y3', c1, c2, c3, c4, c5, c6⟩ := j_num b3 (lo := 1) (hi := 400) (lo' := 1) (hi' := 400) (fun _ => ⟨rfl, rfl, by decide, by decide, by decide⟩)
  have fP : FcP B h h3 := s4.tr (d4.tr (a4.tr (b4.tr c4)))
  have fR : FrN B g g3 := s5.n.tr (d5.tr (a5.n.tr (b5.n.tr c5.n)))
  have pr : h3.1 (B + 497) 3 = 0 → (h.1 (B + 497) 3 = 0 ∧ h.1 (B + 498) 5 < h3.1 (B + 498) 5) ∧ (x = x' ∧ y1 = y1' ∧ y2 = y2' ∧ y3 = y3') ∧ (0 ≤ x ∧ x < U 0 3) ∧ (0 ≤ y1 ∧ y1 ≤ y2 ∧ y2 ≤ 9999) ∧ (1 ≤ y3 ∧ y3 ≤ 400) := fun z => by
    obtain ⟨⟨r1, r2⟩, r3, r4, r5⟩ := c6 z
    obtain ⟨⟨f1, f2⟩, f3, f4, f5⟩ := b6 r1
    obtain ⟨⟨k1, k2⟩, k3, k4, k5⟩ := a6 f1
    obtain ⟨⟨l1, l2⟩, l3, l4, l5⟩ := d6 k1
    obtain ⟨m1, m2, m3⟩ := s6 l1
    have := m3 (hU m1).2.2.2
    exact ⟨⟨m1, by omega⟩, ⟨l3, k3, f3, r3⟩, l4, ⟨k4, f4, f5⟩, ⟨r4, r5⟩⟩
  have e4 : ∀ g' : zH, g'.2 = g.2 → g'.2 (B + 541) 4 = B + 541 + 3 := fun g' e => by rw [e]; exact hJ.1.2.2.2.2.2.2 4
  unfold RaiF RaiG
  rw [s1, zbd_some, d1, zbd_some, a1, zbd_some, b1, zbd_some, c1, zbd_some, s2, zbd_some, d2, zbd_some, a2, zbd_some, b2, zbd_some, c2, zbd_some]
  by_cases z : h3.1 (B + 497) 3 = 0
  · obtain ⟨⟨z0, z5⟩, ⟨v0, v1, v2, v3⟩, w0, w1, w2⟩ := pr z
    obtain ⟨⟨u1, u2, u3⟩, ⟨u4, u5⟩, u6, _⟩ := hU z0
    subst v0 v1 v2 v3
    have J0 := c3.mode z
    obtain ⟨⟨m1, m2, m3⟩, m4⟩ := J0.2.2.2.2.1
    obtain ⟨hN, hN8⟩ := u3.1.nR
    have n8 : nRn U < 8 := by omega
    generalize nRn U = n at hN hN8 n8
    have t63 : g3.1 (B + 541 + 3) 63 = (n : Int) := by rw [← hN]; exact m3.2.2.2.1
    have zn30 : ∀ _ : Unit, zw (30 + (n : Int)) = ((30 + n : Nat) : Int) := fun _ => zw_c (c := 30) (i := n) (by omega)
    have zn38 : ∀ _ : Unit, zw (38 + (n : Int)) = ((38 + n : Nat) : Int) := fun _ => zw_c (c := 38) (i := n) (by omega)
    have zn46 : ∀ _ : Unit, zw (46 + (n : Int)) = ((46 + n : Nat) : Int) := fun _ => zw_c (c := 46) (i := n) (by omega)
    have zn54 : ∀ _ : Unit, zw (54 + (n : Int)) = ((54 + n : Nat) : Int) := fun _ => zw_c (c := 54) (i := n) (by omega)
    have g1 : Good (vra U n x y1 y2 y3) := rns_good u3 hN n8 w0 w1 w2
    let gT := zput (zput (zput (zput (zput g3 (B + 541 + 3) (30 + n) x) (B + 541 + 3) (38 + n) y1) (B + 541 + 3) (46 + n) y2) (B + 541 + 3) (54 + n) y3) (B + 541 + 3) 63 ((n + 1 : Nat) : Int)
    have fT : FrX B g3 gT := ⟨rfl, fun q j z1 z2 z3 z4 => by
      show (zput _ _ _ _).1 q j = _
      rw [zput_ne (by omega), zput_ne (by omega), zput_ne (by omega), zput_ne (by omega), zput_ne (by omega)]⟩
    have f2 : g3.2 = g.2 := fR.1
    have i15 : g3.1 (B + 541) 15 = 0 := J0.2.1
    have ref : (if g3.1 (B + 541) 15 = 0 then (zlet (g3.1 (g3.2 (B + 541) 4) 63) (fun x11 => zgi 65 (zw (30 + x11)) (zlet (zput g3 (g3.2 (B + 541) 4) (zw (30 + x11)).toNat x) (fun h12 => zgi 65 (zw (38 + x11)) (zlet (zput h12 (h12.2 (B + 541) 4) (zw (38 + x11)).toNat y1) (fun h13 => zgi 65 (zw (46 + x11)) (zlet (zput h13 (h13.2 (B + 541) 4) (zw (46 + x11)).toNat y2) (fun h14 => zgi 65 (zw (54 + x11)) (zlet (zput h14 (h14.2 (B + 541) 4) (zw (54 + x11)).toNat y3) (fun h15 => zlet (zput h15 (h15.2 (B + 541) 4) 63 (zw (h15.1 (h15.2 (B + 541) 4) 63 + 1))) (fun h16 => some ((), h16)))))))))))) else (some ((), g3))) = some ((), gT) := by
      have nn1 : 30 + n < 65 := by omega
      have nn2 : 38 + n < 65 := by omega
      have nn3 : 46 + n < 65 := by omega
      have nn4 : 54 + n < 65 := by omega
      rw [if_pos i15]
      simp only [zlet_b]
      rw [e4 g3 f2, t63, zn30 (), zgpos nn1, Int.toNat_natCast, zn38 (), zgpos nn2, Int.toNat_natCast, zn46 (), zgpos nn3, Int.toNat_natCast, zn54 (), zgpos nn4, Int.toNat_natCast]
      have r1 := e4 (zput g3 (B + 541 + 3) (30 + n) x) f2
      rw [r1]
      have r2 := e4 (zput (zput g3 (B + 541 + 3) (30 + n) x) (B + 541 + 3) (38 + n) y1) f2
      rw [r2]
      have r3 := e4 (zput (zput (zput g3 (B + 541 + 3) (30 + n) x) (B + 541 + 3) (38 + n) y1) (B + 541 + 3) (46 + n) y2) f2
      rw [r3]
      have r4 := e4 (zput (zput (zput (zput g3 (B + 541 + 3) (30 + n) x) (B + 541 + 3) (38 + n) y1) (B + 541 + 3) (46 + n) y2) (B + 541 + 3) (54 + n) y3) f2
      rw [r4, zput_ne (j := 54 + n) (by omega), zput_ne (j := 46 + n) (by omega), zput_ne (j := 38 + n) (by omega), zput_ne (j := 30 + n) (by omega), t63, zw_s (by omega)]
    have J3 : LJ B t len (vra U n x y1 y2 y3) cg sg h3 gT := c3.chg fT (fun _ => by
      have T3 : ∀ i, gT.1 (B + 541 + 3) i = if i = 63 then ((n + 1 : Nat) : Int) else if i = 54 + n then y3 else if i = 46 + n then y2 else if i = 38 + n then y1 else if i = 30 + n then x else g3.1 (B + 541 + 3) i := fun i => by
        show (zput _ _ _ _).1 (B + 541 + 3) i = _
        by_cases q1 : i = 63
        · rw [if_pos q1, q1, zput_self]
        · rw [if_neg q1, zput_ne (by omega)]
          by_cases q2 : i = 54 + n
          · rw [if_pos q2, q2, zput_self]
          · rw [if_neg q2, zput_ne (by omega)]
            by_cases q3 : i = 46 + n
            · rw [if_pos q3, q3, zput_self]
            · rw [if_neg q3, zput_ne (by omega)]
              by_cases q4 : i = 38 + n
              · rw [if_pos q4, q4, zput_self]
              · rw [if_neg q4, zput_ne (by omega)]
                by_cases q5 : i = 30 + n
                · rw [if_pos q5, q5, zput_self]
                · rw [if_neg q5, zput_ne (by omega)]
      have N4 : gT.1 (B + 541 + 4) = g3.1 (B + 541 + 4) := funext fun i => by
        show (zput _ _ _ _).1 (B + 541 + 4) i = _
        rw [zput_ne (by omega), zput_ne (by omega), zput_ne (by omega), zput_ne (by omega), zput_ne (by omega)]
      refine ⟨⟨⟨m1, g1.1, ?_⟩, fun s hs hu => ?_⟩, ?_, ?_⟩
      · rw [N4]
        exact m3.rns u3.1 hN n8 (fun i i1 i2 i3 i4 i5 => by rw [T3, if_neg i1, if_neg i5, if_neg i4, if_neg i3, if_neg i2]) (by rw [T3, if_pos rfl]) (by rw [T3, if_neg (by omega), if_neg (by omega), if_neg (by omega), if_neg (by omega), if_pos rfl]) (by rw [T3, if_neg (by omega), if_neg (by omega), if_neg (by omega), if_pos rfl]) (by rw [T3, if_neg (by omega), if_neg (by omega), if_pos rfl]) (by rw [T3, if_neg (by omega), if_pos rfl])
      · rw [vra_ne (by omega) (by omega)] at hu
        rw [N4]
        exact m4 s hs hu
      · show (zput _ _ _ _).1 (B + 541) 20 = _
        rw [zput_ne (by omega), zput_ne (by omega), zput_ne (by omega), zput_ne (by omega), zput_ne (by omega)]
        exact J0.2.2.2.2.2.1
      · show (zput _ _ _ _).1 (B + 541) 19 = _
        rw [zput_ne (by omega), zput_ne (by omega), zput_ne (by omega), zput_ne (by omega), zput_ne (by omega)]
        exact J0.2.2.2.2.2.2)
    obtain ⟨h', g', k1, k2, k3, k4, k5, k6, k7⟩ := j_tail J3 (upd := fun h10 => zbd (q_X4_addRain h10 (h10.2 (B + 497) 1) x y1 y2 y3) (fun _ h11 => some ((), h11))) (fun h4 fp _ z4 => by
      have rA : h4.2 (B + 497) 1 = B + 500 := by rw [fp.1, fP.1]; exact hJ.1.2.2.2.2.1
      have cl : cly h4.2 (B + 500) := by rw [fp.1, fP.1]; exact hJ.1.2.2.2.2.2.1.1
      have ev : vw h4.1 (B + 500) = U := by rw [fp.view, fP.view]; exact u1.symm
      have n5 : h4.1 (B + 500) 5 = (n : Int) := by rw [← hN, ← ev]; exact a_0 5
      obtain ⟨h5, p1, p2, p3, p4⟩ := e4_addRain cl n5 n8 (a := x) (b := y1) (c := y2) (d := y3)
      rw [rA, p1, zbd_some]
      refine ⟨h5, rfl, ⟨p2, fun q j z1 z2 => p4 q j (by omega)⟩, by rw [p3, ev], ?_, ?_, g1, u6⟩
      · rw [p4 _ _ (by omega), fp.2 _ _ (by omega) (by omega), fP.2 _ _ (by omega) (by omega)]
        exact u4
      · rw [p4 _ _ (by omega), fp.2 _ _ (by omega) (by omega), fP.2 _ _ (by omega) (by omega)]
        exact u5)
    rw [ref, zbd_some]
    refine ⟨h', g', k1, k2, k3, fP.w.tr k4, fR.w.tr (fT.w.tr k5), ?_, fun zz => ?_⟩
    · have : gT.1 (B + 541) 18 = g3.1 (B + 541) 18 := by
        show (zput _ _ _ _).1 (B + 541) 18 = _
        rw [zput_ne (by omega), zput_ne (by omega), zput_ne (by omega), zput_ne (by omega), zput_ne (by omega)]
      rw [k6, this, fR.2 _ _ (by omega)]
    · obtain ⟨d1, d2⟩ := k7 zz
      exact ⟨z0, Int.lt_of_lt_of_le z5 d2⟩
  · have i15 : ¬ g3.1 (B + 541) 15 = 0 := fun w => z (c3.e0.mpr w)
    obtain ⟨h', g', k1, k2, k3, k4, k5, k6, k7⟩ := j_tail c3 (upd := fun h10 => zbd (q_X4_addRain h10 (h10.2 (B + 497) 1) x y1 y2 y3) (fun _ h11 => some ((), h11))) (fun h4 fp z0 z4 => absurd z0 z)
    rw [if_neg i15, zbd_some]
    exact ⟨h', g', k1, k2, k3, fP.w.tr k4, fR.w.tr k5, by rw [k6, fR.2 _ _ (by omega)], fun zz => absurd (k7 zz).1 z⟩
theorem j_rain {h g : zH} (hB : LB B t len h g) (h0 : h.1 (B + 497) 3 = 0) (hk : h.1 (B + 498) 4 ≠ 0) : ∃ h' g', q_X2_readRain h (B + 497) = some ((), h') ∧ q_X8_readStatement_J15 g (B + 541) 2 = some ((), g') ∧ PSt B t len h g h' g' := by
  obtain ⟨hJ, hG⟩ := hB
  obtain ⟨gd, n, n1, n2⟩ := hG h0
  have J0 := hJ.mode h0
  have hC := hJ.1
  have rA : h.2 (B + 497) 1 = B + 500 := hC.2.2.2.2.1
  have hmv := J0.2.2.2.2.1.1
  have e5 : h.1 (B + 500) 5 = vw h.1 (B + 500) 0 5 := a_0 5
  have e63 : g.1 (g.2 (B + 541) 4) 63 = vw h.1 (B + 500) 0 5 := by rw [hC.2.2.2.2.2.2 4]; exact hmv.2.2.2.2.2.1
  have w5 := gd.1.2.2.2.1
  have cls : q_X2_readRain h (B + 497) = if vw h.1 (B + 500) 0 5 < 8 then RaiF B h else zbd (q_X2_fail h (B + 497) ((-16))) (fun _ h25 => RaiF B h25) := by
    unfold q_X2_readRain
    rw [rA, e5]
    rfl
  have ref : q_X8_readStatement_J15 g (B + 541) 2 = if vw h.1 (B + 500) 0 5 = 8 then zbd (zbd (q_X8_failsIf g (B + 541) 1 (-16)) (fun _ h1 => RaiG B h1)) (fun _ h11 => q_X8_readStatement_J144 h11 (B + 541)) else zbd (zbd (q_X8_failsIf g (B + 541) 0 (-16)) (fun _ h1 => RaiG B h1)) (fun _ h11 => q_X8_readStatement_J144 h11 (B + 541)) := by
    unfold q_X8_readStatement_J15
    rw [if_neg (by decide), if_neg (by decide), if_pos rfl]
    unfold q_X8_readRain
    rw [e63]
    by_cases q : vw h.1 (B + 500) 0 5 = 8
    · rw [if_pos q, if_pos q]
      rfl
    · rw [if_neg q, if_neg q]
      rfl
  rw [cls, ref]
  by_cases q : vw h.1 (B + 500) 0 5 < 8
  · have q8 : ¬ vw h.1 (B + 500) 0 5 = 8 := by omega
    rw [if_pos q, if_neg q8, j_ok, zbd_some]
    exact m_rain hJ (fun _ => ⟨⟨rfl, q, gd⟩, ⟨rfl, rfl⟩, ⟨n, n1, n2⟩, hk⟩)
  · have q8 : vw h.1 (B + 500) 0 5 = 8 := by omega
    obtain ⟨h1, g1, f1, f2, f3, f4, f5, f6⟩ := m_bad hJ (c := -16) (by decide)
    obtain ⟨h', g', p1, p2, p3⟩ := m_rain f4 (fun z => absurd z f3)
    rw [if_neg q, if_pos q8, f1, zbd_some, f2, zbd_some]
    exact ⟨h', g', p1, p2, PSt.of f5 f6 p3 (fun z => absurd z f3)⟩
end OPS
