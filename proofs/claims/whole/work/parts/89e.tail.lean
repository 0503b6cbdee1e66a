/-! Reading on both sides: the end of a statement, names. -/
section OPS
variable {B : Nat} {t : Nat → Int} {len : Nat}
def FcU (B : Nat) (h h' : zH) : Prop := h'.2 = h.2 ∧ ∀ q j, ¬ (q = B + 497 ∧ (j = 4 ∨ j = 5)) → ¬ (B + 500 ≤ q ∧ q < B + 541) → h'.1 q j = h.1 q j
def FcW (B : Nat) (h h' : zH) : Prop := h'.2 = h.2 ∧ ∀ q j, ¬ (q = B + 497 ∧ 2 ≤ j ∧ j ≤ 5) → ¬ (q = B + 498 ∧ 3 ≤ j ∧ j ≤ 6) → ¬ (B + 500 ≤ q ∧ q < B + 541) → h'.1 q j = h.1 q j
def FrW (B : Nat) (g g' : zH) : Prop := g'.2 = g.2 ∧ ∀ q j, ¬ (q = B + 541 ∧ 10 ≤ j ∧ j ≠ 17) → q ≠ B + 541 + 3 → q ≠ B + 541 + 4 → ¬ (B + 541 + 7 ≤ q ∧ q ≤ B + 541 + 9) → g'.1 q j = g.1 q j
theorem FcW.rf {h : zH} : FcW B h h := ⟨rfl, fun _ _ _ _ _ => rfl⟩
theorem FrW.rf {g : zH} : FrW B g g := ⟨rfl, fun _ _ _ _ _ _ => rfl⟩
theorem FcW.tr {h h' h'' : zH} (a : FcW B h h') (b : FcW B h' h'') : FcW B h h'' := ⟨b.1.trans a.1, fun q j z1 z2 z3 => (b.2 q j z1 z2 z3).trans (a.2 q j z1 z2 z3)⟩
theorem FrW.tr {g g' g'' : zH} (a : FrW B g g') (b : FrW B g' g'') : FrW B g g'' := ⟨b.1.trans a.1, fun q j z1 z2 z3 z4 => (b.2 q j z1 z2 z3 z4).trans (a.2 q j z1 z2 z3 z4)⟩
theorem FcP.w {h h' : zH} (a : FcP B h h') : FcW B h h' := ⟨a.1, fun q j z1 z2 _ => a.2 q j (fun y => z1 ⟨y.1, by omega⟩) z2⟩
theorem FrP.w {g g' : zH} (a : FrP B g g') : FrW B g g' := ⟨a.1, fun q j z1 _ _ _ => a.2 q j (fun y => z1 ⟨y.1, by omega⟩)⟩
theorem FcU.w {h h' : zH} (a : FcU B h h') : FcW B h h' := ⟨a.1, fun q j z1 _ z3 => a.2 q j (fun y => z1 ⟨y.1, by omega⟩) z3⟩
/-- between two statements -/
def LB (B : Nat) (t : Nat → Int) (len : Nat) (h g : zH) : Prop := LJ B t len (vw h.1 (B + 500)) (h.1 (B + 497) 4) (h.1 (B + 497) 5) h g ∧ (h.1 (B + 497) 3 = 0 → Good (vw h.1 (B + 500)) ∧ ∃ n : Nat, n < 65536 ∧ h.1 (B + 497) 5 = (n : Int))
theorem LJ.p18 {U : Nat → Nat → Int} {cg sg : Int} {h g : zH} (hJ : LJ B t len U cg sg h g) {j : Nat} {x : Int} (hj : j = 14 ∨ j = 18) : LJ B t len U cg sg h (zput g (B + 541) j x) := by
  obtain ⟨⟨c1, c2, c3, c4, c5, c6, c7⟩, hJ⟩ := hJ
  refine ⟨⟨c1, c2, c3.put (by omega), c4, c5, c6, c7⟩, ?_⟩
  rcases hJ with ⟨j1, j2, j3, ⟨s, x', κ, tk⟩, j5, j6, j7⟩ | ⟨e, e0, e1, e2, e3⟩
  · obtain ⟨t1, ⟨t2, t3, t4⟩, t5, t6, t7, t8, t9⟩ := tk
    have er : (zput g (B + 541) j x).1 (B + 541 + 3) = g.1 (B + 541 + 3) := funext fun i => zput_ne (by omega)
    refine Or.inl ⟨j1, by rw [zput_ne (by omega)]; exact j2, j3, ⟨s, x', κ, t1, ⟨by rw [zput_ne (by omega)]; exact t2, by rw [zput_ne (by omega)]; exact t3, by rw [zput_ne (by omega)]; exact t4⟩, t5, t6, t7, fun z => by rw [zput_ne (by omega)]; exact t8 z, fun z => by rw [zput_ne (by omega)]; exact t9 z⟩, ?_, by rw [zput_ne (by omega)]; exact j6, by rw [zput_ne (by omega)]; exact j7⟩
    exact j5.keep rfl er (funext fun i => zput_ne (by omega))
  · exact Or.inr ⟨e, e0, e1, by rw [zput_ne (by omega)]; exact e2, by rw [zput_ne (by omega)]; exact e3⟩
theorem LJ.e0 {U : Nat → Nat → Int} {cg sg : Int} {h g : zH} (hJ : LJ B t len U cg sg h g) : (h.1 (B + 497) 3 = 0 ↔ g.1 (B + 541) 15 = 0) := by
  obtain ⟨_, hJ⟩ := hJ
  rcases hJ with ⟨j1, j2, _⟩ | ⟨e, e0, e1, e2, e3⟩
  · rw [j1, j2]
  · rw [e1, e2]
theorem LJ.mode {U : Nat → Nat → Int} {cg sg : Int} {h g : zH} (hJ : LJ B t len U cg sg h g) (h0 : h.1 (B + 497) 3 = 0) : LJ0 B t len U cg sg h g := by
  rcases hJ.2 with z | ⟨e, e0, e1, _⟩
  · exact z
  · omega
theorem LJ.err {U : Nat → Nat → Int} {cg sg : Int} {h g : zH} (hJ : LJ B t len U cg sg h g) (h0 : ¬ h.1 (B + 497) 3 = 0) : LJE B h g := by
  rcases hJ.2 with z | z
  · exact absurd z.1 h0
  · exact z
theorem j_tail {U' : Nat → Nat → Int} {cg' sg' : Int} {h g : zH} (hJ : LJ B t len U' cg' sg' h g) {upd : zH → Option (Unit × zH)} (hupd : ∀ h4, FcP B h h4 → h.1 (B + 497) 3 = 0 → h4.1 (B + 497) 3 = 0 → ∃ h5, upd h4 = some ((), h5) ∧ FcU B h4 h5 ∧ vw h5.1 (B + 500) = U' ∧ h5.1 (B + 497) 4 = cg' ∧ h5.1 (B + 497) 5 = sg' ∧ Good U' ∧ ∃ n : Nat, n < 65536 ∧ sg' = (n : Int)) :
    ∃ h' g', zbd (q_X2_readSemicolon h (B + 497)) (fun _ h4 => if h4.1 (B + 497) 3 = 0 then upd h4 else some ((), h4)) = some ((), h') ∧ q_X8_readStatement_J144 g (B + 541) = some ((), g') ∧ LB B t len h' g' ∧ FcW B h h' ∧ FrW B g g' ∧ g'.1 (B + 541) 18 = zw (g.1 (B + 541) 18 + 1) ∧ (h'.1 (B + 497) 3 = 0 → h.1 (B + 497) 3 = 0 ∧ h.1 (B + 498) 5 ≤ h'.1 (B + 498) 5) := by
  have hC := hJ.1
  have r0 := hC.2.2.2.1
  have fin : ∀ h1 g1 : zH, LJ B t len U' cg' sg' h1 g1 → FcP B h h1 → FrP B g g1 → (h1.1 (B + 497) 3 = 0 → h.1 (B + 497) 3 = 0 ∧ h.1 (B + 498) 5 ≤ h1.1 (B + 498) 5) → ∃ h', (if h1.1 (B + 497) 3 = 0 then upd h1 else some ((), h1)) = some ((), h') ∧ LB B t len h' (zput g1 (B + 541) 18 (zw (g1.1 (B + 541) 18 + 1))) ∧ FcW B h h' ∧ (h'.1 (B + 497) 3 = 0 → h.1 (B + 497) 3 = 0 ∧ h.1 (B + 498) 5 ≤ h'.1 (B + 498) 5) := by
    intro h1 g1 J1 a1 b1 p1
    by_cases z : h1.1 (B + 497) 3 = 0
    · rw [if_pos z]
      obtain ⟨h5, u1, u2, u3, u4, u5, u6⟩ := hupd h1 a1 (p1 z).1 z
      have J2 := J1.p18 (j := 18) (x := zw (g1.1 (B + 541) 18 + 1)) (Or.inr rfl)
      obtain ⟨j1, j2, j3, ⟨s, x', κ, tk⟩, j5, j6, j7⟩ := J2.mode z
      obtain ⟨c1, c2, c3, c4, c5, c6, c7⟩ := J2.1
      have k5 : h5.1 (B + 498) 5 = h1.1 (B + 498) 5 := u2.2 _ _ (by omega) (by omega)
      have l3 : h5.1 (B + 497) 3 = h1.1 (B + 497) 3 := u2.2 _ _ (by omega) (by omega)
      refine ⟨h5, u1, ⟨⟨⟨c1, ⟨by rw [u2.2 _ _ (by omega) (by omega)]; exact c2.1, by rw [u2.1]; exact c2.2.1, fun i hi => by rw [u2.2 _ _ (by omega) (by omega)]; exact c2.2.2 i hi⟩, c3, by rw [u2.1]; exact c4, by rw [u2.1]; exact c5, ⟨by rw [u2.1]; exact c6.1, by rw [u3]; exact u6.1.1⟩, c7⟩, Or.inl ⟨by rw [l3]; exact j1, j2, by rw [u2.2 _ _ (by omega) (by omega)]; exact j3, ⟨s, x', κ, ?_⟩, by rw [u3]; exact j5, by rw [u4]; exact j6, by rw [u5]; exact j7⟩⟩, fun _ => by rw [u3, u5]; exact u6⟩, a1.w.tr u2.w, fun y => by rw [k5]; exact p1 z⟩
      obtain ⟨⟨t1, t1', t1''⟩, t2, t5, t6, t7, t8, t9⟩ := tk
      exact ⟨⟨by rw [u2.2 _ _ (by omega) (by omega)]; exact t1, by rw [u2.2 _ _ (by omega) (by omega)]; exact t1', by rw [k5]; exact t1''⟩, t2, t5, t6, t7, t8, fun y => by rw [u2.2 _ _ (by omega) (by omega)]; exact t9 y⟩
    · rw [if_neg z]
      have J2 := J1.p18 (j := 18) (x := zw (g1.1 (B + 541) 18 + 1)) (Or.inr rfl)
      exact ⟨h1, rfl, ⟨⟨J2.1, Or.inr (J2.err z)⟩, fun y => absurd y z⟩, a1.w, p1⟩
  have fr18 : ∀ g1 : zH, FrP B g g1 → FrW B g (zput g1 (B + 541) 18 (zw (g1.1 (B + 541) 18 + 1))) := fun g1 b => ⟨b.1, fun q j z1 z2 z3 z4 => by rw [zput_ne (by omega)]; exact b.w.2 q j z1 z2 z3 z4⟩
  have n18 : ∀ g1 : zH, FrP B g g1 → (zput g1 (B + 541) 18 (zw (g1.1 (B + 541) 18 + 1))).1 (B + 541) 18 = zw (g.1 (B + 541) 18 + 1) := fun g1 b => by rw [zput_self, b.2 _ _ (by omega)]
  have good : ∀ c : Int, c = 0 → ∃ h' g', zbd (zbd (q_X2_accept h (B + 497)) (fun _ h1 => some ((), h1))) (fun _ h4 => if h4.1 (B + 497) 3 = 0 then upd h4 else some ((), h4)) = some ((), h') ∧ q_X8_readStatement_J158 g (B + 541) c (B + 541) = some ((), g') ∧ LB B t len h' g' ∧ FcW B h h' ∧ FrW B g g' ∧ g'.1 (B + 541) 18 = zw (g.1 (B + 541) 18 + 1) ∧ (h'.1 (B + 497) 3 = 0 → h.1 (B + 497) 3 = 0 ∧ h.1 (B + 498) 5 ≤ h'.1 (B + 498) 5) := by
    rintro c rfl
    obtain ⟨h1, g1, p1, p2, p3, p4, p5, p6⟩ := j_accept hJ
    obtain ⟨h', f1, f2, f3, f4⟩ := fin h1 g1 p3 p4 p5 (fun z => ⟨(p6 z).1, (p6 z).2.1⟩)
    unfold q_X8_readStatement_J158
    rw [p1, zbd_some, zbd_some, j_ok, zbd_some, p2, zbd_some]
    simp only [zlet_b]
    exact ⟨h', _, f1, rfl, f2, f3, fr18 g1 p5, n18 g1 p5, f4⟩
  have bad : ∃ h' g', zbd (zbd (q_X2_fail h (B + 497) ((-11))) (fun _ h2 => zbd (q_X2_accept h2 (B + 497)) (fun _ h3 => some ((), h3)))) (fun _ h4 => if h4.1 (B + 497) 3 = 0 then upd h4 else some ((), h4)) = some ((), h') ∧ q_X8_readStatement_J158 g (B + 541) 1 (B + 541) = some ((), g') ∧ LB B t len h' g' ∧ FcW B h h' ∧ FrW B g g' ∧ g'.1 (B + 541) 18 = zw (g.1 (B + 541) 18 + 1) ∧ (h'.1 (B + 497) 3 = 0 → h.1 (B + 497) 3 = 0 ∧ h.1 (B + 498) 5 ≤ h'.1 (B + 498) 5) := by
    obtain ⟨h0, g0, q1, q2, q3, q4, q5, q6⟩ := j_fail hJ (c := -11) (by decide)
    have J0 : LJ B t len U' cg' sg' h0 g0 := ⟨q3, Or.inr q4⟩
    obtain ⟨e, e0, e1, _⟩ := q4
    obtain ⟨h1, g1, p1, p2, p3, p4, p5, p6⟩ := j_accept J0
    obtain ⟨h', f1, f2, f3, f4⟩ := fin h1 g1 p3 (q5.tr p4) (q6.tr p5) (fun z => by
      have := (p6 z).1
      omega)
    unfold q_X8_readStatement_J158
    rw [q1, zbd_some, p1, zbd_some, zbd_some, q2, zbd_some, p2, zbd_some]
    simp only [zlet_b]
    exact ⟨h', _, f1, rfl, f2, f3, fr18 g1 (q6.tr p5), n18 g1 (q6.tr p5), f4⟩
  unfold q_X2_readSemicolon q_X8_readStatement_J144
  rw [r0]
  by_cases z : h.1 (B + 497) 3 = 0
  · obtain ⟨j1, j2, j3, ⟨s, x', κ, tk⟩, j5, j6, j7⟩ := hJ.mode z
    have hk := kr_i κ tk.2.2.2.1
    by_cases hκ : κ = 3
    · have c4 : h.1 (B + 498) 4 = 3 := by rw [tk.1.2.1, hκ]; rfl
      have c12 : g.1 (B + 541) 12 = 2 := by rw [tk.2.1.2.2]; exact hk.2.2.1.mpr hκ
      rw [if_pos c4, if_pos c12]
      exact good 0 rfl
    · have c4 : ¬ h.1 (B + 498) 4 = 3 := by rw [tk.1.2.1]; omega
      have c12 : ¬ g.1 (B + 541) 12 = 2 := by rw [tk.2.1.2.2]; exact fun y => hκ (hk.2.2.1.mp y)
      rw [if_neg c4, if_neg c12]
      exact bad
  · skip
    have hE := hJ.err z
    have noC : q_X2_fail h (B + 497) (-11) = some ((), h) := by
      unfold q_X2_fail
      rw [if_neg z]
    have noF : ∀ y : Int, q_X8_failsIf g (B + 541) y (-11) = some ((), g) := fun y => by
      have := fun w => z (hJ.e0.mpr w)
      unfold q_X8_failsIf
      rw [if_neg this]
    have e158 : ∀ y : Int, q_X8_readStatement_J158 g (B + 541) y (B + 541) = q_X8_readStatement_J158 g (B + 541) 0 (B + 541) := fun y => by
      unfold q_X8_readStatement_J158
      rw [noF, noF]
    have g0 := good 0 rfl
    have c1 : (if h.1 (B + 498) 4 = 3 then zbd (q_X2_accept h (B + 497)) (fun _ h1 => some ((), h1)) else zbd (q_X2_fail h (B + 497) ((-11))) (fun _ h2 => zbd (q_X2_accept h2 (B + 497)) (fun _ h3 => some ((), h3)))) = zbd (q_X2_accept h (B + 497)) (fun _ h1 => some ((), h1)) := by
      split
      · rfl
      · rw [noC, zbd_some]
    have c2 : (if g.1 (B + 541) 12 = 2 then q_X8_readStatement_J158 g (B + 541) 0 (B + 541) else q_X8_readStatement_J158 g (B + 541) 1 (B + 541)) = q_X8_readStatement_J158 g (B + 541) 0 (B + 541) := by
      split
      · rfl
      · exact e158 1
    rw [c1, c2]
    exact g0
end OPS
