/-! Names of stations, read on both sides. -/
section OPS
variable {B : Nat} {t : Nat → Int} {len : Nat}
/-- what the reference may change besides its tokens -/
def FrX (B : Nat) (g g' : zH) : Prop := g'.2 = g.2 ∧ ∀ q j, ¬ (q = B + 541 ∧ 18 ≤ j) → q ≠ B + 541 + 3 → q ≠ B + 541 + 4 → ¬ (B + 541 + 7 ≤ q ∧ q ≤ B + 541 + 9) → g'.1 q j = g.1 q j
theorem FrX.w {g g' : zH} (a : FrX B g g') : FrW B g g' := ⟨a.1, fun q j z1 z2 z3 z4 => a.2 q j (fun y => z1 ⟨y.1, by omega⟩) z2 z3 z4⟩
theorem LJ.chg {U U' : Nat → Nat → Int} {cg sg cg' sg' : Int} {h g g' : zH} (hJ : LJ B t len U cg sg h g) (f : FrX B g g') (h0 : h.1 (B + 497) 3 = 0 → RdV B U' g' ∧ g'.1 (B + 541) 20 = cg' ∧ g'.1 (B + 541) 19 = sg') : LJ B t len U' cg' sg' h g' := by
  have hJ' := hJ
  obtain ⟨⟨c1, c2, c3, c4, c5, c6, c7⟩, hJ⟩ := hJ
  refine ⟨⟨c1, c2, ⟨by rw [f.2 _ _ (by omega) (by omega) (by omega) (by omega)]; exact c3.1, by rw [f.1]; exact c3.2.1, fun i hi => by rw [f.2 _ _ (by omega) (by omega) (by omega) (by omega)]; exact c3.2.2 i hi⟩, c4, c5, c6, by rw [f.1]; exact c7⟩, ?_⟩
  by_cases z : h.1 (B + 497) 3 = 0
  · obtain ⟨j1, j2, j3, ⟨s, x', κ, tk⟩, j5, j6, j7⟩ := hJ'.mode z
    obtain ⟨t1, ⟨t2, t3, t4⟩, t5, t6, t7, t8, t9⟩ := tk
    obtain ⟨k1, k2, k3⟩ := h0 z
    have e : ∀ j, j < 18 → g'.1 (B + 541) j = g.1 (B + 541) j := fun j hj => f.2 _ _ (by omega) (by omega) (by omega) (by omega)
    exact Or.inl ⟨j1, by rw [e 15 (by decide)]; exact j2, j3, ⟨s, x', κ, t1, ⟨by rw [e 10 (by decide)]; exact t2, by rw [e 11 (by decide)]; exact t3, by rw [e 12 (by decide)]; exact t4⟩, t5, t6, t7, fun y => by rw [e 13 (by decide)]; exact t8 y, fun y => by rw [e 13 (by decide)]; exact t9 y⟩, k1, k2, k3⟩
  · obtain ⟨e, e0, e1, e2, e3⟩ := hJ'.err z
    exact Or.inr ⟨e, e0, e1, by rw [f.2 _ _ (by omega) (by omega) (by omega) (by omega)]; exact e2, by rw [f.2 _ _ (by omega) (by omega) (by omega) (by omega)]; exact e3⟩
theorem nofail {h : zH} (z : ¬ h.1 (B + 497) 3 = 0) (c : Int) : q_X2_fail h (B + 497) c = some ((), h) := by
  unfold q_X2_fail
  rw [if_neg z]
theorem noacc {h : zH} (z : ¬ h.1 (B + 497) 3 = 0) : q_X2_accept h (B + 497) = some ((), h) := by
  unfold q_X2_accept
  rw [if_neg z]
theorem nofails {g : zH} (z : ¬ g.1 (B + 541) 15 = 0) (y c : Int) : q_X8_failsIf g (B + 541) y c = some ((), g) := by
  unfold q_X8_failsIf
  rw [if_neg z]
theorem nogo {g : zH} (z : ¬ g.1 (B + 541) 15 = 0) : q_X8_goOn g (B + 541) = some ((), g) := by
  unfold q_X8_goOn
  rw [if_neg z]
/-- what follows the name in the statement of a station -/
def J59c (B : Nat) (g : zH) : Option (Unit × zH) := zbd (q_X8_integer g (B + 541) 0 5000) (fun x6 h7 => if h7.1 (B + 541) 15 = 0 then (if h7.1 (B + 541) 12 = 3 then (q_X8_readStation_J97 h7 (B + 541) x6 1) else (q_X8_readStation_J97 h7 (B + 541) x6 0)) else (q_X8_readStation_J97 h7 (B + 541) x6 0))
theorem j_newName {U : Nat → Nat → Int} {cg sg : Int} {h g : zH} (hJ : LJ B t len U cg sg h g) (hU : h.1 (B + 497) 3 = 0 → U = vw h.1 (B + 500)) :
    ∃ h' g' y, q_X2_readNewName h (B + 497) = some (y, h') ∧ zbd (q_X8_seesName g (B + 541)) (fun _ h3 => if h3.1 (B + 541) 15 = 0 then (zbp (q_X8_found h3 (h3.2 (B + 541) 4) (h3.1 (B + 541) 14)) (fun x32 => if x32 = (-1) then (q_X8_readStation_J59 h3 (B + 541) 0 (B + 541)) else (q_X8_readStation_J59 h3 (B + 541) 1 (B + 541)))) else (q_X8_readStation_J59 h3 (B + 541) 0 (B + 541))) = J59c B g' ∧ LJ B t len U cg sg h' g' ∧ FcP B h h' ∧ FrN B g g' ∧ (h'.1 (B + 497) 3 = 0 → h.1 (B + 497) 3 = 0 ∧ h.1 (B + 498) 5 ≤ h'.1 (B + 498) 5 ∧ g'.1 (B + 541) 14 = y) := by
  obtain ⟨h1, g1, y, n1, n2, n3, n4, n5, n6⟩ := j_name hJ
  have r1 : h1.2 (B + 497) 1 = B + 500 := n3.1.2.2.2.2.1
  have hcv := n3.1.2.2.2.2.2.1
  unfold q_X2_readNewName
  rw [n1, zbd_some, n2, zbd_some, r1, e4_named hcv, zbp_some]
  by_cases z : h1.1 (B + 497) 3 = 0
  · obtain ⟨z0, z5, z14⟩ := n6 z
    have J0 := n3.mode z
    have hUv : U = vw h1.1 (B + 500) := by rw [n4.view]; exact hU z0
    rw [if_pos J0.2.1, e8_foundR J0.2.2.2.2.1.1, zbp_some, z14, ← hUv]
    by_cases q : sNamed U y = -1
    · obtain ⟨h2, g2, p1, p2, p3, p4, p5, p6⟩ := j_accept n3
      rw [if_pos q, if_pos q, p1, zbd_some]
      unfold q_X8_readStation_J59
      rw [j_ok, zbd_some, p2, zbd_some]
      exact ⟨h2, g2, y, rfl, rfl, p3, n4.tr p4, n5.tr p5.n, fun w => ⟨z0, Int.le_trans z5 (p6 w).2.1, by rw [p5.2 _ _ (by omega)]; exact z14⟩⟩
    · obtain ⟨h0, g0, f1, f2, f3, f4, f5, f6⟩ := j_fail n3 (c := -14) (by decide)
      have J2 : LJ B t len U cg sg h0 g0 := ⟨f3, Or.inr f4⟩
      obtain ⟨e, e0, e1, _⟩ := f4
      obtain ⟨h2, g2, p1, p2, p3, p4, p5, p6⟩ := j_accept J2
      rw [if_neg q, if_neg q, f1, zbd_some, p1, zbd_some]
      unfold q_X8_readStation_J59
      rw [f2, zbd_some, p2, zbd_some]
      exact ⟨h2, g2, y, rfl, rfl, p3, n4.tr (f5.tr p4), n5.tr (f6.tr p5).n, fun w => by
        have := (p6 w).1
        omega⟩
  · have z15 : ¬ g1.1 (B + 541) 15 = 0 := fun w => z (n3.e0.mpr w)
    refine ⟨h1, g1, y, ?_, ?_, n3, n4, n5, fun w => absurd w z⟩
    · rw [noacc z, nofail z, zbd_some, zbd_some, noacc z, zbd_some]
      split <;> rfl
    · rw [if_neg z15]
      unfold q_X8_readStation_J59
      rw [j_ok, zbd_some, nogo z15, zbd_some]
      rfl
theorem j_station {U : Nat → Nat → Int} {cg sg : Int} {h g : zH} (hJ : LJ B t len U cg sg h g) (hU : h.1 (B + 497) 3 = 0 → U = vw h.1 (B + 500)) {a b : Int} (hab : h.1 (B + 497) 3 = 0 → a = b) :
    ∃ h' g' y y', q_X2_readStationName h (B + 497) a = some (y, h') ∧ q_X8_station g (B + 541) b = some (y', g') ∧ LJ B t len U cg sg h' g' ∧ FcP B h h' ∧ FrN B g g' ∧ (h'.1 (B + 497) 3 = 0 → (h.1 (B + 497) 3 = 0 ∧ h.1 (B + 498) 5 ≤ h'.1 (B + 498) 5) ∧ y = y' ∧ (0 ≤ y ∧ y < U 0 3) ∧ y ≠ a) := by
  obtain ⟨h1, g1, y, n1, n2, n3, n4, n5, n6⟩ := j_name hJ
  have r1 : h.2 (B + 497) 1 = B + 500 := hJ.1.2.2.2.2.1
  have hcv := n3.1.2.2.2.2.2.1
  unfold q_X2_readStationName q_X8_station
  rw [n1, zbd_some, n2, zbd_some, r1, e4_named hcv, zbp_some]
  by_cases z : h1.1 (B + 497) 3 = 0
  · obtain ⟨z0, z5, z14⟩ := n6 z
    have J0 := n3.mode z
    have hUv : U = vw h1.1 (B + 500) := by rw [n4.view]; exact hU z0
    have eab := hab z0
    have hbad : ∃ h' g', (∀ K : Int, zbd (q_X2_fail h1 (B + 497) ((-13))) (fun _ h4 => zbd (q_X2_accept h4 (B + 497)) (fun _ h5 => some (K, h5))) = some (K, h')) ∧ (∀ K : Int, zbd (q_X8_failsIf g1 (B + 541) 1 ((-13))) (fun _ h7 => zbd (q_X8_goOn h7 (B + 541)) (fun _ h8 => if h8.1 (B + 541) 15 = 0 then (some (K, h8)) else (some (0, h8)))) = some (0, g')) ∧ LJ B t len U cg sg h' g' ∧ FcP B h h' ∧ FrN B g g' ∧ ¬ h'.1 (B + 497) 3 = 0 := by
      obtain ⟨h0, g0, f1, f2, f3, f4, f5, f6⟩ := j_fail n3 (c := -13) (by decide)
      have J2 : LJ B t len U cg sg h0 g0 := ⟨f3, Or.inr f4⟩
      obtain ⟨e, e0, e1, e2, _⟩ := f4
      have ne : ¬ h0.1 (B + 497) 3 = 0 := by omega
      have ne15 : ¬ g0.1 (B + 541) 15 = 0 := by omega
      refine ⟨h0, g0, fun K => ?_, fun K => ?_, J2, n4.tr f5, n5.tr f6.n, ne⟩
      · rw [f1, zbd_some, noacc ne, zbd_some]
      · rw [f2, zbd_some, nogo ne15, zbd_some, if_neg ne15]
    rw [if_pos J0.2.1, e8_foundR J0.2.2.2.2.1.1, zbp_some, z14, ← hUv]
    by_cases q : sNamed U y = -1
    · obtain ⟨h', g', k1, k2, k3, k4, k5, k6⟩ := hbad
      rw [if_pos q, if_pos q, k1, k2]
      exact ⟨h', g', _, _, rfl, rfl, k3, k4, k5, fun w => absurd w k6⟩
    · rw [if_neg q, if_neg q]
      by_cases q2 : sNamed U y = a
      · obtain ⟨h', g', k1, k2, k3, k4, k5, k6⟩ := hbad
        rw [if_pos q2, if_pos (by rw [← eab]; exact q2), k1, k2]
        exact ⟨h', g', _, _, rfl, rfl, k3, k4, k5, fun w => absurd w k6⟩
      · obtain ⟨h2, g2, p1, p2, p3, p4, p5, p6⟩ := j_accept n3
        obtain ⟨k, k1, k2⟩ := sNamed_b.resolve_left q
        have hn := J0.2.2.2.2.1.1.2.1.nS
        rw [if_neg q2, if_neg (by rw [← eab]; exact q2), p1, zbd_some, j_ok, zbd_some, p2, zbd_some]
        refine ⟨h2, g2, sNamed U y, if g2.1 (B + 541) 15 = 0 then sNamed U y else 0, rfl, ?_, p3, n4.tr p4, n5.tr p5.n, fun w => ⟨⟨z0, Int.le_trans z5 (p6 w).2.1⟩, ?_, ⟨by omega, by omega⟩, q2⟩⟩
        · split <;> rfl
        · rw [if_pos (p3.e0.mp w)]
  · have z15 : ¬ g1.1 (B + 541) 15 = 0 := fun w => z (n3.e0.mpr w)
    refine ⟨h1, g1, sNamed (vw h1.1 (B + 500)) y, 0, ?_, ?_, n3, n4, n5, fun w => absurd w z⟩
    · simp only [noacc z, nofail z, zbd_some]
      split
      · rfl
      · split <;> rfl
    · rw [if_neg z15, if_neg (by decide)]
      simp only [nofails z15, nogo z15, zbd_some]
      rw [if_neg z15]
      split <;> rfl
end OPS
