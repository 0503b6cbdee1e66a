/-! A text is read, on both sides. -/
section OPS
variable {B : Nat}
def RdC (L : Nat) (h : zH) (n : Int) (k : Int → zH → Option (Int × zH)) : Option (Int × zH) := zbd (q_X4_clear h (h.2 L 1)) (fun _ h1 => zlet (zput h1 L 3 0) (fun h2 => zlet (zput h2 L 2 ((-1))) (fun h3 => zlet (zput h3 L 4 0) (fun h4 => zlet (zput h4 L 5 0) (fun h5 => zbd (q_X6_begin h5 (h5.2 L 0) n) (fun _ h6 => q_X2_readText_L37 L k zF 0 h6))))))
def RfC (M : Nat) (y : zH) (n : Int) (kk : zH → Option (Int × zH)) : Option (Int × zH) := zbd (q_X8_newExchange y M) (fun _ h3 => zlet (zput h3 M 9 n) (fun h4 => zlet (zput h4 M 10 0) (fun h5 => zlet (zput h5 M 15 0) (fun h6 => zbd (q_X8_next h6 M) (fun _ h7 => q_X8_load_L47 M kk zF h7)))))
def FcL (B : Nat) (h h' : zH) : Prop := h'.2 = h.2 ∧ ∀ q j, ¬ (q = B + 497 ∧ 2 ≤ j ∧ j ≤ 5) → ¬ (q = B + 498 ∧ 2 ≤ j ∧ j ≤ 6) → ¬ (B + 500 ≤ q ∧ q < B + 541) → h'.1 q j = h.1 q j
def FrL (B : Nat) (g g' : zH) : Prop := g'.2 = g.2 ∧ ∀ q j, ¬ (q = B + 541 ∧ 9 ≤ j ∧ j ≠ 17) → q ≠ B + 541 + 3 → q ≠ B + 541 + 4 → ¬ (B + 541 + 7 ≤ q ∧ q ≤ B + 541 + 9) → g'.1 q j = g.1 q j
theorem m_reads {h y : zH} {n : Nat} {kk : zH → Option (Int × zH)} (r0 : h.2 (B + 497) 0 = B + 498) (r1 : h.2 (B + 497) 1 = B + 500) (rt : h.2 (B + 498) 1 = B + 498 + 1) (hcl : cly h.2 (B + 500)) (hn : (n : Int) ≤ h.1 (B + 498) 0) (hn1 : n ≤ 1000) (hy : mly y.2 (B + 541)) (hb : ∀ i, i < n → y.1 (B + 541 + 1) i = zand (h.1 (B + 498 + 1) i) 255) :
    ∃ (h' g' : zH) (j : Nat), (∀ k, RdC (B + 497) h (n : Int) k = k (j : Int) h') ∧ RfC (B + 541) y (n : Int) kk = kk g' ∧ LB B (fun i => zand (h.1 (B + 498 + 1) i) 255) n h' g' ∧ FcL B h h' ∧ FrL B y g' ∧ g'.1 (B + 541) 18 = (j : Int) := by
  obtain ⟨hA, k1, k2, k3, k4⟩ := e4_clear hcl
  obtain ⟨g3, n1, n2, n3, ⟨n4, n5⟩, ⟨n6, n7, n8⟩, n9⟩ := e8_newExchange hy
  have hTb : Tb (fun i => zand (h.1 (B + 498 + 1) i) 255) n := ⟨hn1, fun i _ => zand_255 _⟩
  generalize ht : (fun i => zand (h.1 (B + 498 + 1) i) 255) = t at hTb
  have ht' : ∀ i, zand (h.1 (B + 498 + 1) i) 255 = t i := fun i => by rw [← ht]
  have f0 : (zput (zput (zput (zput hA (B + 497) 3 0) (B + 497) 2 (-1)) (B + 497) 4 0) (B + 497) 5 0).1 (B + 498) 0 = h.1 (B + 498) 0 := by
    rw [zput_ne (by omega), zput_ne (by omega), zput_ne (by omega), zput_ne (by omega), k4 _ _ (by omega)]
  have mn : zmin (n : Int) (h.1 (B + 498) 0) = (n : Int) := by
    unfold zmin
    rw [if_neg (by omega)]
  have r05 : (zput (zput (zput (zput hA (B + 497) 3 0) (B + 497) 2 (-1)) (B + 497) 4 0) (B + 497) 5 0).2 (B + 497) 0 = B + 498 := by
    show hA.2 (B + 497) 0 = _
    rw [k2]
    exact r0
  have cls : ∀ k, RdC (B + 497) h (n : Int) k = zbd (q_X6_step (zput (zput (zput (zput (zput (zput hA (B + 497) 3 0) (B + 497) 2 (-1)) (B + 497) 4 0) (B + 497) 5 0) (B + 498) 2 (n : Int)) (B + 498) 3 0) (B + 498)) (fun _ h6 => q_X2_readText_L37 (B + 497) k zF 0 h6) := fun k => by
    unfold RdC
    rw [r1, k1, zbd_some]
    simp only [zlet_b]
    rw [r05]
    unfold q_X6_begin
    rw [f0, mn]
    simp only [zlet_b]
    cases q_X6_step (zput (zput (zput (zput (zput (zput hA (B + 497) 3 0) (B + 497) 2 (-1)) (B + 497) 4 0) (B + 497) 5 0) (B + 498) 2 (n : Int)) (B + 498) 3 0) (B + 498) with
    | none => rfl
    | some x => rfl
  have ref : RfC (B + 541) y (n : Int) kk = zbd (q_X8_next (zput (zput (zput g3 (B + 541) 9 (n : Int)) (B + 541) 10 0) (B + 541) 15 0) (B + 541)) (fun _ h7 => q_X8_load_L47 (B + 541) kk zF h7) := by
    unfold RfC
    rw [n1, zbd_some]
    simp only [zlet_b]
  generalize hh5 : zput (zput (zput (zput (zput (zput hA (B + 497) 3 0) (B + 497) 2 (-1)) (B + 497) 4 0) (B + 497) 5 0) (B + 498) 2 (n : Int)) (B + 498) 3 0 = h5 at cls
  have x2 : h5.2 = h.2 := by rw [← hh5]; exact k2
  have xo : ∀ q j, ¬ (q = B + 497 ∧ 2 ≤ j ∧ j ≤ 5) → ¬ (q = B + 498 ∧ 2 ≤ j ∧ j ≤ 3) → h5.1 q j = hA.1 q j := fun q j z1 z2 => by
    rw [← hh5, zput_ne (by omega), zput_ne (by omega), zput_ne (by omega), zput_ne (by omega), zput_ne (by omega), zput_ne (by omega)]
  have x3 : h5.1 (B + 497) 3 = 0 := by rw [← hh5, zput_ne (by omega), zput_ne (by omega), zput_ne (by omega), zput_ne (by omega), zput_ne (by omega), zput_self]
  have x2' : h5.1 (B + 497) 2 = -1 := by rw [← hh5, zput_ne (by omega), zput_ne (by omega), zput_ne (by omega), zput_ne (by omega), zput_self]
  have x4 : h5.1 (B + 497) 4 = 0 := by rw [← hh5, zput_ne (by omega), zput_ne (by omega), zput_ne (by omega), zput_self]
  have x5 : h5.1 (B + 497) 5 = 0 := by rw [← hh5, zput_ne (by omega), zput_ne (by omega), zput_self]
  have xk2 : h5.1 (B + 498) 2 = (n : Int) := by rw [← hh5, zput_ne (by omega), zput_self]
  have xk3 : h5.1 (B + 498) 3 = ((0 : Nat) : Int) := by rw [← hh5, zput_self]; rfl
  clear hh5
  generalize hg6 : zput (zput (zput g3 (B + 541) 9 (n : Int)) (B + 541) 10 0) (B + 541) 15 0 = g6 at ref
  have y2 : g6.2 = y.2 := by rw [← hg6]; exact n2
  have yo : ∀ q j, ¬ (q = B + 541 ∧ (j = 9 ∨ j = 10 ∨ j = 15)) → g6.1 q j = g3.1 q j := fun q j z => by
    rw [← hg6, zput_ne (by omega), zput_ne (by omega), zput_ne (by omega)]
  have y9 : g6.1 (B + 541) 9 = (n : Int) := by rw [← hg6, zput_ne (by omega), zput_ne (by omega), zput_self]
  have y10 : g6.1 (B + 541) 10 = ((0 : Nat) : Int) := by rw [← hg6, zput_ne (by omega), zput_self]; rfl
  have y15 : g6.1 (B + 541) 15 = 0 := by rw [← hg6, zput_self]
  clear hg6
  have hV : vw h5.1 (B + 500) = vw hA.1 (B + 500) := vw_ext fun o ho j => xo _ _ (by omega) (by omega)
  have hV0 : V0c (vw h5.1 (B + 500)) := by rw [hV]; exact k3
  have gd := hV0.good
  have hyl : mly g6.2 (B + 541) := by rw [y2]; exact hy
  have hC : LCc B t n h5 g6 := by
    refine ⟨hTb, ⟨xk2, by rw [x2]; exact rt, fun i hi => ?_⟩, ⟨y9, hyl 1, fun i hi => ?_⟩, by rw [x2]; exact r0, by rw [x2]; exact r1, ⟨by rw [x2]; exact hcl, gd.1⟩, hyl⟩
    · rw [xo _ _ (by omega) (by omega), k4 _ _ (by omega)]
      exact ht' i
    · rw [yo _ _ (by omega), n9 _ _ (by omega) (by omega) (by omega), hb i hi]
      exact ht' i
  obtain ⟨h6, g7, s, x, κ, p1, p2, p3, p4, p5, p6⟩ := j_step hC.1 hC.2.1 hC.2.2.1 xk3 y10 (Nat.zero_le _)
  have hC7 := hC.keep p3.p p4.p
  have hV6 : vw h6.1 (B + 500) = vw h5.1 (B + 500) := p3.p.view
  have yr3 : g7.1 (B + 541 + 3) = g3.1 (B + 541 + 3) := funext fun i => by rw [p4.2 _ _ (by omega), yo _ _ (by omega)]
  have yr4 : g7.1 (B + 541 + 4) = g3.1 (B + 541 + 4) := funext fun i => by rw [p4.2 _ _ (by omega), yo _ _ (by omega)]
  have hB7 : LB B t n h6 g7 := by
    refine ⟨⟨hC7, Or.inl ⟨by rw [p3.2 _ _ (by omega)]; exact x3, by rw [p4.2 _ _ (by omega)]; exact y15, by rw [p3.2 _ _ (by omega)]; exact x2', ⟨s, x, κ, p5⟩, ?_, ?_, ?_⟩⟩, fun _ => ⟨by rw [hV6]; exact gd, 0, by decide, ?_⟩⟩
    · rw [hV6]
      refine ⟨⟨hC7.2.2.2.2.2.2, gd.1, ?_⟩, fun i hi _ => ?_⟩
      · rw [yr3, yr4]
        exact hV0.mr n3 n4 n5
      · rw [yr4]
        exact ⟨n5 _ (by omega) (by omega), fun j hj => n5 _ (by omega) (by omega)⟩
    · rw [p4.2 _ _ (by omega), yo _ _ (by omega), n8, p3.2 _ _ (by omega), x4]
    · rw [p4.2 _ _ (by omega), yo _ _ (by omega), n7, p3.2 _ _ (by omega), x5]
    · rw [p3.2 _ _ (by omega), x5]
      rfl
  have hF : 1000 < zF := by unfold zF; omega
  obtain ⟨h', g', j, q1, q2, q3, q4, q5, q6⟩ := m_rdLoop (kk := kk) 1000 0 zF zF h6 g7 (by omega) hF hF hB7 (by rw [p4.2 _ _ (by omega), yo _ _ (by omega), n6]; rfl) (fun _ => by rw [p5.1.2.2]; omega)
  refine ⟨h', g', j, fun k => ?_, ?_, q3, ⟨q4.1.trans (p3.1.trans x2), fun q jj z1 z2 z3 => ?_⟩, ⟨q5.1.trans (p4.1.trans y2), fun q jj z1 z2 z3 z4 => ?_⟩, q6⟩
  · rw [cls k, p1, zbd_some]
    exact q1 k
  · rw [ref, p2, zbd_some]
    exact q2
  · rw [q4.2 _ _ z1 (by omega) z3, p3.2 _ _ (by omega), xo _ _ z1 (by omega), k4 _ _ (by omega)]
  · rw [q5.2 _ _ (by omega) z2 z3 z4, p4.2 _ _ (by omega), yo _ _ (by omega), n9 _ _ (by omega) (by omega) (by omega)]
end OPS
