/-! Reading on both sides: errors, tokens, numbers, the end of a statement. -/
section OPS
variable {B : Nat} {t : Nat → Int} {len : Nat}
def LCc (B : Nat) (t : Nat → Int) (len : Nat) (h g : zH) : Prop := Tb t len ∧ TxC (B + 498) t len h ∧ TxR (B + 541) t len g ∧ h.2 (B + 497) 0 = B + 498 ∧ h.2 (B + 497) 1 = B + 500 ∧ CV h (B + 500) ∧ mly g.2 (B + 541)
/-- what was read so far, in the reference's rows; what is not yet used is zero -/
def RdV (B : Nat) (U : Nat → Nat → Int) (g : zH) : Prop := MVt g (B + 541) U (g.1 (B + 541 + 3)) ∧ ∀ s : Nat, s < 6 → U 0 3 ≤ (s : Int) → g.1 (B + 541 + 4) (14 + s) = 0 ∧ ∀ j, j < 64 → g.1 (B + 541 + 4) (20 + 64 * s + j) = 0
theorem RdV.keep {U : Nat → Nat → Int} {g g' : zH} (r : RdV B U g) (h2 : g'.2 = g.2) (h3 : g'.1 (B + 541 + 3) = g.1 (B + 541 + 3)) (h4 : g'.1 (B + 541 + 4) = g.1 (B + 541 + 4)) : RdV B U g' := by
  obtain ⟨⟨a, b, c⟩, d⟩ := r
  refine ⟨⟨by rw [h2]; exact a, b, by rw [h3, h4]; exact c⟩, fun s hs hU => ?_⟩
  rw [h4]
  exact d s hs hU
def LJ0 (B : Nat) (t : Nat → Int) (len : Nat) (U : Nat → Nat → Int) (cg sg : Int) (h g : zH) : Prop := h.1 (B + 497) 3 = 0 ∧ g.1 (B + 541) 15 = 0 ∧ h.1 (B + 497) 2 = -1 ∧ (∃ s x κ, Tok (B + 498) (B + 541) t len h g s x κ) ∧ RdV B U g ∧ g.1 (B + 541) 20 = cg ∧ g.1 (B + 541) 19 = sg
def LJE (B : Nat) (h g : zH) : Prop := ∃ e, e < 0 ∧ h.1 (B + 497) 3 = e ∧ g.1 (B + 541) 15 = e ∧ g.1 (B + 541) 16 = h.1 (B + 497) 2
def LJ (B : Nat) (t : Nat → Int) (len : Nat) (U : Nat → Nat → Int) (cg sg : Int) (h g : zH) : Prop := LCc B t len h g ∧ (LJ0 B t len U cg sg h g ∨ LJE B h g)
def FcP (B : Nat) (h h' : zH) : Prop := h'.2 = h.2 ∧ ∀ q j, ¬ (q = B + 497 ∧ (j = 2 ∨ j = 3)) → ¬ (q = B + 498 ∧ 3 ≤ j ∧ j ≤ 6) → h'.1 q j = h.1 q j
def FrP (B : Nat) (g g' : zH) : Prop := g'.2 = g.2 ∧ ∀ q j, ¬ (q = B + 541 ∧ ((10 ≤ j ∧ j ≤ 13) ∨ j = 15 ∨ j = 16)) → g'.1 q j = g.1 q j
theorem FcP.rf {h : zH} : FcP B h h := ⟨rfl, fun _ _ _ _ => rfl⟩
theorem FrP.rf {g : zH} : FrP B g g := ⟨rfl, fun _ _ _ => rfl⟩
theorem FcP.tr {h h' h'' : zH} (a : FcP B h h') (b : FcP B h' h'') : FcP B h h'' := ⟨b.1.trans a.1, fun q j z1 z2 => (b.2 q j z1 z2).trans (a.2 q j z1 z2)⟩
theorem FrP.tr {g g' g'' : zH} (a : FrP B g g') (b : FrP B g' g'') : FrP B g g'' := ⟨b.1.trans a.1, fun q j z1 => (b.2 q j z1).trans (a.2 q j z1)⟩
theorem FcP.view {h h' : zH} (a : FcP B h h') : vw h'.1 (B + 500) = vw h.1 (B + 500) := vw_ext fun o ho j => a.2 _ _ (by omega) (by omega)
theorem FrP.same {g g' : zH} (a : FrP B g g') : zSame B g g' := ⟨a.1, fun q j z => a.2 q j (fun y => z (by unfold zScrt; omega))⟩
theorem FrP.row {g g' : zH} (a : FrP B g g') {q : Nat} (hq : q ≠ B + 541) : g'.1 q = g.1 q := funext fun j => a.2 q j (fun y => hq y.1)
theorem LCc.keep {h g h' g' : zH} (c : LCc B t len h g) (a : FcP B h h') (b : FrP B g g') : LCc B t len h' g' := by
  obtain ⟨c1, c2, c3, c4, c5, c6, c7⟩ := c
  refine ⟨c1, ⟨by rw [a.2 _ _ (by omega) (by omega)]; exact c2.1, by rw [a.1]; exact c2.2.1, fun i hi => by rw [a.2 _ _ (by omega) (by omega)]; exact c2.2.2 i hi⟩, ⟨by rw [b.2 _ _ (by omega)]; exact c3.1, by rw [b.1]; exact c3.2.1, fun i hi => by rw [b.2 _ _ (by omega)]; exact c3.2.2 i hi⟩, by rw [a.1]; exact c4, by rw [a.1]; exact c5, ⟨by rw [a.1]; exact c6.1, by rw [a.view]; exact c6.2⟩, by rw [b.1]; exact c7⟩
theorem FcS.p {h h' : zH} (a : FcS (B + 498) h h') : FcP B h h' := ⟨a.1, fun q j _ z2 => a.2 q j z2⟩
theorem FrS.p {g g' : zH} (a : FrS (B + 541) g g') : FrP B g g' := ⟨a.1, fun q j z => a.2 q j (fun y => z ⟨y.1, by omega⟩)⟩
theorem j_ok {g : zH} {c : Int} : q_X8_failsIf g (B + 541) 0 c = some ((), g) := by
  unfold q_X8_failsIf
  by_cases q : g.1 (B + 541) 15 = 0
  · rw [if_pos q, if_pos rfl]
  · rw [if_neg q]
theorem j_fail {U : Nat → Nat → Int} {cg sg : Int} {h g : zH} (hJ : LJ B t len U cg sg h g) {c : Int} (hc : c < 0) : ∃ h' g', q_X2_fail h (B + 497) c = some ((), h') ∧ q_X8_failsIf g (B + 541) 1 c = some ((), g') ∧ LCc B t len h' g' ∧ LJE B h' g' ∧ FcP B h h' ∧ FrP B g g' := by
  obtain ⟨hC, hJ⟩ := hJ
  unfold q_X2_fail q_X8_failsIf
  rcases hJ with ⟨j1, j2, j3, ⟨s, x, κ, tk⟩, j5, j6, j7⟩ | ⟨e, e0, e1, e2, e3⟩
  · rw [if_pos j1, if_pos j2, if_neg one0]
    simp only [zlet_b]
    have r0 : (zput h (B + 497) 3 c).2 (B + 497) 0 = B + 498 := hC.2.2.2.1
    have s5 : (zput h (B + 497) 3 c).1 (B + 498) 5 = (s : Int) := by rw [zput_ne (by omega)]; exact tk.1.2.2
    have s11 : (zput g (B + 541) 15 c).1 (B + 541) 11 = (s : Int) := by rw [zput_ne (by omega)]; exact tk.2.1.2.1
    rw [r0, s5, s11]
    have a : FcP B h (zput (zput h (B + 497) 3 c) (B + 497) 2 (s : Int)) := ⟨rfl, fun q j z1 z2 => by rw [zput_ne (by omega), zput_ne (by omega)]⟩
    have b : FrP B g (zput (zput g (B + 541) 15 c) (B + 541) 16 (s : Int)) := ⟨rfl, fun q j z1 => by rw [zput_ne (by omega), zput_ne (by omega)]⟩
    refine ⟨_, _, rfl, rfl, hC.keep a b, ⟨c, hc, ?_, ?_, ?_⟩, a, b⟩
    · rw [zput_ne (by omega), zput_self]
    · rw [zput_ne (by omega), zput_self]
    · rw [zput_self, zput_self]
  · rw [if_neg (by omega), if_neg (by omega)]
    exact ⟨h, g, rfl, rfl, hC, ⟨e, e0, e1, e2, e3⟩, FcP.rf, FrP.rf⟩
theorem j_accept {U : Nat → Nat → Int} {cg sg : Int} {h g : zH} (hJ : LJ B t len U cg sg h g) : ∃ h' g', q_X2_accept h (B + 497) = some ((), h') ∧ q_X8_goOn g (B + 541) = some ((), g') ∧ LJ B t len U cg sg h' g' ∧ FcP B h h' ∧ FrP B g g' ∧ (h'.1 (B + 497) 3 = 0 → h.1 (B + 497) 3 = 0 ∧ h.1 (B + 498) 5 ≤ h'.1 (B + 498) 5 ∧ (h.1 (B + 498) 4 ≠ 0 → h.1 (B + 498) 5 < h'.1 (B + 498) 5)) := by
  obtain ⟨hC, hJ⟩ := hJ
  unfold q_X2_accept q_X8_goOn
  rcases hJ with ⟨j1, j2, j3, ⟨s, x, κ, tk⟩, j5, j6, j7⟩ | ⟨e, e0, e1, e2, e3⟩
  · obtain ⟨h', g', s', x', κ', p1, p2, p3, p4, p5, p6⟩ := j_step hC.1 hC.2.1 hC.2.2.1 tk.1.1 tk.2.1.1 tk.2.2.1.2
    rw [if_pos j1, if_pos j2, hC.2.2.2.1, p1, p2, zbd_some, zbd_some]
    have a : FcP B h h' := p3.p
    have b : FrP B g g' := p4.p
    have k5 := tk.1.2.2
    have k4 := tk.1.2.1
    have k5' := p5.1.2.2
    refine ⟨h', g', rfl, rfl, ⟨hC.keep a b, Or.inl ⟨?_, ?_, ?_, ⟨s', x', κ', p5⟩, ?_, ?_, ?_⟩⟩, a, b, fun _ => ⟨j1, ?_, fun hk => ?_⟩⟩
    · rw [p3.2 _ _ (by omega)]; exact j1
    · rw [p4.2 _ _ (by omega)]; exact j2
    · rw [p3.2 _ _ (by omega)]; exact j3
    · exact j5.keep b.1 (b.row (by omega)) (b.row (by omega))
    · rw [p4.2 _ _ (by omega)]; exact j6
    · rw [p4.2 _ _ (by omega)]; exact j7
    · rw [k5, k5']
      have := tk.2.2.1
      omega
    · rw [k5, k5']
      have := tk.2.2.2.2.1 (fun z => hk (by rw [k4, z]; rfl))
      omega
  · rw [if_neg (by omega), if_neg (by omega)]
    exact ⟨h, g, rfl, rfl, ⟨hC, Or.inr ⟨e, e0, e1, e2, e3⟩⟩, FcP.rf, FrP.rf, fun z => by omega⟩
theorem j_num {U : Nat → Nat → Int} {cg sg : Int} {h g : zH} (hJ : LJ B t len U cg sg h g) {lo hi lo' hi' : Int} (hlo : h.1 (B + 497) 3 = 0 → lo = lo' ∧ hi = hi' ∧ 0 ≤ lo ∧ lo ≤ 9999 ∧ hi ≤ 9999) :
    ∃ h' g' y y', q_X2_readNumber h (B + 497) lo hi = some (y, h') ∧ q_X8_integer g (B + 541) lo' hi' = some (y', g') ∧ LJ B t len U cg sg h' g' ∧ FcP B h h' ∧ FrP B g g' ∧ (h'.1 (B + 497) 3 = 0 → (h.1 (B + 497) 3 = 0 ∧ h.1 (B + 498) 5 ≤ h'.1 (B + 498) 5) ∧ y = y' ∧ lo ≤ y ∧ y ≤ hi) := by
  have hJ' := hJ
  obtain ⟨hC, hJ⟩ := hJ
  have r0 := hC.2.2.2.1
  unfold q_X2_readNumber q_X8_integer
  rcases hJ with ⟨j1, j2, j3, ⟨s, x, κ, tk⟩, j5, j6, j7⟩ | ⟨e, e0, e1, e2, e3⟩
  · obtain ⟨b1, b2, b3, b4, b5⟩ := hlo j1
    subst b1 b2
    have hk := kr_i κ tk.2.2.2.1
    have k4 := tk.1.2.1
    have k12 := tk.2.1.2.2
    by_cases hκ : κ = 2
    · have hv := tk.2.2.2.2.2.2 hκ
      have c4 : h.1 (B + 498) 4 = 2 := by rw [k4, hκ]; rfl
      have c12 : g.1 (B + 541) 12 = 1 := by rw [k12]; exact hk.1.mpr hκ
      rw [r0, if_pos c4, if_pos c12, j_ok, zbd_some]
      by_cases hin : lo ≤ h.1 (B + 498) 6 ∧ h.1 (B + 498) 6 ≤ hi
      · have hvv : h.1 (B + 498) 6 = g.1 (B + 541) 13 := by
          rcases hv with z | z
          · exact z.1
          · omega
        rw [e_inR hin.1 hin.2, zbp_some, if_neg one0, if_neg (by omega), if_pos (by omega), j_ok, zbd_some, if_pos j2]
        simp only [zlet_b]
        obtain ⟨h', g', p1, p2, p3, p4, p5, p6⟩ := j_accept hJ'
        rw [p1, p2, zbd_some, zbd_some]
        exact ⟨h', g', _, _, rfl, rfl, p3, p4, p5, fun z => ⟨⟨(p6 z).1, (p6 z).2.1⟩, hvv, hin.1, hin.2⟩⟩
      · obtain ⟨h', g', f1, f2, f3, f4, f5, f6⟩ := j_fail hJ' (c := -12) (by decide)
        obtain ⟨e, e0, e1, e2, e3⟩ := f4
        have J2 : LJ B t len U cg sg h' g' := ⟨f3, Or.inr ⟨e, e0, e1, e2, e3⟩⟩
        obtain ⟨h2, g2, p1, p2, p3, p4, p5, p6⟩ := j_accept J2
        have ref : (if g.1 (B + 541) 13 < lo then (zbd (q_X8_failsIf g (B + 541) 1 ((-12))) (fun _ h2 => if h2.1 (B + 541) 15 = 0 then (zlet (h2.1 (B + 541) 13) (fun x4 => zbd (q_X8_goOn h2 (B + 541)) (fun _ h5 => some (x4, h5)))) else (zbd (q_X8_goOn h2 (B + 541)) (fun _ h3 => some (lo, h3))))) else (if g.1 (B + 541) 13 ≤ hi then (zbd (q_X8_failsIf g (B + 541) 0 ((-12))) (fun _ h6 => if h6.1 (B + 541) 15 = 0 then (zlet (h6.1 (B + 541) 13) (fun x8 => zbd (q_X8_goOn h6 (B + 541)) (fun _ h9 => some (x8, h9)))) else (zbd (q_X8_goOn h6 (B + 541)) (fun _ h7 => some (lo, h7))))) else (zbd (q_X8_failsIf g (B + 541) 1 ((-12))) (fun _ h10 => if h10.1 (B + 541) 15 = 0 then (zlet (h10.1 (B + 541) 13) (fun x12 => zbd (q_X8_goOn h10 (B + 541)) (fun _ h13 => some (x12, h13)))) else (zbd (q_X8_goOn h10 (B + 541)) (fun _ h11 => some (lo, h11))))))) = some (lo, g2) := by
          by_cases z1 : g.1 (B + 541) 13 < lo
          · rw [if_pos z1, f2, zbd_some, if_neg (by omega), p2, zbd_some]
          · have z2 : ¬ g.1 (B + 541) 13 ≤ hi := by
              rcases hv with z | z <;> omega
            rw [if_neg z1, if_neg z2, f2, zbd_some, if_neg (by omega), p2, zbd_some]
        rw [ref, e_inN hin, zbp_some, if_pos rfl, f1, zbd_some]
        simp only [zlet_b]
        rw [p1, zbd_some]
        exact ⟨h2, g2, _, _, rfl, rfl, p3, f5.tr p4, f6.tr p5, fun z => by
          have := (p6 z).1
          omega⟩
    · have c4 : ¬ h.1 (B + 498) 4 = 2 := by rw [k4]; omega
      have c12 : ¬ g.1 (B + 541) 12 = 1 := by rw [k12]; exact fun z => hκ (hk.1.mp z)
      obtain ⟨h', g', f1, f2, f3, f4, f5, f6⟩ := j_fail hJ' (c := -11) (by decide)
      obtain ⟨e, e0, e1, e2, e3⟩ := f4
      have J2 : LJ B t len U cg sg h' g' := ⟨f3, Or.inr ⟨e, e0, e1, e2, e3⟩⟩
      have noF : ∀ y c : Int, q_X8_failsIf g' (B + 541) y c = some ((), g') := fun y c => by
        unfold q_X8_failsIf
        rw [if_neg (by omega)]
      obtain ⟨h2, g2, p1, p2, p3, p4, p5, p6⟩ := j_accept J2
      have ne15 : ¬ g'.1 (B + 541) 15 = 0 := by omega
      rw [r0, if_neg c4, if_neg c12, f1, f2, zbd_some, zbd_some]
      simp only [zlet_b, noF, zbd_some]
      rw [if_neg ne15, p1, p2, zbd_some, zbd_some]
      refine ⟨h2, g2, h'.1 (h'.2 (B + 497) 0) 6, lo, rfl, ?_, p3, f5.tr p4, f6.tr p5, fun z => ?_⟩
      · by_cases z1 : g'.1 (B + 541) 13 < lo
        · rw [if_pos z1]
        · rw [if_neg z1]
          by_cases z2 : g'.1 (B + 541) 13 ≤ hi
          · rw [if_pos z2]
          · rw [if_neg z2]
      · have := (p6 z).1
        omega
  · have noF : ∀ y c : Int, q_X8_failsIf g (B + 541) y c = some ((), g) := fun y c => by
      unfold q_X8_failsIf
      rw [if_neg (by omega)]
    have noC : ∀ c : Int, q_X2_fail h (B + 497) c = some ((), h) := fun c => by
      unfold q_X2_fail
      rw [if_neg (by omega)]
    have noA : q_X2_accept h (B + 497) = some ((), h) := by
      unfold q_X2_accept
      rw [if_neg (by omega)]
    have noG : q_X8_goOn g (B + 541) = some ((), g) := by
      unfold q_X8_goOn
      rw [if_neg (by omega)]
    have ne15 : ¬ g.1 (B + 541) 15 = 0 := by omega
    refine ⟨h, g, h.1 (B + 498) 6, lo', ?_, ?_, hJ', FcP.rf, FrP.rf, fun z => by omega⟩
    · simp only [zlet_b, noC, noA, zbd_some, r0]
      rw [e_inRange, zbp_some]
      by_cases z1 : h.1 (B + 498) 4 = 2
      · rw [if_pos z1]
        by_cases z2 : lo ≤ h.1 (B + 498) 6 ∧ h.1 (B + 498) 6 ≤ hi
        · rw [if_pos z2, if_neg one0]
        · rw [if_neg z2, if_pos rfl]
      · rw [if_neg z1]
    · simp only [zlet_b, noF, noG, zbd_some]
      rw [if_neg ne15]
      split
      · split
        · rfl
        · split <;> rfl
      · split
        · rfl
        · split <;> rfl
end OPS
