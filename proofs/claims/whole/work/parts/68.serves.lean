/-! The reference assigns a call, and serves its queue. -/
theorem MR.call {v u : Nat → Nat → Int} {N N' T : Nat → Int} {k : Nat} (m : MR v N T) (w : WF v) (hk : k < 16) (he : ∀ o j, o ≠ 25 + k → u o j = v o j) (hN : ∀ i, (i < 405 + 12 * k ∨ 405 + 12 * k + 12 ≤ i) → N' i = N i) (hc : (k : Int) < v 0 7 → MRc u N' k) : MR u N' T := by
  have e0 : u 0 = v 0 := funext fun j => he 0 j (by omega)
  have e1 : u 1 = v 1 := funext fun j => he 1 j (by omega)
  have hs6 := w.nS
  have hr8 := w.nR
  have hn := w.nC
  obtain ⟨a1, a2, a3, a4, a5, a6, a7, a8, a9⟩ := m
  refine ⟨by rw [e0, hN 0 (by omega)]; exact a1, by rw [e0]; exact a2, by rw [e0]; exact a3, by rw [e0]; exact a4, by rw [e0, hN 404 (by omega)]; exact a5, fun j hj => by rw [e1, hN (1 + j) (by omega)]; exact a6 j hj, fun s hs => ?_, fun r hr => ?_, fun l hl => ?_⟩
  · rw [e0] at hs
    have e2 : u (5 + 2 * s) = v (5 + 2 * s) := funext fun j => he _ j (by omega)
    have e3 : u (6 + 2 * s) = v (6 + 2 * s) := funext fun j => he _ j (by omega)
    obtain ⟨b1, b2, b3, b4, b5, b6, b7, b8⟩ := a7 s hs
    unfold MRs
    rw [e2, e3]
    refine ⟨b1, b2, b3, b4, b5, by rw [hN (8 + s) (by omega)]; exact b6, by rw [hN (14 + s) (by omega)]; exact b7, fun j hj => by rw [hN (20 + 64 * s + j) (by omega)]; exact b8 j hj⟩
  · rw [e0] at hr
    have e2 : u (17 + r) = v (17 + r) := funext fun j => he _ j (by omega)
    unfold MRr
    rw [e2]
    exact a8 r hr
  · rw [e0] at hl
    by_cases e : l = k
    · subst e
      exact hc hl
    · have e2 : u (25 + l) = v (25 + l) := funext fun j => he _ j (by omega)
      have hp : ∀ j, j < 12 → N' (405 + 12 * l + j) = N (405 + 12 * l + j) := fun j hj => hN _ (by omega)
      have h4 : N' 4 = N 4 := hN 4 (by omega)
      have p0 : N' (405 + 12 * l) = N (405 + 12 * l) := hN _ (by omega)
      unfold MRc
      rw [e2, h4, p0, hp 1 (by omega), hp 2 (by omega), hp 3 (by omega), hp 4 (by omega), hp 5 (by omega), hp 6 (by omega), hp 7 (by omega), hp 8 (by omega), hp 9 (by omega), hp 10 (by omega), hp 11 (by omega)]
      exact a9 l hl
theorem e8_put {h : zH} {M k j : Nat} {J x : Int} (hl : mly h.2 M) (hk : k < 16) (hj : j < 12) (hJ : J = (j : Int)) : q_X8_put h M (k : Int) J x = some ((), zput h (M + 4) (405 + 12 * k + j) x) := by
  have e : zw (zw (405 + zw (12 * (k : Int))) + (j : Int)) = ((405 + 12 * k + j : Nat) : Int) := by
    rw [zw_id (x := 12 * (k : Int)) ⟨by omega, by omega⟩, zw_id (x := 405 + 12 * (k : Int)) ⟨by omega, by omega⟩, zw_id ⟨by omega, by omega⟩]
    omega
  unfold q_X8_put
  simp only [zlet_b]
  rw [hJ, e, zgpos (by omega), Int.toNat_natCast, hl.now]
section OPS
variable {B : Nat}
/-- what serving may write -/
def zS4 (B : Nat) (h g : zH) : Prop := g.2 = h.2 ∧ ∀ a j, a ≠ B + 541 + 4 → (a < B + 541 + 7 ∨ B + 541 + 10 < a) → (a ≠ B + 541 ∨ j < 22) → g.1 a j = h.1 a j
theorem zS4.rf {h : zH} : zS4 B h h := ⟨rfl, fun _ _ _ _ _ => rfl⟩
theorem zS4.tr {h g f : zH} (h1 : zS4 B h g) (h2 : zS4 B g f) : zS4 B h f := ⟨h2.1.trans h1.1, fun a j p q r => (h2.2 a j p q r).trans (h1.2 a j p q r)⟩
/-- what assigning may write -/
def zAs (B : Nat) (h g : zH) : Prop := g.2 = h.2 ∧ ∀ a j, a ≠ B + 541 + 4 → a ≠ B + 541 + 8 → a ≠ B + 541 + 9 → ¬ (a = B + 541 ∧ (j = 26 ∨ j = 27)) → g.1 a j = h.1 a j
theorem zAs.s4 {h g : zH} (h1 : zAs B h g) : zS4 B h g := ⟨h1.1, fun a j p q r => h1.2 a j p (by omega) (by omega) (by omega)⟩
theorem zLy.as {h g : zH} (h1 : zLy B h g) : zAs B h g := ⟨h1.1, fun a j p q r s => h1.2 a j q r⟩
theorem zAs.tr {h g f : zH} (h1 : zAs B h g) (h2 : zAs B g f) : zAs B h f := ⟨h2.1.trans h1.1, fun a j p q r s => (h2.2 a j p q r s).trans (h1.2 a j p q r s)⟩
theorem zAs.z2 {h : zH} {a b : Int} : zAs B h (z2x B h a b) := ⟨rfl, fun q j _ _ _ s => z2x_ne s⟩
theorem zAs.p4 {h : zH} {j : Nat} {x : Int} : zAs B h (zput h (B + 541 + 4) j x) := ⟨rfl, fun q i p _ _ _ => zput_ne (fun z => p z.1)⟩
theorem e8_assigns {h : zH} {v : Nat → Nat → Int} {T0 : Nat → Int} (hm : MVt h (B + 541) v T0) {k : Nat} (hk : (k : Int) < v 0 7) (hk9 : v (25 + k) 9 = -1) (hC : h.1 (B + 541) 25 = v 0 1) {u : Nat → Nat → Int} {r : Int} (hb : BP v k u r) : ∃ h', q_X8_assigns h (B + 541) (k : Int) = some (r, h') ∧ MVt h' (B + 541) u T0 ∧ zAs B h h' := by
  have w := hm.2.1
  have hn := w.nC
  have hC4 := w.2.1
  have hset := w.set
  have hk16 : k < 16 := by omega
  have hwu := hb.wf w
  have hf := w.1
  have hh := (w.2.2.2.2.2.2.2.2 k hk).2.2.2.2.2.1
  obtain ⟨C, hC'⟩ : ∃ C : Nat, v 0 1 = (C : Int) := ⟨(v 0 1).toNat, by omega⟩
  obtain ⟨h2, k1, k2, k3⟩ := e8_lays hm 0
  have hm2 := hm.same k2.same
  have hC2 : h2.1 (B + 541) 25 = (C : Int) := by rw [k2.2 _ _ (by omega) (by omega), hC, hC']
  obtain ⟨r', fc, fs, y1, y2⟩ := e8_finds hm2 hk k3 (layS_c w) hC2 (by omega)
  have eF : ∀ c t, FL v (layC v 0) (layS v 0) k c t ↔ Fit v (fun _ => False) k c t := fun c t => (Fit.lay w (x := 0)).symm.trans fit_0
  have hm3 : MVt (z2x B h2 fc fs) (B + 541) v T0 := hm2.same z2x_same
  unfold q_X8_assigns
  rw [k1, zbd_some, y1, zbd_some]
  rcases hb with ⟨c, s, b1, b2, b3⟩ | ⟨b1, b2, b3⟩
  · rcases y2 with ⟨z1, z2, z3⟩ | ⟨z1, z2⟩
    · exact absurd ((eF c s).mpr b1.2.1) (z3 c s b1.1.1 (by rw [← hC']; exact b1.1.2))
    · have hbs : Bs (Fit v (fun _ => False) k) (v 0 1) fc fs := by
        refine ⟨by rw [hC']; exact z2.1, (eF fc fs).mp z2.2.1, fun c' t h0 h1 hF => z2.2.2 c' t h0 (by rw [← hC']; exact h1) ((eF c' t).mpr hF)⟩
      obtain ⟨ec, es⟩ := hbs.uniq b1
      subst ec es
      rw [if_neg (by omega)]
      generalize hg : z2x B h2 fc fs = g at hm3
      have g26 : g.1 (B + 541) 26 = fc := by rw [← hg, z2x_26]
      have g27 : g.1 (B + 541) 27 = fs := by rw [← hg, z2x_27]
      have as0 : zAs B h g := by rw [← hg]; exact k2.as.tr zAs.z2
      have hl := hm3.1
      have hN0 : g.1 (B + 541 + 4) 0 = v 0 0 := by rw [← hm3.1.now]; exact m_now hm3
      have hc := m_c hm3 hk
      have n4 : g.1 (B + 541 + 4) (405 + 12 * k + 4) = v (25 + k) 4 := hc.2.2.2.2.1
      rw [e8_put hl hk16 (j := 5) (J := 5) (by decide) rfl, zbd_some, zput_ne (a := B + 541 + 4) (by omega), g26, e8_put (h := zput g (B + 541 + 4) (405 + 12 * k + 5) 1) hl hk16 (j := 6) (J := 6) (by decide) rfl, zbd_some, zput_ne (a := B + 541 + 4) (by omega), zput_ne (a := B + 541 + 4) (by omega), g27, e8_put (h := zput (zput g (B + 541 + 4) (405 + 12 * k + 5) 1) (B + 541 + 4) (405 + 12 * k + 6) fc) hl hk16 (j := 7) (J := 7) (by decide) rfl, zbd_some]
      simp only [zput_2]
      rw [hl.now]
      have e10 : (zput (zput (zput g (B + 541 + 4) (405 + 12 * k + 5) 1) (B + 541 + 4) (405 + 12 * k + 6) fc) (B + 541 + 4) (405 + 12 * k + 7) fs).1 (B + 541 + 4) 0 = v 0 0 := by
        rw [zput_ne (by omega), zput_ne (by omega), zput_ne (by omega), hN0]
      rw [e10, e8_put (h := zput (zput (zput g (B + 541 + 4) (405 + 12 * k + 5) 1) (B + 541 + 4) (405 + 12 * k + 6) fc) (B + 541 + 4) (405 + 12 * k + 7) fs) hl hk16 (j := 10) (J := 10) (by decide) rfl, zbd_some]
      simp only [zput_2]
      rw [hl.now]
      have eof : q_X8_of (zput (zput (zput (zput g (B + 541 + 4) (405 + 12 * k + 5) 1) (B + 541 + 4) (405 + 12 * k + 6) fc) (B + 541 + 4) (405 + 12 * k + 7) fs) (B + 541 + 4) (405 + 12 * k + 10) (v 0 0)) (B + 541) (k : Int) 4 = some (v (25 + k) 4) := by
        refine (e8_of (h := zput (zput (zput (zput g (B + 541 + 4) (405 + 12 * k + 5) 1) (B + 541 + 4) (405 + 12 * k + 6) fc) (B + 541 + 4) (405 + 12 * k + 7) fs) (B + 541 + 4) (405 + 12 * k + 10) (v 0 0)) hl hk16 (j := 4) (by decide)).trans ?_
        rw [zput_ne (by omega), zput_ne (by omega), zput_ne (by omega), zput_ne (by omega), n4]
      have e00 : (zput (zput (zput (zput g (B + 541 + 4) (405 + 12 * k + 5) 1) (B + 541 + 4) (405 + 12 * k + 6) fc) (B + 541 + 4) (405 + 12 * k + 7) fs) (B + 541 + 4) (405 + 12 * k + 10) (v 0 0)).1 (B + 541 + 4) 0 = v 0 0 := by
        rw [zput_ne (by omega), e10]
      have wz : zw (v 0 0 + v (25 + k) 4) = v 0 0 + v (25 + k) 4 := zw_id ⟨by omega, by omega⟩
      rw [eof, zbp_some, e00, wz, e8_put (h := zput (zput (zput (zput g (B + 541 + 4) (405 + 12 * k + 5) 1) (B + 541 + 4) (405 + 12 * k + 6) fc) (B + 541 + 4) (405 + 12 * k + 7) fs) (B + 541 + 4) (405 + 12 * k + 10) (v 0 0)) hl hk16 (j := 8) (J := 8) (by decide) rfl, zbd_some]
      rw [b3]
      refine ⟨_, rfl, ⟨hl, hwu, ?_⟩, as0.tr (zAs.p4.tr (zAs.p4.tr (zAs.p4.tr (zAs.p4.tr zAs.p4))))⟩
      have qo : ∀ i, i ≠ 405 + 12 * k + 5 → i ≠ 405 + 12 * k + 6 → i ≠ 405 + 12 * k + 7 → i ≠ 405 + 12 * k + 8 → i ≠ 405 + 12 * k + 10 → (zput (zput (zput (zput (zput g (B + 541 + 4) (405 + 12 * k + 5) 1) (B + 541 + 4) (405 + 12 * k + 6) fc) (B + 541 + 4) (405 + 12 * k + 7) fs) (B + 541 + 4) (405 + 12 * k + 10) (v 0 0)) (B + 541 + 4) (405 + 12 * k + 8) (v 0 0 + v (25 + k) 4)).1 (B + 541 + 4) i = g.1 (B + 541 + 4) i := fun i i5 i6 i7 i8 i10 => by
        rw [zput_ne (by omega), zput_ne (by omega), zput_ne (by omega), zput_ne (by omega), zput_ne (by omega)]
      rw [b2]
      refine hm3.2.2.call w hk16 (fun o j q => vpl_ne (by omega)) (fun i hi => qo i (by omega) (by omega) (by omega) (by omega) (by omega)) (fun _ => ?_)
      obtain ⟨c0, c1, c2, c3, c4, c5, c6, c7, c8, c9⟩ := hc
      unfold MRc
      rw [vpl_5, vpl_6, vpl_7, vpl_9, if_pos hk9, vpl_ne (j := 0) (by omega), vpl_ne (j := 1) (by omega), vpl_ne (j := 2) (by omega), vpl_ne (j := 3) (by omega), vpl_ne (j := 4) (by omega), vpl_ne (j := 8) (by omega), vpl_ne (j := 10) (by omega)]
      refine ⟨by rw [qo _ (by omega) (by omega) (by omega) (by omega) (by omega)]; exact c0, by rw [qo _ (by omega) (by omega) (by omega) (by omega) (by omega)]; exact c1, by rw [qo _ (by omega) (by omega) (by omega) (by omega) (by omega)]; exact c2, by rw [qo 4 (by omega) (by omega) (by omega) (by omega) (by omega), qo _ (by omega) (by omega) (by omega) (by omega) (by omega)]; exact c3, by rw [qo _ (by omega) (by omega) (by omega) (by omega) (by omega)]; exact c4, ?_, by rw [qo _ (by omega) (by omega) (by omega) (by omega) (by omega)]; exact c6, ?_, by rw [qo _ (by omega) (by omega) (by omega) (by omega) (by omega)]; exact c8, fun _ => ⟨?_, ?_, ?_⟩⟩
      · rw [zput_ne (by omega), zput_ne (by omega), zput_ne (by omega), zput_ne (by omega), zput_self]
      · rw [zput_ne (by omega), zput_self]
      · rw [zput_ne (by omega), zput_ne (by omega), zput_ne (by omega), zput_self]
      · rw [zput_ne (by omega), zput_ne (by omega), zput_self]
      · rw [zput_self]
  · rcases y2 with ⟨z1, z2, z3⟩ | ⟨z1, z2⟩
    · rw [if_pos z1]
      rw [b3, b2]
      exact ⟨_, rfl, hm3, k2.as.tr zAs.z2⟩
    · exact absurd ((eF fc fs).mp z2.2.1) (b1 fc fs z2.1.1 (by rw [hC']; exact z2.1.2))
theorem zAs.same' {h g : zH} (h1 : zAs B h g) {T0 : Nat → Int} (h2 : h.1 (B + 541 + 2) = T0) : g.1 (B + 541 + 2) = T0 := by
  rw [← h2]
  funext j
  exact h1.2 _ _ (by omega) (by omega) (by omega) (by omega)
theorem m_copyServed {c : Nat} {a : Nat → Nat} (hc : c ≤ 16) {K : Int → zH → Option (Int × zH)} : ∀ (r i f : Nat) (g : zH), i + r = c → r < f → mly g.2 (B + 541) → (∀ j, j < c → g.1 (B + 541 + 7) j = (a j : Int)) → (∀ j, j < i → g.1 (B + 541 + 10) j = (a j : Int)) →
    ∃ g', q_X8_serves_L23 (B + 541) (c : Int) K f (i : Int) g = K (c : Int) g' ∧ (∀ j, j < c → g'.1 (B + 541 + 10) j = (a j : Int)) ∧ g'.2 = g.2 ∧ ∀ q j, q ≠ B + 541 + 10 → g'.1 q j = g.1 q j := by
  intro r
  induction r with
  | zero =>
    intro i f g q1 q2 hl h7 h10
    obtain ⟨f', rfl⟩ : ∃ f', f = f' + 1 := ⟨f - 1, by omega⟩
    have e : i = c := by omega
    subst e
    refine ⟨g, ?_, h10, rfl, fun _ _ _ => rfl⟩
    rw [q_X8_serves_L23, if_pos (Int.le_refl _)]
  | succ r ih =>
    intro i f g q1 q2 hl h7 h10
    obtain ⟨f', rfl⟩ : ∃ f', f = f' + 1 := ⟨f - 1, by omega⟩
    have hi16 : i < 16 := by omega
    have hi6 : i < 1000000 := by omega
    have hni : ¬ (c : Int) ≤ (i : Int) := by omega
    have e21 : g.2 (B + 541) 21 = B + 541 + 7 := hl 21
    have e28 : g.2 (B + 541) 28 = B + 541 + 10 := hl 28
    obtain ⟨g', p1, p2, p3, p4⟩ := ih (i + 1) f' (zput g (B + 541 + 10) i (a i : Int)) (by omega) (by omega) hl (fun j hj => by rw [zput_ne (by omega)]; exact h7 j hj) (fun j hj => by
      by_cases e : j = i
      · rw [e, zput_self]
      · rw [zput_ne (by omega)]
        exact h10 j (by omega))
    refine ⟨g', ?_, p2, p3, fun q j hq => (p4 q j hq).trans (zput_ne (fun z => hq z.1))⟩
    rw [q_X8_serves_L23, if_neg hni]
    simp only [zlet_b, zgpos hi16]
    rw [Int.toNat_natCast, e21, e28, h7 i (by omega), zw_s hi6]
    exact p1
theorem m_serves {v : Nat → Nat → Int} {T0 : Nat → Int} {c : Nat} {a : Nat → Nat} {u : Nat → Nat → Int} {n : Int} {S : Nat → Bool} (w : WF v) (hE : Enu S (fun k => v (25 + k) 2) (nCl v) c a) (hR : Run a c v u n) (hw : ∀ i, i < c → v (25 + a i) 9 = -1) {K : Int → Int → zH → Option (Int × zH)} : ∀ (r i f : Nat) (g : zH) (z : Nat → Nat → Int) (x : Int), i + r = c → r < f → Run a i v z x → MVt g (B + 541) z T0 → (∀ j, j < c → g.1 (B + 541 + 10) j = (a j : Int)) → g.1 (B + 541) 25 = v 0 1 →
    ∃ g', q_X8_serves_L50 (B + 541) (c : Int) K f x (i : Int) g = K n (c : Int) g' ∧ MVt g' (B + 541) u T0 ∧ zAs B g g' := by
  have hn := w.nC
  have hcn : c ≤ nCl v := by rw [hE.2.2.2]; exact nct_le _
  intro r
  induction r with
  | zero =>
    intro i f g z x q1 q2 hz hm h10 h25
    obtain ⟨f', rfl⟩ : ∃ f', f = f' + 1 := ⟨f - 1, by omega⟩
    have e : i = c := by omega
    subst e
    obtain ⟨e1, e2⟩ := hR.uniq hz
    refine ⟨g, ?_, by rw [e1]; exact hm, ⟨rfl, fun _ _ _ _ _ _ => rfl⟩⟩
    rw [q_X8_serves_L50, if_pos (Int.le_refl _), e2]
  | succ r ih =>
    intro i f g z x q1 q2 hz hm h10 h25
    obtain ⟨f', rfl⟩ : ∃ f', f = f' + 1 := ⟨f - 1, by omega⟩
    have hic : i < c := by omega
    have hi16 : i < 16 := by omega
    have hi6 : i < 1000000 := by omega
    have hni : ¬ (c : Int) ≤ (i : Int) := by omega
    have e28 : g.2 (B + 541) 28 = B + 541 + 10 := hm.1 28
    have hai := (hE.1 i hic).1
    have hs := hz.sta
    obtain ⟨z', rr, y1, y2⟩ := hR.step hic hz
    have hai7 : ((a i : Nat) : Int) < z 0 7 := by rw [hs 0 7 (by omega)]; omega
    have hz9 : z (25 + a i) 9 = -1 := by
      rw [hz.rest (fun j hj e => by
        have := hE.inj (i := j) (j := i) (by omega) hic e
        omega)]
      exact hw i hic
    obtain ⟨g', k1, k2, k3⟩ := e8_assigns hm hai7 hz9 (by rw [h25, hs 0 1 (by omega)]) y1
    have hcnt := hz.cnt
    obtain ⟨g2, o1, o2, o3⟩ := ih (i + 1) f' g' z' (x + rr) (by omega) (by omega) y2 k2 (fun j hj => by rw [k3.2 _ _ (by omega) (by omega) (by omega) (by omega)]; exact h10 j hj) (by rw [k3.2 _ _ (by omega) (by omega) (by omega) (by omega)]; exact h25)
    refine ⟨g2, ?_, o2, k3.tr o3⟩
    rw [q_X8_serves_L50, if_neg hni, zgpos hi16, Int.toNat_natCast, e28, h10 i hic, k1, zbd_some]
    simp only [zlet_b]
    rw [zw_s hi6]
    rcases y1.r01 with q | q
    · rw [q] at o1 ⊢
      rw [if_pos rfl, zw_0 ⟨by omega, by omega⟩]
      rw [Int.add_zero] at o1
      exact o1
    · rw [q] at o1 ⊢
      have wx : zw (x + 1) = x + 1 := zw_id ⟨by omega, by omega⟩
      rw [if_neg one0, wx]
      exact o1
theorem e8_serves {h : zH} {v : Nat → Nat → Int} (hm : MV h (B + 541) v) (hw : ∀ k : Nat, (k : Int) < v 0 7 → v (25 + k) 5 = 0 → v (25 + k) 9 = -1) {c : Nat} {a : Nat → Nat} {u : Nat → Nat → Int} {n : Int} (hE : Enu (sMk v 1) (fun k => v (25 + k) 2) (nCl v) c a) (hR : Run a c v u n) : ∃ h', q_X8_serves h (B + 541) = some (n, h') ∧ MV h' (B + 541) u ∧ zS4 B h h' := by
  have w := hm.2.1
  have hn := w.nC
  have hC4 := w.2.1
  have e64 : h.1 (h.2 (B + 541) 3) 64 = v 0 1 := by rw [hm.1.told, hm.2.2.2.1]
  unfold q_X8_serves
  simp only [zlet_b]
  rw [e64]
  have s1 : zSame B h (zput h (B + 541) 25 (v 0 1)) := zSame.rf.put (by unfold zScrt; omega)
  have t1 : zS4 B h (zput h (B + 541) 25 (v 0 1)) := ⟨rfl, fun q j _ _ z => zput_ne (by omega)⟩
  have hm1 := hm.same s1
  obtain ⟨c', a', h2, k1, k2, k3, k4, k5⟩ := e8_orders (m := 1) (by decide) hm1
  obtain ⟨ec, ea⟩ := hE.uniq k3
  subst ec
  have k1' : q_X8_orders (zput h (B + 541) 25 (v 0 1)) (B + 541) 1 = some ((), h2) := k1
  rw [k1', zbd_some, k5]
  have hR' := hR.congr ea
  have hm2 := hm1.same k2.same
  have hcn : c ≤ nCl v := by rw [hE.2.2.2]; exact nct_le _
  obtain ⟨g, p1, p2, p3, p4⟩ := m_copyServed (B := B) (c := c) (a := a') (by omega) (K := fun x6 h7 => q_X8_serves_L50 (B + 541) (c : Int) (fun x15 x16 h17 => some (x15, h17)) zF 0 0 h7) c 0 zF h2 (Nat.zero_add _) (by unfold zF; omega) hm2.1 k4 (fun j hj => by omega)
  have p1' := p1
  rw [show ((0 : Nat) : Int) = 0 from rfl] at p1'
  rw [p1']
  have s3 : zSame B h2 g := ⟨p3, fun q j z => p4 q j (fun y => z (by unfold zScrt; omega))⟩
  have hm3 := hm2.same s3
  have e25 : g.1 (B + 541) 25 = v 0 1 := by rw [p4 _ _ (by omega), k2.2 _ _ (by omega) (by omega), zput_self]
  have hw' : ∀ i, i < c → v (25 + a' i) 9 = -1 := fun i hi => by
    have z := (k3.1 i hi)
    have hi7 : ((a' i : Nat) : Int) < v 0 7 := by omega
    refine hw _ hi7 ?_
    have h5 := (w.2.2.2.2.2.2.2.2 _ hi7).2.2.2.2.2.2.1
    have z2 := z.2
    rw [← sIn_mk w 0 (by decide) _ z.1, zdec] at z2
    exact z2
  obtain ⟨g2, o1, o2, o3⟩ := m_serves (B := B) w k3 hR' hw' (K := fun x15 _ h17 => some (x15, h17)) c 0 zF g v 0 (Nat.zero_add _) (by unfold zF; omega) ⟨rfl, rfl⟩ hm3 p2 e25
  have o1' := o1
  rw [show ((0 : Nat) : Int) = 0 from rfl] at o1'
  refine ⟨g2, o1', ?_, t1.tr (zS4.tr ⟨k2.1, fun q j _ y2 y3 => k2.2 q j (by omega) (by omega)⟩ (zS4.tr ⟨p3, fun q j _ y2 _ => p4 q j (by omega)⟩ o3.s4))⟩
  have e2 : g2.1 (B + 541 + 2) = g.1 (B + 541 + 2) := o3.same' rfl
  show MVt g2 (B + 541) u (g2.1 (B + 541 + 2))
  rw [e2]
  exact o2
end OPS
