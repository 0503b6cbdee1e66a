/-! A call asked for; a call that ends. -/
theorem vw_put0 {h : zH} {A j : Nat} {x : Int} : vw (zput h A j x).1 A = vup (vw h.1 A) 0 j x := vw_put (o := 0) (by decide)
/-- with one more call -/
def vnew (v : Nat → Nat → Int) (n : Nat) (s r p b ho : Int) : Nat → Nat → Int := vup (vup (vup (vup (vup (vup (vup (vup (vup (vup v 0 7 ((n + 1 : Nat) : Int)) (25 + n) 0 s) (25 + n) 1 r) (25 + n) 2 p) (25 + n) 3 b) (25 + n) 4 ho) (25 + n) 5 0) (25 + n) 8 (v 0 0)) (25 + n) 9 (-1)) (25 + n) 10 0
section VN
variable {v : Nat → Nat → Int} {n : Nat} {s r p b ho : Int}
theorem vnew_ne {o j : Nat} (h1 : ¬ (o = 0 ∧ j = 7)) (h2 : o ≠ 25 + n) : vnew v n s r p b ho o j = v o j := by
  unfold vnew
  rw [vup_ne (by omega), vup_ne (by omega), vup_ne (by omega), vup_ne (by omega), vup_ne (by omega), vup_ne (by omega), vup_ne (by omega), vup_ne (by omega), vup_ne (by omega), vup_ne (by omega)]
theorem vnew_n : vnew v n s r p b ho 0 7 = ((n + 1 : Nat) : Int) := by
  unfold vnew
  rw [vup_ne (by omega), vup_ne (by omega), vup_ne (by omega), vup_ne (by omega), vup_ne (by omega), vup_ne (by omega), vup_ne (by omega), vup_ne (by omega), vup_ne (by omega), vup_at]
theorem vnew_c : vnew v n s r p b ho (25 + n) 0 = s ∧ vnew v n s r p b ho (25 + n) 1 = r ∧ vnew v n s r p b ho (25 + n) 2 = p ∧ vnew v n s r p b ho (25 + n) 3 = b ∧ vnew v n s r p b ho (25 + n) 4 = ho ∧ vnew v n s r p b ho (25 + n) 5 = 0 ∧ vnew v n s r p b ho (25 + n) 8 = v 0 0 ∧ vnew v n s r p b ho (25 + n) 9 = -1 ∧ vnew v n s r p b ho (25 + n) 10 = 0 := by
  unfold vnew
  refine ⟨?_, ?_, ?_, ?_, ?_, ?_, ?_, ?_, ?_⟩
  · rw [vup_ne (by omega), vup_ne (by omega), vup_ne (by omega), vup_ne (by omega), vup_ne (by omega), vup_ne (by omega), vup_ne (by omega), vup_ne (by omega), vup_at]
  · rw [vup_ne (by omega), vup_ne (by omega), vup_ne (by omega), vup_ne (by omega), vup_ne (by omega), vup_ne (by omega), vup_ne (by omega), vup_at]
  · rw [vup_ne (by omega), vup_ne (by omega), vup_ne (by omega), vup_ne (by omega), vup_ne (by omega), vup_ne (by omega), vup_at]
  · rw [vup_ne (by omega), vup_ne (by omega), vup_ne (by omega), vup_ne (by omega), vup_ne (by omega), vup_at]
  · rw [vup_ne (by omega), vup_ne (by omega), vup_ne (by omega), vup_ne (by omega), vup_at]
  · rw [vup_ne (by omega), vup_ne (by omega), vup_ne (by omega), vup_at]
  · rw [vup_ne (by omega), vup_ne (by omega), vup_at]
  · rw [vup_ne (by omega), vup_at]
  · rw [vup_at]
theorem WF.new (w : WF v) (hn : v 0 7 = (n : Int)) (h16 : n < 16) (hs : 0 ≤ s ∧ s < v 0 3) (hr : 0 ≤ r ∧ r < v 0 3) (hsr : s ≠ r) (hp : 0 ≤ p ∧ p ≤ 9) (hb : 2 ≤ b ∧ b ≤ 2200) (hh : 1 ≤ ho ∧ ho ≤ 9999) : WF (vnew v n s r p b ho) := by
  have eo : ∀ o j, ¬ (o = 0 ∧ j = 7) → o ≠ 25 + n → vnew v n s r p b ho o j = v o j := fun o j h1 h2 => vnew_ne h1 h2
  have er : ∀ o, o ≠ 0 → o ≠ 25 + n → vnew v n s r p b ho o = v o := fun o h1 h2 => funext fun j => vnew_ne (fun z => h1 z.1) h2
  obtain ⟨c0, c1, c2, c3, c4, c5, c8, c9, c10⟩ := vnew_c (v := v) (n := n) (s := s) (r := r) (p := p) (b := b) (ho := ho)
  have hS := w.nS
  have hR := w.nR
  obtain ⟨a1, a2, a3, a4, a5, a6, a7, a8, a9⟩ := w
  have z0 := eo 0 0 (by omega) (by omega)
  have z1 := eo 0 1 (by omega) (by omega)
  have z3 := eo 0 3 (by omega) (by omega)
  have z5 := eo 0 5 (by omega) (by omega)
  refine ⟨by rw [z0]; exact a1, by rw [z1]; exact a2, by rw [z3]; exact a3, by rw [z5]; exact a4, by rw [vnew_n]; omega, fun j hj => by rw [er 1 (by omega) (by omega)]; exact a6 j hj, fun t ht => ?_, fun t ht => ?_, fun l hl => ?_⟩
  · rw [z3] at ht
    unfold WFs
    rw [z0, er (5 + 2 * t) (by omega) (by omega), er (6 + 2 * t) (by omega) (by omega)]
    exact a7 t ht
  · rw [z5] at ht
    unfold WFr
    rw [z3, er (17 + t) (by omega) (by omega)]
    exact a8 t ht
  · rw [vnew_n] at hl
    by_cases e : l = n
    · subst e
      unfold WFc
      rw [c0, c1, c2, c3, c4, c5, c8, c9, c10, z0, z3]
      exact ⟨hs, hr, hsr, hp, hb, hh, Or.inl rfl, ⟨a1.1, Int.le_refl _⟩, ⟨by omega, by omega⟩, ⟨by omega, a1.1⟩, trivial, fun z => by omega⟩
    · unfold WFc
      rw [z0, z1, z3, er 1 (by omega) (by omega), er (25 + l) (by omega) (by omega)]
      exact a9 l (by omega)
theorem MR.new {N N' T : Nat → Int} (m : MR v N T) (w : WF v) (hn : v 0 7 = (n : Int)) (h16 : n < 16) {sy : Int} (hN : ∀ i, i ≠ 404 → ¬ (405 + 12 * n ≤ i ∧ i < 405 + 12 * n + 12) → N' i = N i) (h404 : N' 404 = ((n + 1 : Nat) : Int)) (hsy : v 1 3 + sy = b)
    (n0 : N' (405 + 12 * n) = s) (n1 : N' (405 + 12 * n + 1) = r) (n2 : N' (405 + 12 * n + 2) = p) (n3 : N' (405 + 12 * n + 3) = sy) (n4 : N' (405 + 12 * n + 4) = ho) (n5 : N' (405 + 12 * n + 5) = 0) (n9 : N' (405 + 12 * n + 9) = v 0 0) (n10 : N' (405 + 12 * n + 10) = -1) (n11 : N' (405 + 12 * n + 11) = 0) : MR (vnew v n s r p b ho) N' T := by
  have eo : ∀ o j, ¬ (o = 0 ∧ j = 7) → o ≠ 25 + n → vnew v n s r p b ho o j = v o j := fun o j h1 h2 => vnew_ne h1 h2
  have er : ∀ o, o ≠ 0 → o ≠ 25 + n → vnew v n s r p b ho o = v o := fun o h1 h2 => funext fun j => vnew_ne (fun z => h1 z.1) h2
  obtain ⟨c0, c1, c2, c3, c4, c5, c8, c9, c10⟩ := vnew_c (v := v) (n := n) (s := s) (r := r) (p := p) (b := b) (ho := ho)
  have hS := w.nS
  have hR := w.nR
  obtain ⟨a1, a2, a3, a4, a5, a6, a7, a8, a9⟩ := m
  have z0 := eo 0 0 (by omega) (by omega)
  have z1 := eo 0 1 (by omega) (by omega)
  have z3 := eo 0 3 (by omega) (by omega)
  have z5 := eo 0 5 (by omega) (by omega)
  refine ⟨by rw [z0, hN 0 (by omega) (by omega)]; exact a1, by rw [z1]; exact a2, by rw [z3]; exact a3, by rw [z5]; exact a4, by rw [vnew_n, h404], fun j hj => by rw [er 1 (by omega) (by omega), hN (1 + j) (by omega) (by omega)]; exact a6 j hj, fun t ht => ?_, fun t ht => ?_, fun l hl => ?_⟩
  · rw [z3] at ht
    obtain ⟨b1, b2, b3, b4, b5, b6, b7, b8⟩ := a7 t ht
    unfold MRs
    rw [er (5 + 2 * t) (by omega) (by omega), er (6 + 2 * t) (by omega) (by omega)]
    exact ⟨b1, b2, b3, b4, b5, by rw [hN _ (by omega) (by omega)]; exact b6, by rw [hN _ (by omega) (by omega)]; exact b7, fun j hj => by rw [hN _ (by omega) (by omega)]; exact b8 j hj⟩
  · rw [z5] at ht
    unfold MRr
    rw [er (17 + t) (by omega) (by omega)]
    exact a8 t ht
  · rw [vnew_n] at hl
    have h4 : N' 4 = v 1 3 := by rw [hN 4 (by omega) (by omega)]; exact a6 3 (by decide)
    by_cases e : l = n
    · subst e
      unfold MRc
      rw [c0, c1, c2, c3, c4, c5, c8, c9, c10, n0, n1, n2, n3, n4, n5, n9, n10, n11, h4]
      exact ⟨rfl, rfl, rfl, hsy, rfl, rfl, rfl, rfl, rfl, fun z => by omega⟩
    · have hp : ∀ j, j < 12 → N' (405 + 12 * l + j) = N (405 + 12 * l + j) := fun j hj => hN _ (by omega) (by omega)
      unfold MRc
      rw [er (25 + l) (by omega) (by omega), hN 4 (by omega) (by omega), hN (405 + 12 * l) (by omega) (by omega), hp 1 (by omega), hp 2 (by omega), hp 3 (by omega), hp 4 (by omega), hp 5 (by omega), hp 6 (by omega), hp 7 (by omega), hp 8 (by omega), hp 9 (by omega), hp 10 (by omega), hp 11 (by omega)]
      exact a9 l (by omega)
theorem new_sep (hs : zSep v) (hn : v 0 7 = (n : Int)) : zSep (vnew v n s r p b ho) := by
  have er : ∀ o, o ≠ 0 → o ≠ 25 + n → vnew v n s r p b ho o = v o := fun o h1 h2 => funext fun j => vnew_ne (fun z => h1 z.1) h2
  obtain ⟨c0, c1, c2, c3, c4, c5, c8, c9, c10⟩ := vnew_c (v := v) (n := n) (s := s) (r := r) (p := p) (b := b) (ho := ho)
  intro k l hk hl hkl k5 l5 hc
  rw [vnew_n] at hk hl
  have ek : k ≠ n := fun z => by rw [z, c5] at k5; omega
  have el : l ≠ n := fun z => by rw [z, c5] at l5; omega
  unfold cfl at hc
  rw [er (25 + k) (by omega) (by omega)] at k5 hc ⊢
  rw [er (25 + l) (by omega) (by omega)] at l5 hc ⊢
  rw [er 1 (by omega) (by omega)]
  exact hs k l (by omega) (by omega) hkl k5 l5 hc
theorem new_fit (hn : v 0 7 = (n : Int)) {k : Nat} (hk : k < n) {c t : Int} (hF : Fit (vnew v n s r p b ho) (fun _ => False) k c t) : Fit v (fun _ => False) k c t := by
  have er : ∀ o, o ≠ 0 → o ≠ 25 + n → vnew v n s r p b ho o = v o := fun o h1 h2 => funext fun j => vnew_ne (fun z => h1 z.1) h2
  obtain ⟨f1, f2, f3⟩ := Fit.iff.mp hF
  rw [er 1 (by omega) (by omega)] at f1 f2
  rw [er (25 + k) (by omega) (by omega)] at f2
  refine Fit.iff.mpr ⟨f1, f2, fun l hl hW hw => f3 l (by rw [vnew_n]; omega) hW ?_⟩
  unfold isWay
  rw [er 1 (by omega) (by omega), er (25 + k) (by omega) (by omega), er (25 + l) (by omega) (by omega)]
  exact hw
theorem new_good (g : Good v) (hn : v 0 7 = (n : Int)) (h16 : n < 16) (hs : 0 ≤ s ∧ s < v 0 3) (hr : 0 ≤ r ∧ r < v 0 3) (hsr : s ≠ r) (hp : 0 ≤ p ∧ p ≤ 9) (hb : 2 ≤ b ∧ b ≤ 2200) (hh : 1 ≤ ho ∧ ho ≤ 9999) {u : Nat → Nat → Int} {x : Int} (hB : BP (vnew v n s r p b ho) n u x) : Good u := by
  obtain ⟨c0, c1, c2, c3, c4, c5, c8, c9, c10⟩ := vnew_c (v := v) (n := n) (s := s) (r := r) (p := p) (b := b) (ho := ho)
  have w := g.1.new hn h16 hs hr hsr hp hb hh
  have n5 : vnew v n s r p b ho (25 + n) 5 ≠ 1 := by rw [c5]; decide
  have u7 : u 0 7 = ((n + 1 : Nat) : Int) := (hB.sta 0 7 (by omega)).trans vnew_n
  have u1 : u 0 1 = v 0 1 := (hB.sta 0 1 (by omega)).trans (vnew_ne (by omega) (by omega))
  have er : ∀ o, o ≠ 0 → o ≠ 25 + n → vnew v n s r p b ho o = v o := fun o h1 h2 => funext fun j => vnew_ne (fun z => h1 z.1) h2
  refine ⟨hB.wf w, hB.sep n5 (new_sep g.2.1 hn), fun k hk hk5 c t h0 h1 hF => ?_, fun k hk hk5 => ?_⟩
  · rw [u7] at hk
    rw [u1] at h1
    by_cases e : k = n
    · subst e
      rcases hB with ⟨c', t', q1, q2, q3⟩ | ⟨q1, q2, q3⟩
      · rw [q2, vpl_5] at hk5
        omega
      · rw [q2] at hF
        exact q1 c t h0 (by rw [vnew_ne (by omega) (by omega)]; exact h1) hF
    · have e5 : u (25 + k) 5 = v (25 + k) 5 := by rw [hB.rest (fun z => e z.symm), er (25 + k) (by omega) (by omega)]
      rw [e5] at hk5
      exact g.2.2.1 k (by omega) hk5 c t h0 h1 (new_fit hn (by omega) (hB.fit n5 e hF))
  · rw [u7] at hk
    by_cases e : k = n
    · subst e
      rcases hB with ⟨c', t', q1, q2, q3⟩ | ⟨q1, q2, q3⟩
      · rw [q2, vpl_5] at hk5
        omega
      · rw [q2, c9]
    · have e5 : ∀ j, u (25 + k) j = v (25 + k) j := fun j => by rw [hB.rest (fun z => e z.symm), er (25 + k) (by omega) (by omega)]
      rw [e5] at hk5 ⊢
      exact g.2.2.2 k (by omega) hk5
end VN
section CL
variable {h : zH} {A : Nat}
theorem e4_addCall (hc : CV h A) {n : Nat} (hn : vw h.1 A 0 7 = (n : Int)) (h16 : n < 16) {s r p sy ho : Int} (hs : 0 ≤ s ∧ s < vw h.1 A 0 3) (hr : 0 ≤ r ∧ r < vw h.1 A 0 3) (hsr : s ≠ r) (hp : 0 ≤ p ∧ p ≤ 9) (hsy : 1 ≤ sy ∧ sy ≤ 2000) (hh : 1 ≤ ho ∧ ho ≤ 9999) :
    ∃ h' x, q_X4_addCall h A s r p sy ho = some ((), h') ∧ Frm A h h' ∧ BP (vnew (vw h.1 A) n s r p (vw h.1 A 1 3 + sy) ho) n (vw h'.1 A) x := by
  have w := hc.2
  have hset := w.set
  have e7 : h.1 A 7 = (n : Int) := by rw [a_0, hn]
  have hoo : 25 + n < 41 := by omega
  have hnA : ∀ j j' : Nat, ¬ (A + (25 + n) = A ∧ j = j') := fun _ _ z => by omega
  have hnA' : ∀ j j' : Nat, ¬ (A = A + (25 + n) ∧ j = j') := fun _ _ z => by omega
  have hn1 : ∀ j j' : Nat, ¬ (A + 1 = A + (25 + n) ∧ j = j') := fun _ _ z => by omega
  have n1 : ∀ j j' : Nat, ¬ (A + 1 = A ∧ j = j') := fun _ _ z => by omega
  have hwb : zw (vw h.1 A 1 3 + sy) = vw h.1 A 1 3 + sy := zw_id ⟨by omega, by omega⟩
  unfold q_X4_addCall
  simp only [zlet_b]
  rw [e7, if_neg (by omega), zgpos h16, Int.toNat_natCast, hc.1.cls, hc.1.cl]
  simp only [zput_2]
  rw [hc.1.set]
  have e3 : (zput (zput (zput (zput h A 7 (zw ((n : Int) + 1))) (A + (25 + n)) 0 s) (A + (25 + n)) 1 r) (A + (25 + n)) 2 p).1 (A + 1) 3 = vw h.1 A 1 3 := by
    rw [zput_ne (hn1 _ _), zput_ne (hn1 _ _), zput_ne (hn1 _ _), zput_ne (n1 _ _), a_1]
  rw [e3, hwb, zw_s (by omega)]
  clear hwb e3
  generalize hg1 : zput (zput (zput (zput (zput (zput (zput h A 7 ((n + 1 : Nat) : Int)) (A + (25 + n)) 0 s) (A + (25 + n)) 1 r) (A + (25 + n)) 2 p) (A + (25 + n)) 3 (vw h.1 A 1 3 + sy)) (A + (25 + n)) 4 ho) (A + (25 + n)) 5 0 = g1
  have e0 : g1.1 A 0 = vw h.1 A 0 0 := by
    rw [← hg1, zput_ne (hnA' _ _), zput_ne (hnA' _ _), zput_ne (hnA' _ _), zput_ne (hnA' _ _), zput_ne (hnA' _ _), zput_ne (hnA' _ _), zput_ne (by omega), a_0]
  rw [e0]
  generalize hg2 : zput (zput (zput g1 (A + (25 + n)) 8 (vw h.1 A 0 0)) (A + (25 + n)) 9 (-1)) (A + (25 + n)) 10 0 = g2
  have ev : vw g2.1 A = vnew (vw h.1 A) n s r p (vw h.1 A 1 3 + sy) ho := by
    rw [← hg2, ← hg1, vw_put hoo, vw_put hoo, vw_put hoo, vw_put hoo, vw_put hoo, vw_put hoo, vw_put hoo, vw_put hoo, vw_put hoo, vw_put0]
    rfl
  have r2 : g2.2 = h.2 := by rw [← hg2, ← hg1]; rfl
  have f2 : Frm A h g2 := by
    rw [← hg2, ← hg1]
    exact (((((((((Frm.rf.put (o := 0) (by decide)).put hoo).put hoo).put hoo).put hoo).put hoo).put hoo).put hoo).put hoo).put hoo
  have hc2 : CV g2 A := ⟨by rw [r2]; exact hc.1, by rw [ev]; exact w.new hn h16 hs hr hsr hp ⟨by omega, by omega⟩ hh⟩
  obtain ⟨x, h', k1, k2, k3⟩ := e4_place hc2 (k := n) (by rw [ev, vnew_n]; omega) (by rw [ev, vnew_c.2.2.2.2.2.1]; decide)
  rw [k1, zbd_some]
  exact ⟨h', x, rfl, f2.tr k3, by rw [← ev]; exact k2⟩
end CL
section OPS
variable {B : Nat}
theorem e8_asks {h : zH} {v : Nat → Nat → Int} {T0 : Nat → Int} (hm : MVt h (B + 541) v T0) {n : Nat} (hn : v 0 7 = (n : Int)) (h16 : n < 16) {s r p sy ho : Int} (hs : 0 ≤ s ∧ s < v 0 3) (hr : 0 ≤ r ∧ r < v 0 3) (hsr : s ≠ r) (hp : 0 ≤ p ∧ p ≤ 9) (hsy : 1 ≤ sy ∧ sy ≤ 2000) (hh : 1 ≤ ho ∧ ho ≤ 9999) :
    ∃ h', q_X8_asks h (B + 541) s r p sy ho = some ((n : Int), h') ∧ MVt h' (B + 541) (vnew v n s r p (v 1 3 + sy) ho) T0 ∧ h'.2 = h.2 ∧ ∀ q j, q ≠ B + 541 + 4 → h'.1 q j = h.1 q j := by
  have w := hm.2.1
  have hset := w.set
  have hl := hm.1
  have e404 : h.1 (h.2 (B + 541) 5) 404 = (n : Int) := by rw [hl.now, hm.2.2.2.2.2.2.1, hn]
  have put : ∀ (g : zH) (j : Nat) (J x : Int), g.2 = h.2 → j < 12 → J = (j : Int) → q_X8_put g (B + 541) (n : Int) J x = some ((), zput g (B + 541 + 4) (405 + 12 * n + j) x) := fun g j J x e1 e2 e3 => e8_put (by rw [e1]; exact hl) h16 e2 e3
  unfold q_X8_asks
  simp only [zlet_b]
  rw [e404, put h 0 0 s rfl (by decide) rfl, zbd_some, put (zput h (B + 541 + 4) (405 + 12 * n + 0) s) 1 1 r rfl (by decide) rfl, zbd_some, put (zput (zput h (B + 541 + 4) (405 + 12 * n + 0) s) (B + 541 + 4) (405 + 12 * n + 1) r) 2 2 p rfl (by decide) rfl, zbd_some, put (zput (zput (zput h (B + 541 + 4) (405 + 12 * n + 0) s) (B + 541 + 4) (405 + 12 * n + 1) r) (B + 541 + 4) (405 + 12 * n + 2) p) 3 3 sy rfl (by decide) rfl, zbd_some, put (zput (zput (zput (zput h (B + 541 + 4) (405 + 12 * n + 0) s) (B + 541 + 4) (405 + 12 * n + 1) r) (B + 541 + 4) (405 + 12 * n + 2) p) (B + 541 + 4) (405 + 12 * n + 3) sy) 4 4 ho rfl (by decide) rfl, zbd_some, put (zput (zput (zput (zput (zput h (B + 541 + 4) (405 + 12 * n + 0) s) (B + 541 + 4) (405 + 12 * n + 1) r) (B + 541 + 4) (405 + 12 * n + 2) p) (B + 541 + 4) (405 + 12 * n + 3) sy) (B + 541 + 4) (405 + 12 * n + 4) ho) 5 5 0 rfl (by decide) rfl, zbd_some]
  simp only [zput_2]
  rw [hl.now]
  generalize hg1 : zput (zput (zput (zput (zput (zput h (B + 541 + 4) (405 + 12 * n + 0) s) (B + 541 + 4) (405 + 12 * n + 1) r) (B + 541 + 4) (405 + 12 * n + 2) p) (B + 541 + 4) (405 + 12 * n + 3) sy) (B + 541 + 4) (405 + 12 * n + 4) ho) (B + 541 + 4) (405 + 12 * n + 5) 0 = g1
  have r1 : g1.2 = h.2 := by rw [← hg1]; rfl
  have q1 : ∀ i, ¬ (405 + 12 * n ≤ i ∧ i ≤ 405 + 12 * n + 5) → g1.1 (B + 541 + 4) i = h.1 (B + 541 + 4) i := fun i hi => by
    rw [← hg1, zput_ne (by omega), zput_ne (by omega), zput_ne (by omega), zput_ne (by omega), zput_ne (by omega), zput_ne (by omega)]
  have o1 : ∀ q i, q ≠ B + 541 + 4 → g1.1 q i = h.1 q i := fun q i hq => by
    rw [← hg1, zput_ne (fun z => hq z.1), zput_ne (fun z => hq z.1), zput_ne (fun z => hq z.1), zput_ne (fun z => hq z.1), zput_ne (fun z => hq z.1), zput_ne (fun z => hq z.1)]
  have t0 : g1.1 (B + 541 + 4) (405 + 12 * n) = s := by
    rw [← hg1, zput_ne (by omega), zput_ne (by omega), zput_ne (by omega), zput_ne (by omega), zput_ne (by omega)]
    exact zput_self
  have t1 : g1.1 (B + 541 + 4) (405 + 12 * n + 1) = r := by rw [← hg1, zput_ne (by omega), zput_ne (by omega), zput_ne (by omega), zput_ne (by omega), zput_self]
  have t2 : g1.1 (B + 541 + 4) (405 + 12 * n + 2) = p := by rw [← hg1, zput_ne (by omega), zput_ne (by omega), zput_ne (by omega), zput_self]
  have t3 : g1.1 (B + 541 + 4) (405 + 12 * n + 3) = sy := by rw [← hg1, zput_ne (by omega), zput_ne (by omega), zput_self]
  have t4 : g1.1 (B + 541 + 4) (405 + 12 * n + 4) = ho := by rw [← hg1, zput_ne (by omega), zput_self]
  have t5 : g1.1 (B + 541 + 4) (405 + 12 * n + 5) = 0 := by rw [← hg1, zput_self]
  clear hg1
  have e0 : g1.1 (B + 541 + 4) 0 = v 0 0 := by rw [q1 0 (by omega)]; exact hm.2.2.1
  rw [e0, put g1 9 9 (v 0 0) r1 (by decide) rfl, zbd_some, put (zput g1 (B + 541 + 4) (405 + 12 * n + 9) (v 0 0)) 10 10 (-1) r1 (by decide) rfl, zbd_some, put (zput (zput g1 (B + 541 + 4) (405 + 12 * n + 9) (v 0 0)) (B + 541 + 4) (405 + 12 * n + 10) (-1)) 11 11 0 r1 (by decide) rfl, zbd_some]
  simp only [zput_2]
  rw [r1, hl.now]
  have e4 : (zput (zput (zput g1 (B + 541 + 4) (405 + 12 * n + 9) (v 0 0)) (B + 541 + 4) (405 + 12 * n + 10) (-1)) (B + 541 + 4) (405 + 12 * n + 11) 0).1 (B + 541 + 4) 404 = (n : Int) := by
    rw [zput_ne (by omega), zput_ne (by omega), zput_ne (by omega), q1 _ (by omega), hm.2.2.2.2.2.2.1, hn]
  rw [e4, zw_s (by omega)]
  refine ⟨_, rfl, ⟨by rw [zput_2, zput_2, zput_2, zput_2, r1]; exact hl, w.new hn h16 hs hr hsr hp ⟨by omega, by omega⟩ hh, ?_⟩, r1, fun q i hq => ?_⟩
  · refine hm.2.2.new w hn h16 (sy := sy) (fun i hi hi2 => ?_) zput_self rfl ?_ ?_ ?_ ?_ ?_ ?_ ?_ ?_ ?_
    · rw [zput_ne (by omega), zput_ne (by omega), zput_ne (by omega), zput_ne (by omega), q1 i (by omega)]
    · rw [zput_ne (by omega), zput_ne (by omega), zput_ne (by omega), zput_ne (by omega), t0]
    · rw [zput_ne (by omega), zput_ne (by omega), zput_ne (by omega), zput_ne (by omega), t1]
    · rw [zput_ne (by omega), zput_ne (by omega), zput_ne (by omega), zput_ne (by omega), t2]
    · rw [zput_ne (by omega), zput_ne (by omega), zput_ne (by omega), zput_ne (by omega), t3]
    · rw [zput_ne (by omega), zput_ne (by omega), zput_ne (by omega), zput_ne (by omega), t4]
    · rw [zput_ne (by omega), zput_ne (by omega), zput_ne (by omega), zput_ne (by omega), t5]
    · rw [zput_ne (by omega), zput_ne (by omega), zput_ne (by omega), zput_self]
    · rw [zput_ne (by omega), zput_ne (by omega), zput_self]
    · rw [zput_ne (by omega), zput_self]
  · rw [zput_ne (fun z => hq z.1), zput_ne (fun z => hq z.1), zput_ne (fun z => hq z.1), zput_ne (fun z => hq z.1), o1 q i hq]
end OPS
