/-! Undoing; setting a setting; acquiring. -/
theorem Ceq.gi {v u : Nat → Nat → Int} (hc : Ceq v u) (g : GI v) : GI u := by
  have hc' := hc
  obtain ⟨⟨a1, a2, a5⟩, b, e⟩ := hc'
  have b1 := b 1 (by decide)
  refine ⟨fun k l hk hl hkl k5 l5 hcf => ?_, fun k hk k5 cc t h0 h1 hF => ?_, fun k hk k5 => ?_⟩
  · rw [← a5] at hk hl
    obtain ⟨ek, _, ek2⟩ := e k hk
    obtain ⟨el, _, el2⟩ := e l hl
    rw [← ek 5 (by decide)] at k5
    rw [← el 5 (by decide)] at l5
    unfold cfl at hcf
    rw [← ek 0 (by decide), ← ek 1 (by decide), ← (ek2 k5).1, ← el 0 (by decide), ← el 1 (by decide), ← (el2 l5).1] at hcf
    rw [← ek 3 (by decide), ← (ek2 k5).2, ← el 3 (by decide), ← (el2 l5).2, ← b1]
    exact g.1 k l hk hl hkl k5 l5 hcf
  · rw [← a5] at hk
    rw [← (e k hk).1 5 (by decide)] at k5
    exact g.2.1 k hk k5 cc t h0 (by rw [a2]; exact h1) ((hc.fit hk).mpr hF)
  · rw [← a5] at hk
    rw [← (e k hk).1 5 (by decide)] at k5
    rw [← (e k hk).2.1]
    exact g.2.2 k hk k5
theorem WF.set1 {v : Nat → Nat → Int} {j : Nat} {x : Int} (w : WF v) (h4 : 4 ≤ j) (h7 : j < 7) (hx : zsV 0 j ≤ x ∧ x ≤ zsV 1 j) : WF (vup v 1 j x) := by
  have e0 : vup v 1 j x 0 = v 0 := funext fun i => vup_ne (by omega)
  have eo : ∀ o, o ≠ 1 → vup v 1 j x o = v o := fun o ho => funext fun i => vup_ne (by omega)
  obtain ⟨a1, a2, a3, a4, a5, a6, a7, a8, a9⟩ := w
  refine ⟨by rw [e0]; exact a1, by rw [e0]; exact a2, by rw [e0]; exact a3, by rw [e0]; exact a4, by rw [e0]; exact a5, fun i hi => ?_, fun s hs => ?_, fun r hr => ?_, fun l hl => ?_⟩
  · by_cases e : i = j
    · rw [e, vup_at]
      exact hx
    · rw [vup_ne (by omega)]
      exact a6 i hi
  · rw [e0] at hs
    unfold WFs
    rw [e0, eo _ (by omega), eo _ (by omega)]
    exact a7 s hs
  · rw [e0] at hr
    unfold WFr
    rw [e0, eo _ (by omega)]
    exact a8 r hr
  · rw [e0] at hl
    unfold WFc
    rw [e0, eo (25 + l) (by omega), vup_ne (i := 0) (by omega), vup_ne (i := 1) (by omega), vup_ne (i := 2) (by omega)]
    exact a9 l hl
theorem MR.set1 {v : Nat → Nat → Int} {N N' T : Nat → Int} {j : Nat} {x : Int} (m : MR v N T) (h4 : 4 ≤ j) (h7 : j < 7) (hN : ∀ i, i ≠ 1 + j → N' i = N i) (hx : N' (1 + j) = x) : MR (vup v 1 j x) N' T := by
  have e0 : vup v 1 j x 0 = v 0 := funext fun i => vup_ne (by omega)
  have eo : ∀ o, o ≠ 1 → vup v 1 j x o = v o := fun o ho => funext fun i => vup_ne (by omega)
  obtain ⟨a1, a2, a3, a4, a5, a6, a7, a8, a9⟩ := m
  refine ⟨by rw [e0, hN 0 (by omega)]; exact a1, by rw [e0]; exact a2, by rw [e0]; exact a3, by rw [e0]; exact a4, by rw [e0, hN 404 (by omega)]; exact a5, fun i hi => ?_, fun s hs => ?_, fun r hr => ?_, fun l hl => ?_⟩
  · by_cases e : i = j
    · rw [e, vup_at, hx]
    · rw [vup_ne (by omega), hN _ (by omega)]
      exact a6 i hi
  · rw [e0] at hs
    obtain ⟨b1, b2, b3, b4, b5, b6, b7, b8⟩ := a7 s hs
    unfold MRs
    rw [eo (5 + 2 * s) (by omega), eo (6 + 2 * s) (by omega)]
    exact ⟨b1, b2, b3, b4, b5, by rw [hN _ (by omega)]; exact b6, by rw [hN _ (by omega)]; exact b7, fun i hi => by rw [hN _ (by omega)]; exact b8 i hi⟩
  · rw [e0] at hr
    unfold MRr
    rw [eo _ (by omega)]
    exact a8 r hr
  · rw [e0] at hl
    have hp : ∀ j, N' (405 + 12 * l + j) = N (405 + 12 * l + j) := fun j => hN _ (by omega)
    unfold MRc
    rw [eo _ (by omega), hN 4 (by omega), hN (405 + 12 * l) (by omega), hp 1, hp 2, hp 3, hp 4, hp 5, hp 6, hp 7, hp 8, hp 9, hp 10, hp 11]
    exact a9 l hl
theorem WF.stn {v u : Nat → Nat → Int} {s : Nat} (w : WF v) (hs6 : s < 6) (he : ∀ o j, o ≠ 5 + 2 * s → o ≠ 6 + 2 * s → u o j = v o j) (hc : (s : Int) < v 0 3 → WFs u s) : WF u := by
  have eo : ∀ o, o ≠ 5 + 2 * s → o ≠ 6 + 2 * s → u o = v o := fun o h1 h2 => funext fun i => he o i h1 h2
  have e0 := eo 0 (by omega) (by omega)
  have e1 := eo 1 (by omega) (by omega)
  obtain ⟨a1, a2, a3, a4, a5, a6, a7, a8, a9⟩ := w
  refine ⟨by rw [e0]; exact a1, by rw [e0]; exact a2, by rw [e0]; exact a3, by rw [e0]; exact a4, by rw [e0]; exact a5, by rw [e1]; exact a6, fun t ht => ?_, fun r hr => ?_, fun l hl => ?_⟩
  · rw [e0] at ht
    by_cases e : t = s
    · subst e
      exact hc ht
    · unfold WFs
      rw [e0, eo (5 + 2 * t) (by omega) (by omega), eo (6 + 2 * t) (by omega) (by omega)]
      exact a7 t ht
  · rw [e0] at hr
    unfold WFr
    rw [e0, eo (17 + r) (by omega) (by omega)]
    exact a8 r hr
  · rw [e0] at hl
    unfold WFc
    rw [e0, e1, eo (25 + l) (by omega) (by omega)]
    exact a9 l hl
theorem MR.stn {v u : Nat → Nat → Int} {N N' T : Nat → Int} {s : Nat} (m : MR v N T) (w : WF v) (hs6 : s < 6) (he : ∀ o j, o ≠ 5 + 2 * s → o ≠ 6 + 2 * s → u o j = v o j) (hN : ∀ i, i ≠ 8 + s → i ≠ 14 + s → ¬ (20 + 64 * s ≤ i ∧ i < 20 + 64 * s + 64) → N' i = N i) (hc : (s : Int) < v 0 3 → MRs u N' T s) : MR u N' T := by
  have eo : ∀ o, o ≠ 5 + 2 * s → o ≠ 6 + 2 * s → u o = v o := fun o h1 h2 => funext fun i => he o i h1 h2
  have e0 := eo 0 (by omega) (by omega)
  have e1 := eo 1 (by omega) (by omega)
  have hs := w.nS
  obtain ⟨a1, a2, a3, a4, a5, a6, a7, a8, a9⟩ := m
  refine ⟨by rw [e0, hN 0 (by omega) (by omega) (by omega)]; exact a1, by rw [e0]; exact a2, by rw [e0]; exact a3, by rw [e0]; exact a4, by rw [e0, hN 404 (by omega) (by omega) (by omega)]; exact a5, fun i hi => by rw [e1, hN (1 + i) (by omega) (by omega) (by omega)]; exact a6 i hi, fun t ht => ?_, fun r hr => ?_, fun l hl => ?_⟩
  · rw [e0] at ht
    by_cases e : t = s
    · subst e
      exact hc ht
    · obtain ⟨b1, b2, b3, b4, b5, b6, b7, b8⟩ := a7 t ht
      unfold MRs
      rw [eo (5 + 2 * t) (by omega) (by omega), eo (6 + 2 * t) (by omega) (by omega)]
      exact ⟨b1, b2, b3, b4, b5, by rw [hN _ (by omega) (by omega) (by omega)]; exact b6, by rw [hN _ (by omega) (by omega) (by omega)]; exact b7, fun i hi => by rw [hN _ (by omega) (by omega) (by omega)]; exact b8 i hi⟩
  · rw [e0] at hr
    unfold MRr
    rw [eo (17 + r) (by omega) (by omega)]
    exact a8 r hr
  · rw [e0] at hl
    have hp : ∀ j, N' (405 + 12 * l + j) = N (405 + 12 * l + j) := fun j => hN _ (by omega) (by omega) (by omega)
    unfold MRc
    rw [eo (25 + l) (by omega) (by omega), hN 4 (by omega) (by omega) (by omega), hN (405 + 12 * l) (by omega) (by omega) (by omega), hp 1, hp 2, hp 3, hp 4, hp 5, hp 6, hp 7, hp 8, hp 9, hp 10, hp 11]
    exact a9 l hl
theorem e8_leastOf {h : zH} {J : Int} (j : Nat) (hj : j < 7) (hJ : J = (j : Int)) : q_X8_leastOf h J = some (zsV 0 j) := by
  subst hJ
  unfold q_X8_leastOf
  obtain rfl | rfl | rfl | rfl | rfl | rfl | rfl : j = 0 ∨ j = 1 ∨ j = 2 ∨ j = 3 ∨ j = 4 ∨ j = 5 ∨ j = 6 := by omega
  all_goals decide
theorem e8_mostOf {h : zH} {J : Int} (j : Nat) (hj : j < 7) (hJ : J = (j : Int)) : q_X8_mostOf h J = some (zsV 1 j) := by
  subst hJ
  unfold q_X8_mostOf
  obtain rfl | rfl | rfl | rfl | rfl | rfl | rfl : j = 0 ∨ j = 1 ∨ j = 2 ∨ j = 3 ∨ j = 4 ∨ j = 5 ∨ j = 6 := by omega
  all_goals decide
theorem m_u26 {h : zH} {M m : Nat} (hp : m < 10) {K : Int → zH → Option (Int × zH)} : ∀ (r i f : Nat) (g : zH), i + r = 597 → r < f → mly g.2 M → g.1 M 8 = (m : Int) → (∀ j, j < i → g.1 (M + 4) j = h.1 (M + 6) (597 * m + j)) → (∀ q j, q ≠ M + 4 → g.1 q j = h.1 q j) → g.2 = h.2 →
    ∃ g', q_X8_undo_L26 M K f (i : Int) g = K (597 : Nat) g' ∧ (∀ j, j < 597 → g'.1 (M + 4) j = h.1 (M + 6) (597 * m + j)) ∧ (∀ q j, q ≠ M + 4 → g'.1 q j = h.1 q j) ∧ g'.2 = h.2 := by
  intro r
  induction r with
  | zero =>
    intro i f g q1 q2 hl h8 hi ho h2
    obtain ⟨f', rfl⟩ : ∃ f', f = f' + 1 := ⟨f - 1, by omega⟩
    have e : i = 597 := by omega
    subst e
    refine ⟨g, ?_, hi, ho, h2⟩
    rw [q_X8_undo_L26]
    exact if_pos (by decide)
  | succ r ih =>
    intro i f g q1 q2 hl h8 hi ho h2
    obtain ⟨f', rfl⟩ : ∃ f', f = f' + 1 := ⟨f - 1, by omega⟩
    have hi6 : i < 1000000 := by omega
    have hi597 : i < 597 := by omega
    have hp59 : 597 * m + i < 5970 := by omega
    have hni : ¬ (597 : Int) ≤ (i : Int) := by omega
    have e7 : g.2 M 7 = M + 6 := hl 7
    have w1 : zw (597 * (m : Int)) = 597 * (m : Int) := zw_id ⟨by omega, by omega⟩
    have w2 : zw (597 * (m : Int) + (i : Int)) = ((597 * m + i : Nat) : Int) := by clear w1; rw [zw_id ⟨by omega, by omega⟩]; omega
    obtain ⟨g', p1, p2, p3, p4⟩ := ih (i + 1) f' (zput g (M + 4) i (h.1 (M + 6) (597 * m + i))) (by omega) (by omega) hl (by rw [zput_ne (by omega)]; exact h8) (fun j hj => by
      by_cases e : j = i
      · rw [e, zput_self]
      · rw [zput_ne (by omega)]
        exact hi j (by omega)) (fun q j hq => by rw [zput_ne (by omega)]; exact ho q j hq) h2
    refine ⟨g', ?_, p2, p3, p4⟩
    rw [q_X8_undo_L26, if_neg hni, h8, w1, w2]
    simp only [zlet_b]
    rw [zgpos hp59, zgpos hi597, Int.toNat_natCast, Int.toNat_natCast, e7, hl.now, ho (M + 6) _ (by omega), zw_s hi6]
    exact p1
section OPS
variable {B : Nat}
theorem op_43 : zI_43 (zInv B) B (B + 541) (B + 552) := by
  intro h hI hG
  have hcnt := hI.2.2.1
  have r85 : h.2 (B + 85) 1 = B + 86 := hI.1 85 (by decide) (by decide) 1
  by_cases h0 : h.1 (B + 85) 0 ≤ 0
  · have e0 : h.1 (B + 85) 0 = 0 := by omega
    refine ⟨zput h (B + 541) 0 0, ⟨-1, h, ?_, ?_⟩, hI.same (zSame.rf.put sM0)⟩
    · unfold q_X7_undo q_X1_restore
      rw [hI.r3, e0, if_neg (by decide), zbd_some, if_pos rfl]
    · unfold q_X8_undo
      simp only [zlet_b]
      rw [if_pos (by rw [zput_ne (by omega), hcnt.2, e0])]
  · obtain ⟨m, hm⟩ : ∃ m : Nat, h.1 (B + 85) 0 = ((m + 1 : Nat) : Int) := ⟨(h.1 (B + 85) 0).toNat - 1, by omega⟩
    have hm10 : m < 10 := by omega
    have wm : zw (((m + 1 : Nat) : Int) - 1) = (m : Int) := by rw [zw_id ⟨by omega, by omega⟩]; omega
    obtain ⟨σ, s1, s2, s3⟩ := hI.prm
    have hsm := s1 m hm10
    obtain ⟨g1, g2⟩ := hI.hv (j := m) (by omega)
    have hHV : HV B h m = vw h.1 (B + (87 + 41 * σ m)) := by unfold HV; rw [s3 m hm10]
    rw [hHV] at g1 g2
    have ek : vw (zput h (B + 85) 0 (m : Int)).1 (B + (87 + 41 * σ m)) = vw h.1 (B + (87 + 41 * σ m)) := vw_ext fun o ho i => zput_ne (by omega)
    obtain ⟨h1, k1, k2, k3⟩ := e4_copy (h := zput h (B + 85) 0 (m : Int)) (A := B + 1) (A' := B + (87 + 41 * σ m)) hI.cly ⟨i_clyK hI hsm, by rw [ek]; exact g1.1⟩ (Or.inl (by omega))
    rw [ek] at k2
    have r1 : h1.2 = h.2 := k3.1
    have k3' : ∀ q j, ¬ (B + 1 ≤ q ∧ q < B + 42) → ¬ (q = B + 85 ∧ j = 0) → h1.1 q j = h.1 q j := fun q j hq hq2 => by
      rw [k3.2 q j (by omega), zput_ne hq2]
    have e85 : h1.1 (B + 85) 0 = (m : Int) := by rw [k3.2 _ _ (by omega), zput_self]
    have hl1 : mly h1.2 (B + 541) := by rw [r1]; exact hI.mly
    obtain ⟨g8, y1, y2, y3, y4⟩ := m_u26 (h := zput (zput h1 (B + 541) 0 0) (B + 541) 8 (m : Int)) (M := B + 541) hm10 (K := fun x5 h6 => some (h6.1 (B + 541) 8, h6)) 597 0 zF (zput (zput h1 (B + 541) 0 0) (B + 541) 8 (m : Int)) (by omega) (by unfold zF; omega) hl1 zput_self (fun j hj => by omega) (fun _ _ _ => rfl) rfl
    have y1' := y1
    rw [show ((0 : Nat) : Int) = 0 from rfl] at y1'
    have e88 : g8.1 (B + 541) 8 = (m : Int) := by rw [y3 _ _ (by omega), zput_self]
    have cc : ∀ q j, ¬ (B + 1 ≤ q ∧ q < B + 42) → ¬ (q = B + 85 ∧ j = 0) → q ≠ B + 541 + 4 → ¬ (q = B + 541 ∧ (j = 0 ∨ j = 8)) → g8.1 q j = h.1 q j := fun q j a b c d => by
      rw [y3 q j c, zput_ne (by omega), zput_ne (by omega), k3' q j a b]
    have r8 : g8.2 = h.2 := y4.trans r1
    refine ⟨g8, ⟨(m : Int), h1, ?_, ?_⟩, ?_⟩
    · unfold q_X7_undo q_X1_restore
      simp only [zlet_b]
      rw [hI.r3, hI.r0, hm, if_pos (by omega), wm, zput_self, zgpos hm10, zput_2, r85, Int.toNat_natCast, s3 m hm10, k1, zbd_some, zbd_some, if_neg one0, r1, hI.r3, e85]
    · unfold q_X8_undo
      simp only [zlet_b]
      have e8 : (zput h1 (B + 541) 0 0).1 (B + 541) 8 = ((m + 1 : Nat) : Int) := by rw [zput_ne (by omega), k3' _ _ (by omega) (by omega), hcnt.2, hm]
      rw [e8, if_neg (by omega), wm, y1', e88]
    · have ecur : vw g8.1 (B + 1) = vw h1.1 (B + 1) := vw_ext fun o ho i => by rw [y3 _ _ (by omega), zput_ne (by omega), zput_ne (by omega)]
      have et : g8.1 (B + 541 + 2) = h.1 (B + 541 + 2) := funext fun j => cc _ _ (by omega) (by omega) (by omega) (by omega)
      have e8c : g8.1 (B + 85) 0 = (m : Int) := by rw [y3 _ _ (by omega), zput_ne (by omega), zput_ne (by omega), e85]
      refine zInv.mk' (by rw [r8]; exact hI.1) ⟨σ, s1, s2, by rw [r8]; exact s3⟩ (fun j hj => ?_) ⟨⟨by rw [e8c]; omega, by rw [e8c]; omega⟩, by rw [e88, e8c]⟩ ?_ ?_ ?_ ?_
      · rw [e8c] at hj
        have hj10 : j < 10 := by omega
        have hsj := s1 j hj10
        have eh : HV B g8 j = HV B h j := by
          unfold HV
          rw [r8, s3 j hj10]
          exact vw_ext fun o ho i => cc _ _ (by omega) (by omega) (by omega) (by omega)
        obtain ⟨a, b⟩ := hI.hv (j := j) (by omega)
        rw [eh, et]
        exact ⟨a, MR.ext a.1 b (fun i hi => cc _ _ (by omega) (by omega) (by omega) (by omega))⟩
      · rw [ecur]
        exact k2.good g1
      · rw [ecur, et]
        refine MR.ext (k2.wf g1.1) (k2.mr g2) (fun i hi => ?_)
        rw [y2 i hi, zput_ne (by omega), zput_ne (by omega), k3' _ _ (by omega) (by omega)]
      · obtain ⟨f1, f2, f3⟩ := hI.2.2.2.2.2.1
        have n0 : g8.1 (B + 498) 0 = h.1 (B + 498) 0 := cc _ _ (by omega) (by omega) (by omega) (by omega)
        have n2 : g8.1 (B + 541) 2 = h.1 (B + 541) 2 := cc _ _ (by omega) (by omega) (by omega) (by omega)
        rw [n0, n2]
        refine ⟨f1, f2, fun i hi => ?_⟩
        rw [cc _ _ (by omega) (by omega) (by omega) (by omega), cc (B + 499) _ (by omega) (by omega) (by omega) (by omega)]
        exact f3 i hi
      · rw [cc _ _ (by omega) (by omega) (by omega) (by omega), cc (B + 541) _ (by omega) (by omega) (by omega) (by omega)]
        exact hI.2.2.2.2.2.2
/-- after keeping, on both sides -/
theorem chg_op {h g h1 x : zH} {np sh : Nat} (hI : zInv B h) (hn : KNum (h.1 (B + 85) 0) np sh) (hk : Kpt B h g np sh) (c2 : h1.2 = g.2) (c1 : ∀ q j, ¬ (B + 1 ≤ q ∧ q < B + 42) → ¬ zScrt B q j → h1.1 q j = g.1 q j) (hx : zSame B h1 x) :
    ∃ g8, q_X8_keeps x (B + 541) = some ((), g8) ∧ MV g8 (B + 541) (vw h.1 (B + 1)) ∧ (∀ q j, q ≠ B + 541 + 6 → ¬ (q = B + 541 ∧ j = 8) → g8.1 q j = x.1 q j) ∧ g8.2 = x.2 ∧ ∀ h2, zS4 B g8 h2 → Good (vw h1.1 (B + 1)) → MV h2 (B + 541) (vw h1.1 (B + 1)) → zInv B h2 := by
  have hk' := hk
  obtain ⟨K1, K2, K3, K4, K5, K6⟩ := hk
  have xx : ∀ q j, ¬ zScrt B q j → ¬ (B + 1 ≤ q ∧ q < B + 42) → ¬ (B + 87 ≤ q ∧ q < B + 497) → ¬ (q = B + 85 ∧ j = 0) → x.1 q j = h.1 q j := fun q j a b c d => by
    rw [hx.2 q j a, c1 q j b a, K6 q j c d]
  have x2 : x.2 = g.2 := hx.1.trans c2
  have hl : mly x.2 (B + 541) := fun j => by
    rw [x2, K2 _ _ (by omega)]
    exact hI.mly j
  have e8 : x.1 (B + 541) 8 = h.1 (B + 85) 0 := by rw [xx _ _ (by unfold zScrt; omega) (by omega) (by omega) (by omega), hI.2.2.1.2]
  obtain ⟨g8, p1, p2⟩ := e8_keepN hl (by rw [e8]; exact hn)
  have e4 : g8.1 (B + 541 + 4) = h.1 (B + 541 + 4) := funext fun j => by
    rw [p2.2.2.2.2 _ _ (by omega) (by omega), xx _ _ (by unfold zScrt; omega) (by omega) (by omega) (by omega)]
  have e2 : g8.1 (B + 541 + 2) = h.1 (B + 541 + 2) := funext fun j => by
    rw [p2.2.2.2.2 _ _ (by omega) (by omega), xx _ _ (by unfold zScrt; omega) (by omega) (by omega) (by omega)]
  refine ⟨g8, p1, ⟨by rw [p2.1]; exact hl, hI.wf, by rw [e4, e2]; exact hI.2.2.2.2.1⟩, p2.2.2.2.2, p2.1, fun h2 hs hg hm => ?_⟩
  exact zInv.chg hI hn hk' c2 c1 hg hx p2 hs hm.2.2
/-- the State behind keeping -/
theorem kpt_cur {h g : zH} {np sh : Nat} (hI : zInv B h) (hk : Kpt B h g np sh) : CV g (B + 1) ∧ vw g.1 (B + 1) = vw h.1 (B + 1) ∧ g.2 B 0 = B + 1 ∧ g.2 B 1 = B + 42 ∧ g.2 B 3 = B + 85 := by
  obtain ⟨K1, K2, K3, K4, K5, K6⟩ := hk
  have ev : vw g.1 (B + 1) = vw h.1 (B + 1) := vw_ext fun o ho j => K6 _ _ (by omega) (by omega)
  refine ⟨⟨fun o ho j => by rw [K2 _ _ (by omega)]; exact hI.cly o ho j, by rw [ev]; exact hI.wf⟩, ev, by rw [K2 _ _ (by omega)]; exact hI.r0, by rw [K2 _ _ (by omega)]; exact hI.1 0 (by decide) (by decide) 1, by rw [K2 _ _ (by omega)]; exact hI.r3⟩
theorem op_40 : zI_40 (zInv B) B (B + 541) (B + 552) := by
  intro h hI hG a1 a2 r1 r2
  have s1 : zSame B h (zput h (B + 541) 0 0) := zSame.rf.put sM0
  by_cases hx : 4 ≤ a1 ∧ a1 ≤ 6
  · obtain ⟨j, rfl⟩ : ∃ j : Nat, a1 = (j : Int) := ⟨a1.toNat, by omega⟩
    have hj4 : 4 ≤ j := by omega
    have hj7 : j < 7 := by omega
    have n4 : ¬ (j : Int) < 4 := by omega
    have n6 : ¬ 6 < (j : Int) := by omega
    by_cases hv : zsV 0 j ≤ a2 ∧ a2 ≤ zsV 1 j
    · obtain ⟨np, sh, hn⟩ := KNum.ex hI.2.2.1.1
      obtain ⟨g, k1, k2⟩ := e1_keep hI hn
      obtain ⟨g1, g2, g3, _, _⟩ := kpt_cur hI k2
      have gs : g.2 (B + 1) 2 = B + 1 + 1 := g1.1.set
      have ev : vw (zput g (B + 1 + 1) j a2).1 (B + 1) = vup (vw h.1 (B + 1)) 1 j a2 := by
        rw [vw_put (by decide), g2]
      have hx1 : zSame B (zput g (B + 1 + 1) j a2) (zput (zput g (B + 1 + 1) j a2) (B + 541) 0 0) := zSame.rf.put sM0
      obtain ⟨g8, p1, p2, p3, p4, p5⟩ := chg_op hI hn k2 (h1 := zput g (B + 1 + 1) j a2) rfl (fun q i hq _ => zput_ne (by omega)) hx1
      have e1 : g.1 (B + 1 + 1) j = vw h.1 (B + 1) 1 j := by rw [← g2, vw_at (by decide)]
      have e2 : g8.1 (B + 541 + 4) (1 + j) = vw h.1 (B + 1) 1 j := by rw [← p2.1.now]; exact m_set p2 hj7
      have hj597 : 1 + j < 597 := by omega
      have nv : ¬ a2 < zsV 0 j := Int.not_lt.mpr hv.1
      refine ⟨zput g8 (B + 541 + 4) (1 + j) a2, ⟨vw h.1 (B + 1) 1 j, zput g (B + 1 + 1) j a2, ?_, ?_⟩, ?_⟩
      · unfold q_X7_setSetting
        rw [e_inR hx.1 hx.2, zbp_some, if_neg one0, zgpos hj7, zgpos hj7, Int.toNat_natCast, e_inR hv.1 hv.2, zbp_some, if_neg one0, hI.r3, hI.r0, k1, zbd_some, zgpos hj7]
        simp only [zlet_b]
        rw [zgpos hj7, g3, gs, e1]
      · unfold q_X8_setSetting
        simp only [zlet_b]
        have w1 : zw (1 + (j : Int)) = ((1 + j : Nat) : Int) := zw_c (c := 1) (Nat.lt_trans hj597 (by decide))
        rw [if_neg n4, if_neg n6, e8_leastOf j hj7 rfl, zbp_some, if_neg nv, e8_mostOf j hj7 rfl, zbp_some, if_pos hv.2, p1, zbd_some, w1, zgpos hj597, zgpos hj597, Int.toNat_natCast, p2.1.now, e2]
      · have hw := hI.wf.set1 hj4 hj7 hv
        have cq : Ceq (vw h.1 (B + 1)) (vup (vw h.1 (B + 1)) 1 j a2) := ⟨⟨(vup_ne (by omega)).symm, (vup_ne (by omega)).symm, (vup_ne (by omega)).symm⟩, fun i hi => (vup_ne (by omega)).symm, fun k hk => ⟨fun i hi => (vup_ne (by omega)).symm, (vup_ne (by omega)).symm, fun _ => ⟨(vup_ne (by omega)).symm, (vup_ne (by omega)).symm⟩⟩⟩
        refine p5 _ ⟨rfl, fun q i q1 _ _ => zput_ne (fun z => q1 z.1)⟩ (by rw [ev]; exact ⟨hw, cq.gi hI.2.2.2.1.2⟩) ?_
        rw [ev]
        refine ⟨p2.1, hw, ?_⟩
        have et : (zput g8 (B + 541 + 4) (1 + j) a2).1 (B + 541 + 2) = g8.1 (B + 541 + 2) := funext fun i => zput_ne (by omega)
        rw [et]
        exact p2.2.2.set1 hj4 hj7 (fun i hi => zput_ne (by omega)) zput_self
    · refine ⟨zput h (B + 541) 0 0, ⟨-2, h, ?_, ?_⟩, hI.same s1⟩
      · unfold q_X7_setSetting
        rw [e_inR hx.1 hx.2, zbp_some, if_neg one0, zgpos hj7, zgpos hj7, Int.toNat_natCast, e_inN hv, zbp_some, if_pos rfl]
      · unfold q_X8_setSetting
        simp only [zlet_b]
        rw [if_neg n4, if_neg n6, e8_leastOf j hj7 rfl, zbp_some, e8_mostOf j hj7 rfl, zbp_some]
        by_cases q : a2 < zsV 0 j
        · rw [if_pos q]
        · rw [if_neg q, if_neg (fun z => hv ⟨by omega, z⟩)]
  · refine ⟨zput h (B + 541) 0 0, ⟨-2, h, ?_, ?_⟩, hI.same s1⟩
    · unfold q_X7_setSetting
      rw [e_inN hx, zbp_some, if_pos rfl]
    · unfold q_X8_setSetting
      simp only [zlet_b]
      by_cases q : a1 < 4
      · rw [if_pos q]
      · rw [if_neg q, if_pos (by omega)]
theorem e5_forget {h : zH} {P E : Nat} (he : h.2 P 7 = E) : ∃ h', q_X5_forgetErrors h P = some ((), h') ∧ h'.2 = h.2 ∧ (∀ j, j < 64 → h'.1 E j = 0) ∧ ∀ q j, ¬ (q = E ∧ j < 64) → h'.1 q j = h.1 q j := by
  have key : ∀ (r i f : Nat) (g : zH), i + r = 64 → r < f → g.2 = h.2 → (∀ j, j < i → g.1 E j = 0) → (∀ q j, ¬ (q = E ∧ j < 64) → g.1 q j = h.1 q j) → ∃ h', q_X5_forgetErrors_L2 P (fun _ h4 => some ((), h4)) f (i : Int) g = some ((), h') ∧ h'.2 = h.2 ∧ (∀ j, j < 64 → h'.1 E j = 0) ∧ ∀ q j, ¬ (q = E ∧ j < 64) → h'.1 q j = h.1 q j := by
    intro r
    induction r with
    | zero =>
      intro i f g q1 q2 h2 hi ho
      obtain ⟨f', rfl⟩ : ∃ f', f = f' + 1 := ⟨f - 1, by omega⟩
      have e : i = 64 := by omega
      subst e
      refine ⟨g, ?_, h2, hi, ho⟩
      rw [q_X5_forgetErrors_L2]
      exact if_pos (by decide)
    | succ r ih =>
      intro i f g q1 q2 h2 hi ho
      obtain ⟨f', rfl⟩ : ∃ f', f = f' + 1 := ⟨f - 1, by omega⟩
      have hi64 : i < 64 := by omega
      have hi6 : i < 1000000 := by omega
      have hni : ¬ (64 : Int) ≤ (i : Int) := by omega
      obtain ⟨h', p1, p2, p3, p4⟩ := ih (i + 1) f' (zput g E i 0) (by omega) (by omega) h2 (fun j hj => by
        by_cases e : j = i
        · rw [e, zput_self]
        · rw [zput_ne (by omega)]
          exact hi j (by omega)) (fun q j hq => by rw [zput_ne (by omega)]; exact ho q j hq)
      refine ⟨h', ?_, p2, p3, p4⟩
      rw [q_X5_forgetErrors_L2, if_neg hni]
      simp only [zlet_b]
      rw [zgpos hi64, Int.toNat_natCast, h2, he, zw_s hi6]
      exact p1
  unfold q_X5_forgetErrors
  exact key 64 0 zF h (by omega) (by unfold zF; omega) rfl (fun j hj => by omega) (fun _ _ _ => rfl)
theorem m_acq {h : zH} {M s : Nat} (hs : s < 6) {K : Int → zH → Option (Int × zH)} : ∀ (r i f : Nat) (g : zH), i + r = 64 → r < f → mly g.2 M → (∀ j, j < i → g.1 (M + 4) (20 + 64 * s + j) = 0) → (∀ q j, ¬ (q = M + 4 ∧ 20 + 64 * s ≤ j ∧ j < 20 + 64 * s + 64) → g.1 q j = h.1 q j) → g.2 = h.2 →
    ∃ g', q_X8_acquire_L21 M (s : Int) K f (i : Int) g = K (64 : Nat) g' ∧ (∀ j, j < 64 → g'.1 (M + 4) (20 + 64 * s + j) = 0) ∧ (∀ q j, ¬ (q = M + 4 ∧ 20 + 64 * s ≤ j ∧ j < 20 + 64 * s + 64) → g'.1 q j = h.1 q j) ∧ g'.2 = h.2 := by
  intro r
  induction r with
  | zero =>
    intro i f g q1 q2 hl hi ho h2
    obtain ⟨f', rfl⟩ : ∃ f', f = f' + 1 := ⟨f - 1, by omega⟩
    have e : i = 64 := by omega
    subst e
    refine ⟨g, ?_, hi, ho, h2⟩
    rw [q_X8_acquire_L21]
    exact if_pos (by decide)
  | succ r ih =>
    intro i f g q1 q2 hl hi ho h2
    obtain ⟨f', rfl⟩ : ∃ f', f = f' + 1 := ⟨f - 1, by omega⟩
    have hi64 : i < 64 := by omega
    have hi6 : i < 1000000 := by omega
    have hp : 20 + 64 * s + i < 597 := by omega
    have hni : ¬ (64 : Int) ≤ (i : Int) := by omega
    have w1 : zw (64 * (s : Int)) = 64 * (s : Int) := zw_id ⟨by omega, by omega⟩
    have w2 : zw (20 + 64 * (s : Int)) = 20 + 64 * (s : Int) := by clear w1; exact zw_id ⟨by omega, by omega⟩
    have w3 : zw (20 + 64 * (s : Int) + (i : Int)) = ((20 + 64 * s + i : Nat) : Int) := by clear w1 w2; rw [zw_id ⟨by omega, by omega⟩]; omega
    obtain ⟨g', p1, p2, p3, p4⟩ := ih (i + 1) f' (zput g (M + 4) (20 + 64 * s + i) 0) (by omega) (by omega) hl (fun j hj => by
      by_cases e : j = i
      · rw [e, zput_self]
      · rw [zput_ne (by omega)]
        exact hi j (by omega)) (fun q j hq => by rw [zput_ne (by omega)]; exact ho q j hq) h2
    refine ⟨g', ?_, p2, p3, p4⟩
    rw [q_X8_acquire_L21, if_neg hni, w1, w2, w3]
    simp only [zlet_b]
    rw [zgpos hp, Int.toNat_natCast, hl.now, zw_s hi6]
    exact p1
theorem op_41 : zI_41 (zInv B) B (B + 541) (B + 552) := by
  intro h hI hG a1 r1
  have s1 : zSame B h (zput h (B + 541) 0 0) := zSame.rf.put sM0
  have hm := hI.mv.same s1
  have hw := hI.wf
  have hS := hw.nS
  by_cases hx : 0 ≤ a1 ∧ a1 < vw h.1 (B + 1) 0 3
  · obtain ⟨s, rfl⟩ : ∃ s : Nat, a1 = (s : Int) := ⟨a1.toNat, by omega⟩
    have hs6 : s < 6 := by omega
    obtain ⟨np, sh, hn⟩ := KNum.ex hI.2.2.1.1
    obtain ⟨g, k1, k2⟩ := e1_keep hI hn
    obtain ⟨g1, g2, g3, _, _⟩ := kpt_cur hI k2
    obtain ⟨h1, f1, f2, f3, f4⟩ := e5_forget (h := g) (P := B + 1 + (5 + 2 * s)) (E := B + 1 + (6 + 2 * s)) (g1.1.er hs6)
    have ev : ∀ o j, vw h1.1 (B + 1) o j = if o = 6 + 2 * s ∧ j < 64 then 0 else vw h.1 (B + 1) o j := fun o j => by
      by_cases ho : o < 41
      · rw [vw_at ho, ← g2, vw_at ho]
        by_cases e : o = 6 + 2 * s ∧ j < 64
        · rw [if_pos e, e.1, f3 j e.2]
        · rw [if_neg e, f4 _ _ (by omega)]
      · rw [if_neg (by omega)]
        unfold vw
        rw [if_neg ho, if_neg ho]
    have en : ∀ o j, o ≠ 6 + 2 * s → vw h1.1 (B + 1) o j = vw h.1 (B + 1) o j := fun o j ho => by rw [ev, if_neg (fun z => ho z.1)]
    have hx1 : zSame B h1 (zput h1 (B + 541) 0 0) := zSame.rf.put sM0
    obtain ⟨g8, p1, p2, p3, p4, p5⟩ := chg_op hI hn k2 (h1 := h1) f2 (fun q i hq _ => f4 q i (by omega)) hx1
    obtain ⟨h2, y1, y2, y3, y4⟩ := m_acq (h := g8) (M := B + 541) hs6 (K := fun x6 h7 => some (1, h7)) 64 0 zF g8 (by omega) (by unfold zF; omega) p2.1 (fun j hj => by omega) (fun _ _ _ => rfl) rfl
    have y1' := y1
    rw [show ((0 : Nat) : Int) = 0 from rfl] at y1'
    have hm1 : ∃ T, MVt (zput h1 (B + 541) 0 0) (B + 541) (vw h.1 (B + 1)) T := ⟨_, by rw [← p4]; exact p2.1, p2.2.1, by
      have e4 : (zput h1 (B + 541) 0 0).1 (B + 541 + 4) = g8.1 (B + 541 + 4) := funext fun j => (p3 _ _ (by omega) (by omega)).symm
      rw [e4]
      exact p2.2.2⟩
    have eis : q_X8_isStation (zput h1 (B + 541) 0 0) (B + 541) (s : Int) = some 1 := by
      have em : MV (zput h1 (B + 541) 0 0) (B + 541) (vw h.1 (B + 1)) := by
        refine ⟨by rw [← p4]; exact p2.1, p2.2.1, ?_⟩
        have e4 : (zput h1 (B + 541) 0 0).1 (B + 541 + 4) = g8.1 (B + 541 + 4) := funext fun j => (p3 _ _ (by omega) (by omega)).symm
        have e2 : (zput h1 (B + 541) 0 0).1 (B + 541 + 2) = g8.1 (B + 541 + 2) := funext fun j => (p3 _ _ (by omega) (by omega)).symm
        rw [e4, e2]
        exact p2.2.2
      rw [e8_isStation em, if_pos hx]
    refine ⟨h2, ⟨1, h1, ?_, ?_⟩, ?_⟩
    · unfold q_X7_acquire
      have hb : 0 ≤ (s : Int) ∧ (s : Int) ≤ zw (h.1 (h.2 B 0) 3 - 1) := Classical.not_not.mp (fun z => (b_station hI).mp z hx)
      rw [e_inR hb.1 hb.2, zbp_some, if_neg one0, hI.r3, hI.r0, k1, zbd_some, zgpos hs6, Int.toNat_natCast, g3, g1.1.sts, g1.1.st, f1, zbd_some]
    · unfold q_X8_acquire
      simp only [zlet_b]
      rw [eis, zbp_some, if_neg one0, p1, zbd_some, y1']
    · have hws := hw.2.2.2.2.2.2.1 s hx.2
      have hw1 : WF (vw h1.1 (B + 1)) := by
        refine hw.stn hs6 (fun o j _ h2 => en o j h2) (fun _ => ?_)
        obtain ⟨x1, x2, x3, x4, x5, x6⟩ := hws
        unfold WFs
        rw [en 0 0 (by omega), en _ 1 (by omega), en _ 2 (by omega), en _ 3 (by omega), en _ 4 (by omega), en _ 5 (by omega), en _ 6 (by omega)]
        refine ⟨x1, x2, x3, x4, x5, fun j hj => ?_⟩
        rw [ev, if_pos ⟨rfl, hj⟩]
        omega
      have cq : Ceq (vw h.1 (B + 1)) (vw h1.1 (B + 1)) := ⟨⟨(en _ _ (by omega)).symm, (en _ _ (by omega)).symm, (en _ _ (by omega)).symm⟩, fun i hi => (en _ _ (by omega)).symm, fun k hk => ⟨fun i hi => (en _ _ (by omega)).symm, (en _ _ (by omega)).symm, fun _ => ⟨(en _ _ (by omega)).symm, (en _ _ (by omega)).symm⟩⟩⟩
      refine p5 _ ⟨y4, fun q i q1 _ _ => y3 q i (by omega)⟩ ⟨hw1, cq.gi hI.2.2.2.1.2⟩ ?_
      refine ⟨by rw [y4]; exact p2.1, hw1, ?_⟩
      have et : h2.1 (B + 541 + 2) = g8.1 (B + 541 + 2) := funext fun i => y3 _ _ (by omega)
      rw [et]
      refine p2.2.2.stn hw hs6 (fun o j _ h2 => en o j h2) (fun i _ _ hi => y3 _ _ (by omega)) (fun _ => ?_)
      obtain ⟨b1, b2, b3, b4, b5, b6, b7, b8⟩ := p2.2.2.2.2.2.2.2.2.1 s hx.2
      unfold MRs
      rw [en _ 0 (by omega), en _ 1 (by omega), en _ 2 (by omega), en _ 3 (by omega), en _ 4 (by omega), en _ 5 (by omega), en _ 6 (by omega)]
      refine ⟨b1, b2, b3, b4, b5, by rw [y3 _ _ (by omega)]; exact b6, by rw [y3 _ _ (by omega)]; exact b7, fun j hj => ?_⟩
      rw [y2 j hj, ev, if_pos ⟨rfl, hj⟩]
  · refine ⟨zput h (B + 541) 0 0, ⟨0, h, ?_, ?_⟩, hI.same s1⟩
    · unfold q_X7_acquire
      rw [e_inN ((b_station hI).mpr hx), zbp_some, if_pos rfl]
    · unfold q_X8_acquire
      simp only [zlet_b]
      rw [e8_isStation hm, if_neg hx, zbp_some, if_pos rfl]
end OPS
