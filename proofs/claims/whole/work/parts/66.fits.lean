/-! Fitting without some calls; a call assigned by the reference. -/
section OPS
variable {B : Nat}
theorem layS_c {v : Nat → Nat → Int} (w : WF v) {x : Int} : ∀ l, l < nCl v → -1 ≤ layS v x l ∧ layS v x l ≤ v 1 0 := by
  intro l hl
  have hn := w.nC
  have hset := w.set
  unfold layS
  split
  · next q =>
    have ha := w.act (k := l) (by omega) q.1
    have hbu := (w.2.2.2.2.2.2.2.2 l (by omega)).2.2.2.2.1
    omega
  · omega
theorem e8_fitsBut {h : zH} {v : Nat → Nat → Int} (hm : MV h (B + 541) v) {k : Nat} (hk : (k : Int) < v 0 7) (x : Int) :
    ∃ r h', q_X8_fitsBut h (B + 541) (k : Int) x = some (r, h') ∧ zSame B h h' ∧ h'.1 (B + 541) 0 = h.1 (B + 541) 0 ∧ h'.1 (B + 552) 0 = h.1 (B + 552) 0 ∧ ((r = 1 ∧ ∃ c t, 0 ≤ c ∧ c < v 0 1 ∧ Fit v (fun l => awy x l = true) k c t) ∨ (r = 0 ∧ ∀ c t, 0 ≤ c → c < v 0 1 → ¬ Fit v (fun l => awy x l = true) k c t)) := by
  have w := hm.2.1
  have hC4 := w.2.1
  obtain ⟨C, hC⟩ : ∃ C : Nat, v 0 1 = (C : Int) := ⟨(v 0 1).toNat, by omega⟩
  have e64 : h.1 (h.2 (B + 541) 3) 64 = (C : Int) := by rw [hm.1.told, hm.2.2.2.1, hC]
  unfold q_X8_fitsBut
  simp only [zlet_b]
  rw [e64]
  have s1 : zSame B h (zput h (B + 541) 25 (C : Int)) := zSame.rf.put (by unfold zScrt; omega)
  have hm1 := hm.same s1
  obtain ⟨h2, k1, k2, k3⟩ := e8_lays hm1 x
  rw [k1, zbd_some]
  have hm2 := hm1.same k2.same
  have hC2 : h2.1 (B + 541) 25 = (C : Int) := by rw [k2.2 _ _ (by omega) (by omega), zput_self]
  obtain ⟨r, fc, fs, y1, y2⟩ := e8_finds hm2 hk k3 (layS_c w) hC2 (by omega)
  rw [y1, zbd_some]
  have hs : zSame B h (z2x B h2 fc fs) := s1.tr (k2.same.tr z2x_same)
  have h0 : (z2x B h2 fc fs).1 (B + 541) 0 = h.1 (B + 541) 0 := by rw [z2x_ne (by omega), k2.2 _ _ (by omega) (by omega), zput_ne (by omega)]
  have hO : (z2x B h2 fc fs).1 (B + 552) 0 = h.1 (B + 552) 0 := by rw [z2x_ne (by omega), k2.2 _ _ (by omega) (by omega), zput_ne (by omega)]
  rcases y2 with ⟨z1, z2, z3⟩ | ⟨z1, z2⟩
  · refine ⟨r, _, by rw [zgb_pos (Or.inl z1)], hs, h0, hO, Or.inr ⟨z1, fun c t a b f => ?_⟩⟩
    exact z3 c t a (by omega) ((Fit.lay w).mp f)
  · refine ⟨r, _, by rw [zgb_pos (Or.inr z1)], hs, h0, hO, Or.inl ⟨z1, fc, fs, z2.1.1, by rw [hC]; exact z2.1.2, (Fit.lay w).mpr z2.2.1⟩⟩
theorem e7_fits {h : zH} (hI : zInv B h) {k : Nat} (hk : (k : Int) < vw h.1 (B + 1) 0 7) (hk5 : vw h.1 (B + 1) (25 + k) 5 ≠ 1) (x : Int) {C : Nat} (hC : vw h.1 (B + 1) 0 1 = (C : Int)) : ∀ (r i f : Nat), i + r = C → r < f → (∀ c t, 0 ≤ c → c < (i : Int) → ¬ Fit (vw h.1 (B + 1)) (fun l => awy x l = true) k c t) →
    ∃ y, q_X7_fitsWithout_L18 h B x (B + 1 + (25 + k)) (fun _ => some 0) f (i : Int) = some y ∧ ((y = 1 ∧ ∃ c t, 0 ≤ c ∧ c < vw h.1 (B + 1) 0 1 ∧ Fit (vw h.1 (B + 1)) (fun l => awy x l = true) k c t) ∨ (y = 0 ∧ ∀ c t, 0 ≤ c → c < vw h.1 (B + 1) 0 1 → ¬ Fit (vw h.1 (B + 1)) (fun l => awy x l = true) k c t)) := by
  have hcv := hI.cv
  have w := hcv.2
  have hC4 := w.2.1
  intro r
  induction r with
  | zero =>
    intro i f q1 q2 hF
    obtain ⟨f', rfl⟩ : ∃ f', f = f' + 1 := ⟨f - 1, by omega⟩
    refine ⟨0, ?_, Or.inr ⟨rfl, fun c t z1 z2 => hF c t z1 (by omega)⟩⟩
    rw [q_X7_fitsWithout_L18, hI.r0, a_0, hC, if_pos (by omega)]
  | succ r ih =>
    intro i f q1 q2 hF
    obtain ⟨f', rfl⟩ : ∃ f', f = f' + 1 := ⟨f - 1, by omega⟩
    have hi6 : i < 1000000 := by omega
    have hni : ¬ (C : Int) ≤ (i : Int) := by omega
    obtain ⟨s, p1, p2⟩ := e4_leastStart hcv hk hk5 (i : Int) x
    rw [q_X7_fitsWithout_L18, hI.r0, a_0, hC, if_neg hni, p1, zbp_some]
    simp only [zlet_b]
    rw [zw_s hi6]
    rcases p2 with ⟨a, bb⟩ | ⟨a, bb⟩
    · have hx := a.pos w
      rw [if_neg (by omega)]
      exact ⟨1, rfl, Or.inl ⟨rfl, (i : Int), s, by omega, by omega, a⟩⟩
    · rw [if_pos a]
      rw [← hC]
      refine ih (i + 1) f' (by omega) (by omega) (fun c t z1 z2 => ?_)
      by_cases e : c = (i : Int)
      · rw [e]; exact bb t
      · exact hF c t z1 (by omega)
theorem op_33 : zI_33 (zInv B) B (B + 541) (B + 552) := by
  intro h hI hG a1 a2 r1 r2
  have hcv := hI.cv
  have w := hcv.2
  have hn := w.nC
  have hC4 := w.2.1
  have goal : ∃ h2, ((∃ v, q_X7_fitsWithout h B a1 a2 = some v ∧ (v = 0 ∨ v = 1) ∧ q_X8_fitsWithout (zput h (B + 552) 0 v) (B + 541) a1 a2 = some (v, h2) ∧ q_X8_thrown h2 (B + 541) = some 0 ∧ h2.1 (B + 552) 0 = v) ∨ (¬ (0 ≤ a1 ∧ a1 ≤ zw (h.1 (h.2 B 0) 7 - 1)) ∧ ∃ v, q_X8_fitsWithout h (B + 541) a1 a2 = some (v, h2) ∧ q_X8_thrown h2 (B + 541) = some 1)) ∧ zInv B h2 := by
    by_cases hc1 : 0 ≤ a1 ∧ a1 < vw h.1 (B + 1) 0 7
    · obtain ⟨k, rfl⟩ : ∃ k : Nat, a1 = (k : Int) := ⟨a1.toNat, by omega⟩
      have hk16 : k < 16 := by omega
      have ref : ∀ h', zSame B h h' → q_X8_fitsWithout h' (B + 541) (k : Int) a2 = (if vw h.1 (B + 1) (25 + k) 5 = 0 then zbd (q_X8_fitsBut (zput h' (B + 541) 0 0) (B + 541) (k : Int) a2) (fun x5 h6 => if x5 = 0 then some (0, h6) else some (1, h6)) else some (0, zput h' (B + 541) 0 0)) := by
        intro h' hs
        have hm := hI.mv.same hs
        unfold q_X8_fitsWithout
        rw [e8_isCall hm, if_pos hc1, zbp_some, e8_checks (Or.inr rfl), zbd_some, if_neg one0, if_neg one0, m_5 hm.p0 hc1.2, zbp_some]
      have good : ∃ s, q_X7_fitsWithout h B (k : Int) a2 = some s ∧ (s = 0 ∨ s = 1) ∧ ∀ h', zSame B h h' → ∃ h2, q_X8_fitsWithout h' (B + 541) (k : Int) a2 = some (s, h2) ∧ zSame B h' h2 ∧ h2.1 (B + 541) 0 = 0 ∧ h2.1 (B + 552) 0 = h'.1 (B + 552) 0 := by
        unfold q_X7_fitsWithout
        rw [e7_call hI hc1.2, zbp_some, a_c hk16]
        by_cases h5 : vw h.1 (B + 1) (25 + k) 5 = 0
        · obtain ⟨C, hC⟩ : ∃ C : Nat, vw h.1 (B + 1) 0 1 = (C : Int) := ⟨(vw h.1 (B + 1) 0 1).toNat, by omega⟩
          obtain ⟨y, p1, p2⟩ := e7_fits hI hc1.2 (by omega) a2 hC C 0 zF (Nat.zero_add _) (by unfold zF; omega) (fun c t z1 z2 => by omega)
          rw [if_pos h5]
          refine ⟨y, p1, ?_, fun h' hs => ?_⟩
          · rcases p2 with ⟨z, _⟩ | ⟨z, _⟩
            · exact Or.inr z
            · exact Or.inl z
          · have hm := (hI.mv.same hs).p0 (x := 0)
            obtain ⟨r, h2, y1, y2, y3, y4, y5⟩ := e8_fitsBut hm hc1.2 a2
            have e : y = r := by
              rcases p2 with ⟨z1, c, t, z2, z3, z4⟩ | ⟨z1, z2⟩ <;> rcases y5 with ⟨x1, c', t', x2, x3, x4⟩ | ⟨x1, x2⟩
              · rw [z1, x1]
              · exact absurd z4 (x2 c t z2 z3)
              · exact absurd x4 (z2 c' t' x2 x3)
              · rw [z1, x1]
            subst e
            rw [ref h' hs, if_pos h5, y1, zbd_some]
            refine ⟨h2, ?_, (zSame.rf.put sM0).tr y2, by rw [y3, zput_self], by rw [y4, zO_ne]⟩
            rcases y5 with ⟨x1, _⟩ | ⟨x1, _⟩
            · rw [x1, if_neg one0]
            · rw [x1, if_pos rfl]
        · rw [if_neg h5]
          refine ⟨0, rfl, Or.inl rfl, fun h' hs => ⟨zput h' (B + 541) 0 0, ?_, zSame.rf.put sM0, zput_self, zO_ne⟩⟩
          rw [ref h' hs, if_neg h5]
      obtain ⟨s, g1, g0, g2⟩ := good
      have s1 : zSame B h (zput h (B + 552) 0 s) := zSame.rf.put sO
      obtain ⟨h2, k1, k2, k3, k4⟩ := g2 _ s1
      exact ⟨h2, Or.inl ⟨s, g1, g0, k1, by rw [e8_thr, k3], by rw [k4, zput_self]⟩, hI.same (s1.tr k2)⟩
    · refine ⟨zput h (B + 541) 0 1, Or.inr ⟨(b_call hI).mpr hc1, 0, ?_, by rw [e8_thr, zput_self]⟩, hI.same (zSame.rf.put sM0)⟩
      unfold q_X8_fitsWithout
      rw [e8_isCall hI.mv, if_neg hc1, zbp_some, e8_checks (Or.inl rfl), zbd_some, if_pos rfl, if_pos rfl]
  obtain ⟨h2, g, hI2⟩ := goal
  refine ⟨h2, ?_, hI2⟩
  rcases g with ⟨v, g1, g2, g3, g4, g5⟩ | g
  · have e : (if v = 0 then (0 : Int) else 1) = v := by
      rcases g2 with z | z <;> rw [z] <;> rfl
    refine Or.inl ⟨v, g1, ?_, g4, ?_⟩
    · rw [e]; exact g3
    · rw [e]; exact g5
  · exact Or.inr g
end OPS
