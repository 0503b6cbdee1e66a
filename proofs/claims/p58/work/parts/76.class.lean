/-! What whole's parts 76 77 78 79 80 say of the class alone. -/
def pE (v : Nat → Nat → Int) (s : Nat) : Nat → Nat → Int := vup v (6 + 2 * s) (v 0 0 % 64).toNat (sStep (v (6 + 2 * s)) (v (5 + 2 * s) 2) (v 1 6) (sTripD (v (5 + 2 * s) 1) (v 1 0)) (v 0 0))
def pSt (v : Nat → Nat → Int) (s : Nat) : Nat → Nat → Int := vup (pE v s) (5 + 2 * s) 5 (sNext (pE v s) s (pE v s (5 + 2 * s) 5) (pE v s 0 0))
theorem pE_ne {v : Nat → Nat → Int} {s o j : Nat} (h : o ≠ 6 + 2 * s) : pE v s o j = v o j := vup_ne (fun z => h z.1)
theorem pSt_ne {v : Nat → Nat → Int} {s o j : Nat} (h : o ≠ 6 + 2 * s) (h2 : ¬ (o = 5 + 2 * s ∧ j = 5)) : pSt v s o j = v o j := by
  unfold pSt
  rw [vup_ne h2, pE_ne h]
theorem WF.pE {v : Nat → Nat → Int} (w : WF v) {s : Nat} (hs : (s : Int) < v 0 3) : WF (pE v s) := by
  have h6 := w.nS
  refine w.stn (s := s) (by omega) (fun o j _ h2 => pE_ne h2) (fun _ => ?_)
  obtain ⟨x1, x2, x3, x4, x5, x6⟩ := w.2.2.2.2.2.2.1 s hs
  unfold WFs
  have e : ∀ j, Jvm.Pilot.CSatelliteExchangeLaw_law_r2826_60a5fd.pE v s (5 + 2 * s) j = v (5 + 2 * s) j := fun j => pE_ne (by omega)
  rw [e, e, e, e, e, e, pE_ne (o := 0) (by omega)]
  refine ⟨x1, x2, x3, x4, x5, fun j hj => ?_⟩
  unfold Jvm.Pilot.CSatelliteExchangeLaw_law_r2826_60a5fd.pE
  by_cases ej : j = (v 0 0 % 64).toNat
  · rw [ej, vup_at]
    exact sStep_b
  · rw [vup_ne (fun z => ej z.2)]
    exact x6 j hj
theorem WF.pSt {v : Nat → Nat → Int} (w : WF v) {s : Nat} (hs : (s : Int) < v 0 3) : WF (pSt v s) := by
  have h6 := w.nS
  have w1 := w.pE hs
  have hs1 : (s : Int) < Jvm.Pilot.CSatelliteExchangeLaw_law_r2826_60a5fd.pE v s 0 3 := by rw [pE_ne (by omega)]; exact hs
  refine w1.stn (s := s) (by omega) (fun o j h1 h2 => vup_ne (fun z => h1 z.1)) (fun _ => ?_)
  obtain ⟨x1, x2, x3, x4, x5, x6⟩ := w1.2.2.2.2.2.2.1 s hs1
  unfold WFs Jvm.Pilot.CSatelliteExchangeLaw_law_r2826_60a5fd.pSt
  rw [vup_at, vup_ne (j := 5) (i := 1) (by omega), vup_ne (j := 5) (i := 2) (by omega), vup_ne (j := 5) (i := 3) (by omega), vup_ne (j := 5) (i := 4) (by omega), vup_ne (j := 5) (i := 6) (by omega), vup_ne (j := 5) (i := 0) (by omega)]
  exact ⟨x1, x2, x3, sNext_b w1 hs1 x4 _, x5, fun j hj => by rw [vup_ne (by omega)]; exact x6 j hj⟩
theorem pS_ne {v : Nat → Nat → Int} : ∀ (i o j : Nat), i ≤ 6 → (o < 5 ∨ 17 ≤ o) → zit pSt i v o j = v o j := by
  intro i
  induction i with
  | zero => intro o j _ _; rfl
  | succ i ih =>
    intro o j hi ho
    rw [zit_s, pSt_ne (by omega) (by omega)]
    exact ih o j (by omega) ho
theorem pS_6 {v : Nat → Nat → Int} : ∀ (i s : Nat), i ≤ 6 → zit pSt i v (5 + 2 * s) 6 = v (5 + 2 * s) 6 := by
  intro i
  induction i with
  | zero => intro s _; rfl
  | succ i ih =>
    intro s hi
    rw [zit_s, pSt_ne (by omega) (by omega)]
    exact ih s (by omega)
theorem pS_n {v : Nat → Nat → Int} {i : Nat} (hi : i ≤ 6) : nSt (zit pSt i v) = nSt v ∧ nCl (zit pSt i v) = nCl v := by
  unfold nSt nCl
  rw [pS_ne i 0 3 hi (by omega), pS_ne i 0 7 hi (by omega)]
  exact ⟨rfl, rfl⟩
theorem pS_wf {v : Nat → Nat → Int} (w : WF v) : ∀ i, i ≤ nSt v → WF (zit pSt i v) := by
  have hS := w.nS
  intro i
  induction i with
  | zero => exact fun _ => w
  | succ i ih =>
    intro hi
    rw [zit_s]
    exact (ih (by omega)).pSt (by rw [pS_ne i 0 3 (by omega) (by omega)]; omega)
section CL
variable {h : zH} {A : Nat}
theorem m_pst (hc : CV h A) (hf : 1 ≤ vw h.1 A 0 0) {K : Int → zH → Option (Unit × zH)} : ∀ (r i f : Nat) (g : zH), i + r = nSt (vw h.1 A) → r < f → vw g.1 A = zit pSt i (vw h.1 A) → Frm A h g →
    ∃ g', q_X4_passFrame_L12 A K f (i : Int) g = K (nSt (vw h.1 A) : Int) g' ∧ vw g'.1 A = zit pSt (nSt (vw h.1 A)) (vw h.1 A) ∧ Frm A h g' := by
  have w := hc.2
  have hS := w.nS
  intro r
  induction r with
  | zero =>
    intro i f g q1 q2 hv hF
    obtain ⟨f', rfl⟩ : ∃ f', f = f' + 1 := ⟨f - 1, by omega⟩
    have e : i = nSt (vw h.1 A) := by omega
    have hcg : CV g A := ⟨by rw [hF.1]; exact hc.1, by rw [hv]; exact pS_wf w i (by omega)⟩
    have en : nSt (vw g.1 A) = nSt (vw h.1 A) := by rw [hv]; exact (pS_n (by omega)).1
    refine ⟨g, ?_, by rw [← e]; exact hv, hF⟩
    rw [q_X4_passFrame_L12, a_n3 hcg, en, e, if_pos (Int.le_refl _)]
  | succ r ih =>
    intro i f g q1 q2 hv hF
    obtain ⟨f', rfl⟩ : ∃ f', f = f' + 1 := ⟨f - 1, by omega⟩
    have hcg : CV g A := ⟨by rw [hF.1]; exact hc.1, by rw [hv]; exact pS_wf w i (by omega)⟩
    have en : nSt (vw g.1 A) = nSt (vw h.1 A) := by rw [hv]; exact (pS_n (by omega)).1
    have ef : vw g.1 A 0 0 = vw h.1 A 0 0 := by rw [hv]; exact pS_ne i 0 0 (by omega) (by omega)
    have hi6 : i < 6 := by omega
    have hii : i < 1000000 := by omega
    have hni : ¬ (nSt (vw h.1 A) : Int) ≤ (i : Int) := by omega
    have hs : (i : Int) < vw g.1 A 0 3 := by rw [hcg.2.nS.1, en]; omega
    have hws := hcg.2.2.2.2.2.2.2.1 i hs
    have hset := hcg.2.set
    have hfr := w.1
    have htr := sTripD_b hws.1 hset.1
    have er : g.2 (A + (5 + 2 * i)) 7 = A + (6 + 2 * i) := hcg.1.er hi6
    have kt := e5_keep (h := g) (P := A + (5 + 2 * i)) (t := vw g.1 A 0 0) (trip := sTrip (vw g.1 A) i) (g := vw g.1 A 1 6) (d := vw g.1 A (5 + 2 * i) 2) (e := vw g.1 A (6 + 2 * i)) (by omega) htr hset.2.2.2.2.2.2 (a_s hi6) hws.2.1 (fun j hj => by rw [er]; exact a_e hi6) hws.2.2.2.2.2
    rw [er] at kt
    generalize hg4 : zput g (A + (6 + 2 * i)) (vw g.1 A 0 0 % 64).toNat (sStep (vw g.1 A (6 + 2 * i)) (vw g.1 A (5 + 2 * i) 2) (vw g.1 A 1 6) (sTrip (vw g.1 A) i) (vw g.1 A 0 0)) = g4 at kt
    have ev4 : vw g4.1 A = pE (vw g.1 A) i := by rw [← hg4, vw_put (by omega)]; rfl
    have r4 : g4.2 = g.2 := by rw [← hg4]; rfl
    have f4 : Frm A g g4 := by rw [← hg4]; exact Frm.rf.put (by omega)
    clear hg4
    have hc4 : CV g4 A := ⟨by rw [r4]; exact hcg.1, by rw [ev4]; exact hcg.2.pE hs⟩
    have hs4 : (i : Int) < vw g4.1 A 0 3 := by rw [ev4, pE_ne (by omega)]; exact hs
    have e5 : g4.1 (A + (5 + 2 * i)) 5 = vw g4.1 A (5 + 2 * i) 5 := a_s hi6
    have e0 : g4.1 A 0 = vw g4.1 A 0 0 := a_0 0
    have nx := e4_next hc4 hs4 (hc4.2.2.2.2.2.2.2.1 i hs4).2.2.2.1 (vw g4.1 A 0 0)
    have ev5 : vw (zput g4 (A + (5 + 2 * i)) 5 (sNext (vw g4.1 A) i (vw g4.1 A (5 + 2 * i) 5) (vw g4.1 A 0 0))).1 A = zit pSt (i + 1) (vw h.1 A) := by
      rw [vw_put (by omega), ev4, zit_s, ← hv]
      rfl
    obtain ⟨g', p1, p2, p3⟩ := ih (i + 1) f' _ (by omega) (by omega) ev5 (hF.tr (f4.put (by omega)))
    refine ⟨g', ?_, p2, p3⟩
    rw [q_X4_passFrame_L12, a_n3 hcg, en, if_neg hni]
    simp only [zlet_b]
    rw [zgpos hi6, Int.toNat_natCast, a_stn hcg, e4_trip hcg hs, zbp_some, a_0, a_set hcg, kt, zbd_some, e5, e0, nx, zbp_some, zw_s hii]
    exact p1
end CL
section OPS
variable {B : Nat}
end OPS
def pEn (v : Nat → Nat → Int) (k : Nat) : Nat → Nat → Int := if v (25 + k) 5 = 1 ∧ v (25 + k) 9 + v (25 + k) 4 ≤ v 0 0 then vup v (25 + k) 5 2 else v
theorem pEn_ne {v : Nat → Nat → Int} {k o j : Nat} (h : ¬ (o = 25 + k ∧ j = 5)) : pEn v k o j = v o j := by
  unfold pEn
  split
  · exact vup_ne h
  · rfl
theorem pN_ne {v : Nat → Nat → Int} : ∀ (i o j : Nat), ¬ (25 ≤ o ∧ o < 25 + i ∧ j = 5) → zit pEn i v o j = v o j := by
  intro i
  induction i with
  | zero => intro o j _; rfl
  | succ i ih =>
    intro o j h
    rw [zit_s, pEn_ne (by omega)]
    exact ih o j (by omega)
theorem pN_5 {v : Nat → Nat → Int} {k : Nat} : ∀ (i : Nat), k < i → zit pEn i v (25 + k) 5 = if v (25 + k) 5 = 1 ∧ v (25 + k) 9 + v (25 + k) 4 ≤ v 0 0 then 2 else v (25 + k) 5 := by
  intro i
  induction i with
  | zero => intro h; omega
  | succ i ih =>
    intro h
    rw [zit_s]
    by_cases e : k = i
    · subst e
      have e5 := pN_ne (v := v) k (25 + k) 5 (by omega)
      have e9 := pN_ne (v := v) k (25 + k) 9 (by omega)
      have e4 := pN_ne (v := v) k (25 + k) 4 (by omega)
      have e0 := pN_ne (v := v) k 0 0 (by omega)
      unfold pEn
      unfold pEn at e5 e9 e4 e0
      rw [e5, e9, e4, e0]
      split
      · exact vup_at
      · exact e5
    · rw [pEn_ne (by omega)]
      exact ih (by omega)
theorem pN_n {v : Nat → Nat → Int} {i : Nat} : nCl (zit pEn i v) = nCl v := by
  unfold nCl
  rw [pN_ne i 0 7 (by omega)]
theorem pN_good {v : Nat → Nat → Int} (w : WF v) (hs : zSep v) (ht : zWt v) : ∀ i, WF (zit pEn i v) ∧ zSep (zit pEn i v) ∧ zWt (zit pEn i v) := by
  intro i
  induction i with
  | zero => exact ⟨w, hs, ht⟩
  | succ i ih =>
    obtain ⟨a, b, c⟩ := ih
    rw [zit_s]
    generalize zit pEn i v = u at a b c
    unfold pEn
    split
    · exact ⟨a.fin i, fin_sep b, fin_wt c⟩
    · exact ⟨a, b, c⟩
theorem pN_id {v : Nat → Nat → Int} : ∀ i, (∀ k, k < i → ¬ (v (25 + k) 5 = 1 ∧ v (25 + k) 9 + v (25 + k) 4 ≤ v 0 0)) → zit pEn i v = v := by
  intro i
  induction i with
  | zero => intro _; rfl
  | succ i ih =>
    intro h
    rw [zit_s, ih (fun k hk => h k (by omega))]
    unfold pEn
    rw [if_neg (h i (by omega))]
section CL
variable {h : zH} {A : Nat}
theorem m_end (hc : CV h A) (hs : zSep (vw h.1 A)) (ht : zWt (vw h.1 A)) {K : Int → Int → zH → Option (Unit × zH)} : ∀ (r i f : Nat) (g : zH) (b : Int), i + r = nCl (vw h.1 A) → r < f → vw g.1 A = zit pEn i (vw h.1 A) → Frm A h g → ((b = 0 ∧ ∀ k, k < i → ¬ (vw h.1 A (25 + k) 5 = 1 ∧ vw h.1 A (25 + k) 9 + vw h.1 A (25 + k) 4 ≤ vw h.1 A 0 0)) ∨ b = 1) →
    ∃ g' b', q_X4_endAndServe_L4 A K f b (i : Int) g = K b' (nCl (vw h.1 A) : Int) g' ∧ vw g'.1 A = zit pEn (nCl (vw h.1 A)) (vw h.1 A) ∧ Frm A h g' ∧ ((b' = 0 ∧ ∀ k, k < nCl (vw h.1 A) → ¬ (vw h.1 A (25 + k) 5 = 1 ∧ vw h.1 A (25 + k) 9 + vw h.1 A (25 + k) 4 ≤ vw h.1 A 0 0)) ∨ b' = 1) := by
  have w := hc.2
  have hn := w.nC
  intro r
  induction r with
  | zero =>
    intro i f g b q1 q2 hv hF hb
    obtain ⟨f', rfl⟩ : ∃ f', f = f' + 1 := ⟨f - 1, by omega⟩
    have e : i = nCl (vw h.1 A) := by omega
    have hcg : CV g A := ⟨by rw [hF.1]; exact hc.1, by rw [hv]; exact (pN_good w hs ht i).1⟩
    refine ⟨g, b, ?_, by rw [← e]; exact hv, hF, by rw [← e]; exact hb⟩
    have en : nCl (vw g.1 A) = nCl (vw h.1 A) := by rw [hv]; exact pN_n
    rw [q_X4_endAndServe_L4, a_n7 hcg, en, e, if_pos (Int.le_refl _)]
  | succ r ih =>
    intro i f g b q1 q2 hv hF hb
    obtain ⟨f', rfl⟩ : ∃ f', f = f' + 1 := ⟨f - 1, by omega⟩
    have hcg : CV g A := ⟨by rw [hF.1]; exact hc.1, by rw [hv]; exact (pN_good w hs ht i).1⟩
    have en : nCl (vw g.1 A) = nCl (vw h.1 A) := by rw [hv]; exact pN_n
    have hi16 : i < 16 := by omega
    have hii : i < 1000000 := by omega
    have hni : ¬ (nCl (vw h.1 A) : Int) ≤ (i : Int) := by omega
    have e5 : g.1 (A + (25 + i)) 5 = vw h.1 A (25 + i) 5 := by rw [a_c hi16, hv]; exact pN_ne i _ _ (by omega)
    have e9 : g.1 (A + (25 + i)) 9 = vw h.1 A (25 + i) 9 := by rw [a_c hi16, hv]; exact pN_ne i _ _ (by omega)
    have e4 : g.1 (A + (25 + i)) 4 = vw h.1 A (25 + i) 4 := by rw [a_c hi16, hv]; exact pN_ne i _ _ (by omega)
    have e0 : g.1 A 0 = vw h.1 A 0 0 := by rw [a_0, hv]; exact pN_ne i _ _ (by omega)
    have hwc := w.2.2.2.2.2.2.2.2 i (by omega)
    have hb4 := hwc.2.2.2.2.2.1
    have hb9 := hwc.2.2.2.2.2.2.2.2.1
    have hfr := w.1
    have eP : zit pEn (i + 1) (vw h.1 A) = if vw h.1 A (25 + i) 5 = 1 ∧ vw h.1 A (25 + i) 9 + vw h.1 A (25 + i) 4 ≤ vw h.1 A 0 0 then vup (zit pEn i (vw h.1 A)) (25 + i) 5 2 else zit pEn i (vw h.1 A) := by
      have a5 := pN_ne (v := vw h.1 A) i (25 + i) 5 (by omega)
      have a9 := pN_ne (v := vw h.1 A) i (25 + i) 9 (by omega)
      have a4 := pN_ne (v := vw h.1 A) i (25 + i) 4 (by omega)
      have a0 := pN_ne (v := vw h.1 A) i 0 0 (by omega)
      rw [zit_s, ← a5, ← a9, ← a4, ← a0]
      rfl
    have hP : vw h.1 A (25 + i) 5 = 1 ∧ vw h.1 A (25 + i) 9 + vw h.1 A (25 + i) 4 ≤ vw h.1 A 0 0 ∨ ¬ (vw h.1 A (25 + i) 5 = 1 ∧ vw h.1 A (25 + i) 9 + vw h.1 A (25 + i) 4 ≤ vw h.1 A 0 0) := Classical.em _
    have stay : ¬ (vw h.1 A (25 + i) 5 = 1 ∧ vw h.1 A (25 + i) 9 + vw h.1 A (25 + i) 4 ≤ vw h.1 A 0 0) → ∃ g' b', q_X4_endAndServe_L4 A K f' b ((i + 1 : Nat) : Int) g = K b' (nCl (vw h.1 A) : Int) g' ∧ vw g'.1 A = zit pEn (nCl (vw h.1 A)) (vw h.1 A) ∧ Frm A h g' ∧ ((b' = 0 ∧ ∀ k, k < nCl (vw h.1 A) → ¬ (vw h.1 A (25 + k) 5 = 1 ∧ vw h.1 A (25 + k) 9 + vw h.1 A (25 + k) 4 ≤ vw h.1 A 0 0)) ∨ b' = 1) := fun hN => by
      refine ih (i + 1) f' g b (by omega) (by omega) (by rw [eP, if_neg hN]; exact hv) hF ?_
      rcases hb with ⟨b1, b2⟩ | b1
      · refine Or.inl ⟨b1, fun k hk => ?_⟩
        by_cases e : k = i
        · rw [e]; exact hN
        · exact b2 k (by omega)
      · exact Or.inr b1
    rw [q_X4_endAndServe_L4, a_n7 hcg, en, if_neg hni]
    simp only [zlet_b]
    unfold q_X0_endFrame
    rw [zgpos hi16, zgpos hi16, zgpos hi16, Int.toNat_natCast, a_call hcg, e5, e9, e4, e0, zbp_some, zw_s hii]
    by_cases h5 : vw h.1 A (25 + i) 5 = 1
    · have wz : zw (vw h.1 A (25 + i) 9 + vw h.1 A (25 + i) 4) = vw h.1 A (25 + i) 9 + vw h.1 A (25 + i) 4 := zw_id ⟨by omega, by omega⟩
      rw [if_pos h5, wz]
      clear wz
      by_cases hE : vw h.1 A 0 0 < vw h.1 A (25 + i) 9 + vw h.1 A (25 + i) 4
      · rw [if_pos hE]
        exact stay (fun z => by have := z.2; omega)
      · rw [if_neg hE]
        refine ih (i + 1) f' _ 1 (by omega) (by omega) ?_ (hF.put (by omega)) (Or.inr rfl)
        rw [vw_put (by omega), eP, if_pos ⟨h5, by omega⟩, hv]
    · rw [if_neg h5]
      exact stay (fun z => h5 z.1)
theorem e4_endAndServe (hc : CV h A) (hG : GI (vw h.1 A)) {c : Nat} {a : Nat → Nat} (hq : Que (zit pEn (nCl (vw h.1 A)) (vw h.1 A)) c a) : ∃ h' n, q_X4_endAndServe h A = some ((), h') ∧ Run a c (zit pEn (nCl (vw h.1 A)) (vw h.1 A)) (vw h'.1 A) n ∧ Frm A h h' := by
  have w := hc.2
  unfold q_X4_endAndServe
  obtain ⟨g, b, p1, p2, p3, p4⟩ := m_end hc hG.1 hG.2.2 (K := fun x6 _ h8 => if x6 = 0 then (some ((), h8)) else (zbp (q_X4_callsIn h8 A 0) (fun x9 => zbd (q_X4_placeInOrder h8 A x9) (fun x10 h11 => some ((), h11))))) (nCl (vw h.1 A)) 0 zF h 0 (Nat.zero_add _) (by have := w.nC; unfold zF; omega) rfl Frm.rf (Or.inl ⟨rfl, fun k hk => by omega⟩)
  have p1' := p1
  rw [show ((0 : Nat) : Int) = 0 from rfl] at p1'
  rw [p1']
  rcases p4 with ⟨b1, b2⟩ | b1
  · rw [if_pos b1]
    have e := pN_id (v := vw h.1 A) (nCl (vw h.1 A)) b2
    rw [e] at hq p2 ⊢
    exact ⟨g, 0, rfl, by rw [p2]; exact hq.idle w hG.2.1 c (Nat.le_refl _), p3⟩
  · rw [if_neg (by omega)]
    have hcg : CV g A := ⟨by rw [p3.1]; exact hc.1, by rw [p2]; exact (pN_good w hG.1 hG.2.2 _).1⟩
    obtain ⟨m, h', n, o1, o2, o3, o4⟩ := e4_serve hcg (by rw [p2]; exact hq)
    rw [o1, zbp_some, o2, zbd_some]
    exact ⟨h', n, rfl, by rw [← p2]; exact o3, p3.tr o4⟩
end CL
section OPS
variable {B : Nat}
/-- the calls that go on -/
def wre (v : Nat → Nat → Int) : Nat → Bool := fun k => decide (v (25 + k) 5 = 1 ∧ v 0 0 < v (25 + k) 9 + v (25 + k) 4)
end OPS
theorem sFade_congr {v u : Nat → Nat → Int} (w : WF v) (h5 : u 0 5 = v 0 5) (hr : ∀ r, r < 8 → ∀ j, u (17 + r) j = v (17 + r) j) (s f : Int) : sFade u s f = sFade v s f := by
  have hR := w.nR
  have en : nRn u = nRn v := by unfold nRn; rw [h5]
  unfold sFade
  rw [en]
  refine zit_congr _ (fun i hi x => ?_)
  rw [hr i (by omega), hr i (by omega), hr i (by omega), hr i (by omega)]
def pDg (D : Nat) (v : Nat → Nat → Int) (k : Nat) : Nat → Nat → Int := if D.testBit k = true then vup v (25 + k) 10 (v (25 + k) 10 + 1) else v
theorem pDg_ne {D : Nat} {v : Nat → Nat → Int} {k o j : Nat} (h : ¬ (o = 25 + k ∧ j = 10)) : pDg D v k o j = v o j := by
  unfold pDg
  split
  · exact vup_ne h
  · rfl
theorem pD_ne {D : Nat} {v : Nat → Nat → Int} : ∀ (i o j : Nat), ¬ (25 ≤ o ∧ o < 25 + i ∧ j = 10) → zit (pDg D) i v o j = v o j := by
  intro i
  induction i with
  | zero => intro o j _; rfl
  | succ i ih =>
    intro o j h
    rw [zit_s, pDg_ne (by omega)]
    exact ih o j (by omega)
theorem pD_n {D : Nat} {v : Nat → Nat → Int} {i : Nat} : nCl (zit (pDg D) i v) = nCl v ∧ nSt (zit (pDg D) i v) = nSt v := by
  unfold nCl nSt
  rw [pD_ne i 0 7 (by omega), pD_ne i 0 3 (by omega)]
  exact ⟨rfl, rfl⟩
theorem pD_s {D : Nat} {v : Nat → Nat → Int} {i : Nat} : zit (pDg D) (i + 1) v = if D.testBit i = true then vup (zit (pDg D) i v) (25 + i) 10 (v (25 + i) 10 + 1) else zit (pDg D) i v := by
  rw [zit_s, ← pD_ne (D := D) (v := v) i (25 + i) 10 (by omega)]
  rfl
theorem WF.deg {v : Nat → Nat → Int} (w : WF v) {k : Nat} {x : Int} (hx : 0 ≤ x ∧ x ≤ v 0 0) : WF (vup v (25 + k) 10 x) := by
  refine w.call (k := k) (fun o j h => vup_ne (by omega)) (fun hk => ?_)
  have hw := w.2.2.2.2.2.2.2.2 k hk
  have q : ∀ o j, ¬ (o = 25 + k ∧ j = 10) → vup v (25 + k) 10 x o j = v o j := fun o j h => vup_ne h
  obtain ⟨h0, h1, h2, h3, h4, h5, h6, h7, h8, h9, h10, h11⟩ := hw
  unfold WFc
  rw [vup_at, q 0 0 (by omega), q 0 1 (by omega), q 0 3 (by omega), q _ 0 (by omega), q _ 1 (by omega), q _ 2 (by omega), q _ 3 (by omega), q _ 4 (by omega), q _ 5 (by omega), q _ 6 (by omega), q _ 7 (by omega), q _ 8 (by omega), q _ 9 (by omega), q 1 0 (by omega), q 1 1 (by omega), q 1 2 (by omega)]
  exact ⟨h0, h1, h2, h3, h4, h5, h6, h7, h8, hx, h10, h11⟩
/-- nobody counted in this frame -/
def Dlt (v : Nat → Nat → Int) : Prop := (∀ k : Nat, (k : Int) < v 0 7 → v (25 + k) 10 + 1 ≤ v 0 0) ∧ ∀ s : Nat, (s : Int) < v 0 3 → v (5 + 2 * s) 6 + 1 ≤ v 0 0
theorem pD_wf {D : Nat} {v : Nat → Nat → Int} (w : WF v) (hd : Dlt v) : ∀ i, i ≤ nCl v → WF (zit (pDg D) i v) := by
  have hn := w.nC
  intro i
  induction i with
  | zero => exact fun _ => w
  | succ i ih =>
    intro hi
    have wi := ih (by omega)
    have h10 := (w.2.2.2.2.2.2.2.2 i (by omega)).2.2.2.2.2.2.2.2.2.1
    have hdi := hd.1 i (by omega)
    rw [pD_s]
    split
    · refine wi.deg ⟨by omega, ?_⟩
      rw [pD_ne i 0 0 (by omega)]
      exact hdi
    · exact wi
/-- the senders of a set -/
def sSnd' (v : Nat → Nat → Int) (m n : Nat) : Nat := zit (fun (a : Nat) k => if m.testBit k = true then a ||| 2 ^ (v (25 + k) 0).toNat else a) n 0
theorem sSnd'_s {v : Nat → Nat → Int} {m n : Nat} : sSnd' v m (n + 1) = if m.testBit n = true then sSnd' v m n ||| 2 ^ (v (25 + n) 0).toNat else sSnd' v m n := rfl
theorem sSnd'_b {v : Nat → Nat → Int} (w : WF v) {m : Nat} : ∀ n, n ≤ nCl v → sSnd' v m n < 65536 := by
  have hn := w.nC
  have hS := w.nS
  intro n
  induction n with
  | zero => exact fun _ => Nat.zero_lt_succ _
  | succ n ih =>
    intro h
    have hi := ih (by omega)
    have h0 := (w.2.2.2.2.2.2.2.2 n (by omega)).1
    rw [sSnd'_s]
    split
    · refine Nat.or_lt_two_pow (n := 16) hi (Nat.pow_lt_pow_right (by decide) (by omega))
    · exact hi
def pFl (q : Nat) (v : Nat → Nat → Int) (s : Nat) : Nat → Nat → Int := if q.testBit s = true ∧ v 1 1 < 2 * zabs (v (6 + 2 * s) (v 0 0 % 64).toNat) then vup v (5 + 2 * s) 6 (v (5 + 2 * s) 6 + 1) else v
theorem pFl_ne {q : Nat} {v : Nat → Nat → Int} {s o j : Nat} (h : ¬ (o = 5 + 2 * s ∧ j = 6)) : pFl q v s o j = v o j := by
  unfold pFl
  split
  · exact vup_ne h
  · rfl
theorem pFs_ne {q : Nat} {v : Nat → Nat → Int} : ∀ (i o j : Nat), ¬ (5 ≤ o ∧ o < 5 + 2 * i ∧ j = 6) → zit (pFl q) i v o j = v o j := by
  intro i
  induction i with
  | zero => intro o j _; rfl
  | succ i ih =>
    intro o j h
    rw [zit_s, pFl_ne (by omega)]
    exact ih o j (by omega)
theorem WF.flt {v : Nat → Nat → Int} (w : WF v) {s : Nat} (hs6 : s < 6) {x : Int} (hx : 0 ≤ x ∧ x ≤ v 0 0) : WF (vup v (5 + 2 * s) 6 x) := by
  refine w.stn hs6 (fun o j h _ => vup_ne (fun z => h z.1)) (fun hs => ?_)
  obtain ⟨x1, x2, x3, x4, x5, x6⟩ := w.2.2.2.2.2.2.1 s hs
  unfold WFs
  rw [vup_at, vup_ne (j := 6) (i := 1) (by omega), vup_ne (j := 6) (i := 2) (by omega), vup_ne (j := 6) (i := 3) (by omega), vup_ne (j := 6) (i := 4) (by omega), vup_ne (j := 6) (i := 5) (by omega), vup_ne (j := 6) (i := 0) (by omega)]
  exact ⟨x1, x2, x3, x4, hx, fun j hj => by rw [vup_ne (by omega)]; exact x6 j hj⟩
theorem pFs_wf {q : Nat} {v : Nat → Nat → Int} (w : WF v) (hd : ∀ s : Nat, (s : Int) < v 0 3 → v (5 + 2 * s) 6 + 1 ≤ v 0 0) : ∀ i, i ≤ nSt v → WF (zit (pFl q) i v) := by
  have hS := w.nS
  intro i
  induction i with
  | zero => exact fun _ => w
  | succ i ih =>
    intro hi
    have wi := ih (by omega)
    have h6 := (w.2.2.2.2.2.2.1 i (by omega)).2.2.2.2.1
    have hdi := hd i (by omega)
    have e6 : zit (pFl q) i v (5 + 2 * i) 6 = v (5 + 2 * i) 6 := pFs_ne i _ _ (by omega)
    have e0 : zit (pFl q) i v 0 0 = v 0 0 := pFs_ne i _ _ (by omega)
    rw [zit_s]
    generalize zit (pFl q) i v = u at wi e6 e0
    unfold pFl
    split
    · exact wi.flt (by omega) ⟨by omega, by omega⟩
    · exact wi
/-- the troubles of a frame: m the calls that go on -/
def pT (v : Nat → Nat → Int) (m : Nat) : Nat → Nat → Int := zit (pFl (sSnd' v m (nCl v))) (nSt v) (zit (pDg (sDeg v (fun k => m.testBit k))) (nCl v) v)
theorem z_bit1 {m k : Nat} (hm : m < 65536) (hk : k < 16) : zand (zshr (m : Int) (k : Int)) 1 = 1 ↔ m.testBit k = true := by
  have e : zand (zshr (m : Int) (k : Int)) 1 = ((m >>> k &&& 1 : Nat) : Int) := by
    rw [zshr_nat (by omega) (by omega)]
    exact zand_nat (n := 1) (Nat.lt_of_le_of_lt (Nat.shiftRight_le _ _) (by omega)) (by decide)
  have hb : m >>> k &&& 1 = 0 ∨ m >>> k &&& 1 = 1 := by rw [Nat.and_one_is_mod]; omega
  have z := z_bit hm hk
  rw [e] at z ⊢
  rcases hb with hb | hb
  · rw [hb] at z ⊢
    exact ⟨fun y => absurd y (by decide), fun y => absurd y (z.mp rfl)⟩
  · rw [hb] at z ⊢
    refine ⟨fun _ => ?_, fun _ => rfl⟩
    refine Classical.byContradiction fun y => ?_
    exact absurd (z.mpr y) (by decide)
section CL
variable {h : zH} {A : Nat}
theorem m_ct11 (hc : CV h A) (hd : Dlt (vw h.1 A)) {m D : Nat} (hm : m < 65536) (hD : D < 65536) {K : Int → Int → zH → Option (Unit × zH)} : ∀ (r i f : Nat) (g : zH), i + r = nCl (vw h.1 A) → r < f → vw g.1 A = zit (pDg D) i (vw h.1 A) → Frm A h g →
    ∃ g', q_X4_countTroubles_L11 A (m : Int) (D : Int) K f ((sSnd' (vw h.1 A) m i : Nat) : Int) (i : Int) g = K ((sSnd' (vw h.1 A) m (nCl (vw h.1 A)) : Nat) : Int) (nCl (vw h.1 A) : Int) g' ∧ vw g'.1 A = zit (pDg D) (nCl (vw h.1 A)) (vw h.1 A) ∧ Frm A h g' := by
  have w := hc.2
  have hn := w.nC
  have hS := w.nS
  intro r
  induction r with
  | zero =>
    intro i f g q1 q2 hv hF
    obtain ⟨f', rfl⟩ : ∃ f', f = f' + 1 := ⟨f - 1, by omega⟩
    have e : i = nCl (vw h.1 A) := by omega
    have hcg : CV g A := ⟨by rw [hF.1]; exact hc.1, by rw [hv]; exact pD_wf w hd i (by omega)⟩
    have en : nCl (vw g.1 A) = nCl (vw h.1 A) := by rw [hv]; exact pD_n.1
    refine ⟨g, ?_, by rw [← e]; exact hv, hF⟩
    rw [q_X4_countTroubles_L11, a_n7 hcg, en, e, if_pos (Int.le_refl _)]
  | succ r ih =>
    intro i f g q1 q2 hv hF
    obtain ⟨f', rfl⟩ : ∃ f', f = f' + 1 := ⟨f - 1, by omega⟩
    have hcg : CV g A := ⟨by rw [hF.1]; exact hc.1, by rw [hv]; exact pD_wf w hd i (by omega)⟩
    have en : nCl (vw g.1 A) = nCl (vw h.1 A) := by rw [hv]; exact pD_n.1
    have hi16 : i < 16 := by omega
    have hii : i < 1000000 := by omega
    have hni : ¬ (nCl (vw h.1 A) : Int) ≤ (i : Int) := by omega
    have e0 : g.1 (A + (25 + i)) 0 = vw h.1 A (25 + i) 0 := by rw [a_c hi16, hv]; exact pD_ne i _ _ (by omega)
    have e10 : g.1 (A + (25 + i)) 10 = vw h.1 A (25 + i) 10 := by rw [a_c hi16, hv]; exact pD_ne i _ _ (by omega)
    have hw := w.2.2.2.2.2.2.2.2 i (by omega)
    have hw0 := hw.1
    have hw10 := hw.2.2.2.2.2.2.2.2.2.1
    have hfr := w.1
    obtain ⟨s, hs⟩ : ∃ s : Nat, vw h.1 A (25 + i) 0 = (s : Int) := ⟨(vw h.1 A (25 + i) 0).toNat, by omega⟩
    have hs16 : s < 16 := by omega
    have hsb := sSnd'_b w (m := m) i (by omega)
    have hss := sSnd'_s (v := vw h.1 A) (m := m) (n := i)
    rw [hs, Int.toNat_natCast] at hss
    have wz : zw (vw h.1 A (25 + i) 10 + 1) = vw h.1 A (25 + i) 10 + 1 := zw_id ⟨by omega, by omega⟩
    rw [q_X4_countTroubles_L11, a_n7 hcg, en, if_neg hni, e_isIn hm hi16, zbp_some]
    simp only [zlet_b]
    rw [e_isIn hD hi16]
    simp only [zbp_some, zgpos hi16]
    rw [Int.toNat_natCast, a_call hcg, e0, e10, wz, hs, zor_set hsb hs16, zw_s hii]
    clear wz
    have nx : ∀ (x : Nat) (g2 : zH), x = sSnd' (vw h.1 A) m (i + 1) → vw g2.1 A = zit (pDg D) (i + 1) (vw h.1 A) → Frm A h g2 → ∃ g', q_X4_countTroubles_L11 A (m : Int) (D : Int) K f' (x : Int) ((i + 1 : Nat) : Int) g2 = K ((sSnd' (vw h.1 A) m (nCl (vw h.1 A)) : Nat) : Int) (nCl (vw h.1 A) : Int) g' ∧ vw g'.1 A = zit (pDg D) (nCl (vw h.1 A)) (vw h.1 A) ∧ Frm A h g' := fun x g2 hx hv2 hF2 => by
      rw [hx]
      exact ih (i + 1) f' g2 (by omega) (by omega) hv2 hF2
    have v0 : ¬ D.testBit i = true → vw g.1 A = zit (pDg D) (i + 1) (vw h.1 A) := fun z => by rw [pD_s, if_neg z]; exact hv
    have v1 : D.testBit i = true → vw (zput g (A + (25 + i)) 10 (vw h.1 A (25 + i) 10 + 1)).1 A = zit (pDg D) (i + 1) (vw h.1 A) := fun z => by rw [pD_s, if_pos z, vw_put (by omega), hv]
    by_cases hmi : m.testBit i = true
    · rw [if_pos hmi] at hss
      rw [if_pos hmi, if_neg one0]
      by_cases hDi : D.testBit i = true
      · rw [if_pos hDi, if_neg one0]
        exact nx _ _ hss.symm (v1 hDi) (hF.put (by omega))
      · rw [if_neg hDi, if_pos rfl]
        exact nx _ _ hss.symm (v0 hDi) hF
    · rw [if_neg hmi] at hss
      rw [if_neg hmi, if_pos rfl]
      by_cases hDi : D.testBit i = true
      · rw [if_pos hDi, if_neg one0]
        exact nx _ _ hss.symm (v1 hDi) (hF.put (by omega))
      · rw [if_neg hDi, if_pos rfl]
        exact nx _ _ hss.symm (v0 hDi) hF
theorem m_ct78 (hc : CV h A) (hd : ∀ s : Nat, (s : Int) < vw h.1 A 0 3 → vw h.1 A (5 + 2 * s) 6 + 1 ≤ vw h.1 A 0 0) {q : Nat} (hq : q < 65536) {K : Int → zH → Option (Unit × zH)} : ∀ (r i f : Nat) (g : zH), i + r = nSt (vw h.1 A) → r < f → vw g.1 A = zit (pFl q) i (vw h.1 A) → Frm A h g →
    ∃ g', q_X4_countTroubles_L78 A (q : Int) K f (i : Int) g = K (nSt (vw h.1 A) : Int) g' ∧ vw g'.1 A = zit (pFl q) (nSt (vw h.1 A)) (vw h.1 A) ∧ Frm A h g' := by
  have w := hc.2
  have hS := w.nS
  intro r
  induction r with
  | zero =>
    intro i f g q1 q2 hv hF
    obtain ⟨f', rfl⟩ : ∃ f', f = f' + 1 := ⟨f - 1, by omega⟩
    have e : i = nSt (vw h.1 A) := by omega
    have hcg : CV g A := ⟨by rw [hF.1]; exact hc.1, by rw [hv]; exact pFs_wf w hd i (by omega)⟩
    have en : nSt (vw g.1 A) = nSt (vw h.1 A) := by rw [hv]; unfold nSt; rw [pFs_ne i 0 3 (by omega)]
    refine ⟨g, ?_, by rw [← e]; exact hv, hF⟩
    rw [q_X4_countTroubles_L78, a_n3 hcg, en, e, if_pos (Int.le_refl _)]
  | succ r ih =>
    intro i f g q1 q2 hv hF
    obtain ⟨f', rfl⟩ : ∃ f', f = f' + 1 := ⟨f - 1, by omega⟩
    have hcg : CV g A := ⟨by rw [hF.1]; exact hc.1, by rw [hv]; exact pFs_wf w hd i (by omega)⟩
    have en : nSt (vw g.1 A) = nSt (vw h.1 A) := by rw [hv]; unfold nSt; rw [pFs_ne i 0 3 (by omega)]
    have hi6 : i < 6 := by omega
    have hi16 : i < 16 := by omega
    have hii : i < 1000000 := by omega
    have hni : ¬ (nSt (vw h.1 A) : Int) ≤ (i : Int) := by omega
    have hn1 : zit (pFl q) (i + 1) (vw h.1 A) = pFl q (vw g.1 A) i := by rw [zit_s, hv]
    have hs : (i : Int) < vw g.1 A 0 3 := by rw [hcg.2.nS.1, en]; omega
    have hws := hcg.2.2.2.2.2.2.2.1 i hs
    have hfr := hcg.2.1
    have heb := hws.2.2.2.2.2 (vw g.1 A 0 0 % 64).toNat (by omega)
    have h6 := hws.2.2.2.2.1
    have wz : zw (vw g.1 A (5 + 2 * i) 6 + 1) = vw g.1 A (5 + 2 * i) 6 + 1 := zw_id ⟨by omega, by omega⟩
    rw [q_X4_countTroubles_L78, a_n3 hcg, en, if_neg hni, e_isIn hq hi16, zbp_some]
    simp only [zlet_b]
    unfold q_X5_isOutOfTime
    simp only [zgpos hi6]
    rw [Int.toNat_natCast, a_stn hcg, a_0, a_set hcg, e5_err hcg hi6 hfr.1 (by omega), zbp_some, abs2 heb, a_s hi6, wz, zw_s hii]
    clear wz
    by_cases hb : q.testBit i = true
    · rw [if_pos hb, if_neg one0]
      by_cases hl : 2 * zabs (vw g.1 A (6 + 2 * i) (vw g.1 A 0 0 % 64).toNat) ≤ vw g.1 A 1 1
      · rw [if_pos hl, zbp_some, if_pos rfl]
        refine ih (i + 1) f' g (by omega) (by omega) ?_ hF
        rw [hn1]
        unfold pFl
        rw [if_neg (fun z => by have := z.2; omega)]
      · rw [if_neg hl, zbp_some, if_neg one0]
        refine ih (i + 1) f' _ (by omega) (by omega) ?_ (hF.put (by omega))
        rw [hn1, vw_put (by omega)]
        unfold pFl
        rw [if_pos ⟨hb, by omega⟩]
    · rw [if_neg hb, if_pos rfl]
      refine ih (i + 1) f' g (by omega) (by omega) ?_ hF
      rw [hn1]
      unfold pFl
      rw [if_neg (fun z => hb z.1)]
theorem pD_dlt {D : Nat} {v : Nat → Nat → Int} (hd : Dlt v) {i : Nat} : ∀ s : Nat, (s : Int) < zit (pDg D) i v 0 3 → zit (pDg D) i v (5 + 2 * s) 6 + 1 ≤ zit (pDg D) i v 0 0 := by
  intro s hs
  rw [pD_ne i 0 3 (by omega)] at hs
  rw [pD_ne i _ 6 (by omega), pD_ne i 0 0 (by omega)]
  exact hd.2 s hs
end CL
theorem sMarg_pD {D : Nat} {v : Nat → Nat → Int} (w : WF v) {i k : Nat} {p f : Int} : sMarg (zit (pDg D) i v) k p f = sMarg v k p f := by
  unfold sMarg
  have e := sFade_congr (u := zit (pDg D) i v) w (pD_ne i 0 5 (by omega)) (fun r hr j => pD_ne i _ j (by omega))
  rw [e, e, pD_ne i _ 0 (by omega), pD_ne i _ 1 (by omega), pD_ne i 1 4 (by omega)]
section CL
variable {h : zH} {A : Nat}
theorem e4_trouble (hc : CV h A) (hd : Dlt (vw h.1 A)) {m : Nat} (hm : m < 65536) : ∃ h', q_X4_countTroubles h A (m : Int) = some ((), h') ∧ vw h'.1 A = pT (vw h.1 A) m ∧ Frm A h h' := by
  have w := hc.2
  have hn := w.nC
  have hS := w.nS
  unfold q_X4_countTroubles
  rw [e4_degAmong hc hm, zbp_some]
  have hD : sDeg (vw h.1 A) (fun k => m.testBit k) < 65536 := nset_16 hn.2
  obtain ⟨g, p1, p2, p3⟩ := m_ct11 hc hd hm hD (K := fun x12 _ h14 => q_X4_countTroubles_L78 A x12 (fun _ h22 => some ((), h22)) zF 0 h14) (nCl (vw h.1 A)) 0 zF h (Nat.zero_add _) (by unfold zF; omega) rfl Frm.rf
  have p1' := p1
  rw [show ((0 : Nat) : Int) = 0 from rfl, show ((sSnd' (vw h.1 A) m 0 : Nat) : Int) = 0 from rfl] at p1'
  rw [p1']
  have wg : WF (vw g.1 A) := by rw [p2]; exact pD_wf w hd _ (Nat.le_refl _)
  have hcg : CV g A := ⟨by rw [p3.1]; exact hc.1, wg⟩
  have en : nSt (vw g.1 A) = nSt (vw h.1 A) := by rw [p2]; exact pD_n.2
  obtain ⟨g', o1, o2, o3⟩ := m_ct78 hcg (by rw [p2]; exact pD_dlt hd) (q := sSnd' (vw h.1 A) m (nCl (vw h.1 A))) (sSnd'_b w _ (Nat.le_refl _)) (K := fun _ h22 => some ((), h22)) (nSt (vw g.1 A)) 0 zF g (Nat.zero_add _) (by unfold zF; omega) rfl Frm.rf
  have o1' := o1
  rw [show ((0 : Nat) : Int) = 0 from rfl] at o1'
  refine ⟨g', o1', ?_, p3.tr o3⟩
  rw [o2, en, p2]
  rfl
end CL
section OPS
variable {B : Nat}
end OPS
def pF (v : Nat → Nat → Int) : Nat → Nat → Int := vup v 0 0 (v 0 0 + 1)
def pS (v : Nat → Nat → Int) : Nat → Nat → Int := zit pSt (nSt v) v
def pN (v : Nat → Nat → Int) : Nat → Nat → Int := zit pEn (nCl v) v
/-- from one frame to the next -/
def Pss (v u : Nat → Nat → Int) : Prop := ∃ c a z n, Que (pN (pS (pF v))) c a ∧ Run a c (pN (pS (pF v))) z n ∧ u = pT z (nset (wre (pS (pF v))) (nCl v))
theorem pF_ne {v : Nat → Nat → Int} {o j : Nat} (h : ¬ (o = 0 ∧ j = 0)) : pF v o j = v o j := vup_ne h
theorem pF_0 {v : Nat → Nat → Int} : pF v 0 0 = v 0 0 + 1 := vup_at
theorem WF.frm {v : Nat → Nat → Int} (w : WF v) (hf : v 0 0 < 9999) : WF (pF v) := by
  have q : ∀ o j, ¬ (o = 0 ∧ j = 0) → Jvm.Pilot.CSatelliteExchangeLaw_law_r2826_60a5fd.pF v o j = v o j := fun o j h => pF_ne h
  have er : ∀ o, o ≠ 0 → Jvm.Pilot.CSatelliteExchangeLaw_law_r2826_60a5fd.pF v o = v o := fun o ho => funext fun j => q o j (fun z => ho z.1)
  obtain ⟨a1, a2, a3, a4, a5, a6, a7, a8, a9⟩ := w
  refine ⟨by rw [pF_0]; omega, by rw [q 0 1 (by omega)]; exact a2, by rw [q 0 3 (by omega)]; exact a3, by rw [q 0 5 (by omega)]; exact a4, by rw [q 0 7 (by omega)]; exact a5, by rw [er 1 (by omega)]; exact a6, fun s hs => ?_, fun r hr => ?_, fun k hk => ?_⟩
  · rw [q 0 3 (by omega)] at hs
    obtain ⟨x1, x2, x3, x4, x5, x6⟩ := a7 s hs
    unfold WFs
    rw [pF_0, er (5 + 2 * s) (by omega), er (6 + 2 * s) (by omega)]
    exact ⟨x1, x2, x3, x4, ⟨x5.1, by omega⟩, x6⟩
  · rw [q 0 5 (by omega)] at hr
    unfold WFr
    rw [q 0 3 (by omega), er (17 + r) (by omega)]
    exact a8 r hr
  · rw [q 0 7 (by omega)] at hk
    obtain ⟨h0, h1, h2, h3, h4, h5, h6, h7, h8, h9, h10, h11⟩ := a9 k hk
    unfold WFc
    rw [pF_0, q 0 1 (by omega), q 0 3 (by omega), er (25 + k) (by omega), er 1 (by omega)]
    exact ⟨h0, h1, h2, h3, h4, h5, h6, ⟨h7.1, by omega⟩, ⟨h8.1, by omega⟩, ⟨h9.1, by omega⟩, h10, h11⟩
theorem GI.frm {v : Nat → Nat → Int} (g : GI v) : GI (pF v) := by
  have q : ∀ o j, ¬ (o = 0 ∧ j = 0) → Jvm.Pilot.CSatelliteExchangeLaw_law_r2826_60a5fd.pF v o j = v o j := fun o j h => pF_ne h
  have er : ∀ o, o ≠ 0 → Jvm.Pilot.CSatelliteExchangeLaw_law_r2826_60a5fd.pF v o = v o := fun o ho => funext fun j => q o j (fun z => ho z.1)
  have e7 := q 0 7 (by omega)
  refine ⟨fun k l hk hl hkl k5 l5 hc => ?_, fun k hk k5 c t h0 h1 hF => ?_, fun k hk k5 => ?_⟩
  · rw [e7] at hk hl
    unfold cfl at hc
    rw [er (25 + k) (by omega)] at k5 hc ⊢
    rw [er (25 + l) (by omega)] at l5 hc ⊢
    rw [er 1 (by omega)]
    exact g.1 k l hk hl hkl k5 l5 hc
  · rw [e7] at hk
    rw [er (25 + k) (by omega)] at k5
    refine g.2.1 k hk k5 c t h0 (by rw [← q 0 1 (by omega)]; exact h1) ?_
    obtain ⟨f1, f2, f3⟩ := Fit.iff.mp hF
    rw [er 1 (by omega)] at f1 f2
    rw [er (25 + k) (by omega)] at f2
    refine Fit.iff.mpr ⟨f1, f2, fun l hl hW hw => f3 l (by rw [e7]; exact hl) hW ?_⟩
    unfold isWay
    rw [er 1 (by omega), er (25 + k) (by omega), er (25 + l) (by omega)]
    exact hw
  · rw [e7] at hk
    rw [er (25 + k) (by omega)] at k5 ⊢
    exact g.2.2 k hk k5
section PU
variable {v : Nat → Nat → Int}
theorem pF_n : nSt (pF v) = nSt v ∧ nCl (pF v) = nCl v := by
  unfold nSt nCl
  rw [pF_ne (by omega), pF_ne (by omega)]
  exact ⟨rfl, rfl⟩
theorem pS_all (w : WF v) (g : GI v) (hf : v 0 0 < 9999) : WF (pS (pF v)) ∧ GI (pS (pF v)) ∧ nCl (pS (pF v)) = nCl v ∧ nSt (pS (pF v)) = nSt v ∧ pS (pF v) 0 0 = v 0 0 + 1 := by
  have wf := w.frm hf
  have h6 := wf.nS.2
  have q : ∀ o j, (o < 5 ∨ 17 ≤ o) → pS (pF v) o j = pF v o j := fun o j h => pS_ne _ o j h6 h
  refine ⟨pS_wf wf _ (Nat.le_refl _), ?_, ?_, ?_, ?_⟩
  · refine Ceq.gi (v := pF v) ⟨⟨(q _ _ (by omega)).symm, (q _ _ (by omega)).symm, (q _ _ (by omega)).symm⟩, fun j hj => (q _ _ (by omega)).symm, fun k hk => ⟨fun j hj => (q _ _ (by omega)).symm, (q _ _ (by omega)).symm, fun _ => ⟨(q _ _ (by omega)).symm, (q _ _ (by omega)).symm⟩⟩⟩ g.frm
  · unfold pS
    rw [(pS_n h6).2, pF_n.2]
  · unfold pS
    rw [(pS_n h6).1, pF_n.1]
  · rw [q 0 0 (by omega), pF_0]
theorem pN_all (w : WF v) (g : GI v) : WF (pN v) ∧ zSep (pN v) ∧ zWt (pN v) ∧ nCl (pN v) = nCl v := ⟨(pN_good w g.1 g.2.2 _).1, (pN_good w g.1 g.2.2 _).2.1, (pN_good w g.1 g.2.2 _).2.2, pN_n⟩
theorem pT_ceq {z : Nat → Nat → Int} {m : Nat} (w : WF z) : ∀ o j, ¬ (25 ≤ o ∧ j = 10) → ¬ (5 ≤ o ∧ o < 17 ∧ j = 6) → pT z m o j = z o j := by
  intro o j h1 h2
  have hS := w.nS
  unfold pT
  rw [pFs_ne _ _ _ (by omega), pD_ne _ _ _ (by omega)]
theorem pT_wf {z : Nat → Nat → Int} {m : Nat} (w : WF z) (hd : Dlt z) : WF (pT z m) := by
  unfold pT
  have e : nSt z = nSt (zit (pDg (sDeg z (fun k => m.testBit k))) (nCl z) z) := pD_n.2.symm
  rw [e]
  exact pFs_wf (pD_wf w hd _ (Nat.le_refl _)) (pD_dlt hd) _ (Nat.le_refl _)
theorem pss_dlt {c : Nat} {a : Nat → Nat} {z : Nat → Nat → Int} {n : Int} (w : WF v) (hf : v 0 0 < 9999) (hR : Run a c (pN (pS (pF v))) z n) : Dlt z := by
  have h6 := (w.frm hf).nS.2
  have st := hR.sta
  have z0 : z 0 0 = v 0 0 + 1 := by
    rw [st 0 0 (by omega)]
    unfold pN
    rw [pN_ne _ _ _ (by omega)]
    unfold pS
    rw [pS_ne _ _ _ h6 (by omega), pF_0]
  have z7 : z 0 7 = v 0 7 := by
    rw [st 0 7 (by omega)]
    unfold pN
    rw [pN_ne _ _ _ (by omega)]
    unfold pS
    rw [pS_ne _ _ _ h6 (by omega), pF_ne (by omega)]
  have z3 : z 0 3 = v 0 3 := by
    rw [st 0 3 (by omega)]
    unfold pN
    rw [pN_ne _ _ _ (by omega)]
    unfold pS
    rw [pS_ne _ _ _ h6 (by omega), pF_ne (by omega)]
  refine ⟨fun k hk => ?_, fun s hs => ?_⟩
  · rw [z7] at hk
    have e : z (25 + k) 10 = v (25 + k) 10 := by
      rw [st _ _ (by omega)]
      unfold pN
      rw [pN_ne _ _ _ (by omega)]
      unfold pS
      rw [pS_ne _ _ _ h6 (by omega), pF_ne (by omega)]
    have := (w.2.2.2.2.2.2.2.2 k hk).2.2.2.2.2.2.2.2.2.1
    omega
  · rw [z3] at hs
    have hs6 := w.nS
    have e : z (5 + 2 * s) 6 = v (5 + 2 * s) 6 := by
      rw [st _ _ (by omega)]
      unfold pN
      rw [pN_ne _ _ _ (by omega)]
      unfold pS
      rw [pS_6 _ _ h6, pF_ne (by omega)]
    have := (w.2.2.2.2.2.2.1 s hs).2.2.2.2.1
    omega
/-- the calls that were active and still are -/
theorem set_go {c : Nat} {a : Nat → Nat} {z : Nat → Nat → Int} {n : Int} (w : WF v) (g : GI v) (hq : Que (pN v) c a) (hR : Run a c (pN v) z n) : sIn v 1 &&& sIn z 1 = nset (wre v) (nCl v) := by
  obtain ⟨b1, b2, b3, b4⟩ := pN_all w g
  have hn := w.nC
  have enz : nCl z = nCl v := by rw [hR.sta.n, b4]
  refine Nat.eq_of_testBit_eq (fun j => ?_)
  rw [Nat.testBit_and]
  unfold sIn
  rw [nset_bit, nset_bit, nset_bit, enz]
  by_cases hj : j < nCl v
  · rw [decide_eq_true hj, Bool.true_and, Bool.true_and, Bool.true_and]
    unfold wre
    have e5 : pN v (25 + j) 5 = if v (25 + j) 5 = 1 ∧ v (25 + j) 9 + v (25 + j) 4 ≤ v 0 0 then 2 else v (25 + j) 5 := pN_5 _ hj
    by_cases h1 : v (25 + j) 5 = 1
    · have hnw : pN v (25 + j) 5 ≠ 0 := by
        rw [e5]
        split
        · decide
        · omega
      have ez : z (25 + j) 5 = pN v (25 + j) 5 := hR.rest (fun i hi e => by
        have := (hq.w b1 i hi).2
        rw [e] at this
        exact hnw this) 5
      rw [ez, e5]
      by_cases h2 : v (25 + j) 9 + v (25 + j) 4 ≤ v 0 0
      · rw [if_pos ⟨h1, h2⟩, decide_eq_true h1, Bool.true_and]
        exact decide_eq_decide.mpr ⟨fun y => by omega, fun y => by omega⟩
      · rw [if_neg (fun y => h2 y.2), decide_eq_true h1, Bool.true_and]
        exact (decide_eq_true ⟨h1, by omega⟩).symm
    · rw [decide_eq_false h1, Bool.false_and]
      exact (decide_eq_false (fun y => h1 y.1)).symm
  · rw [decide_eq_false hj, Bool.false_and, Bool.false_and, Bool.false_and]
theorem Pss.good {u : Nat → Nat → Int} (g : Good v) (hf : v 0 0 < 9999) (h : Pss v u) : Good u ∧ u 0 0 = v 0 0 + 1 := by
  obtain ⟨c, a, z, n, h1, h2, h3⟩ := h
  obtain ⟨a1, a2, a3, a4, a5⟩ := pS_all g.1 g.2 hf
  obtain ⟨b1, b2, b3, b4⟩ := pN_all a1 a2
  have hz := h1.good b1 h2 b2 b3
  have hd := pss_dlt g.1 hf h2
  have q := pT_ceq (z := z) (m := nset (wre (pS (pF v))) (nCl v)) hz.1
  subst h3
  refine ⟨⟨pT_wf hz.1 hd, ?_⟩, ?_⟩
  · exact Ceq.gi (v := z) ⟨⟨(q _ _ (by omega) (by omega)).symm, (q _ _ (by omega) (by omega)).symm, (q _ _ (by omega) (by omega)).symm⟩, fun j hj => (q _ _ (by omega) (by omega)).symm, fun k hk => ⟨fun j hj => (q _ _ (by omega) (by omega)).symm, (q _ _ (by omega) (by omega)).symm, fun _ => ⟨(q _ _ (by omega) (by omega)).symm, (q _ _ (by omega) (by omega)).symm⟩⟩⟩ hz.2
  · rw [q _ _ (by omega) (by omega), h2.sta 0 0 (by omega), ← a5]
    exact pN_ne _ _ _ (by omega)
end PU
section CL
variable {h : zH} {A : Nat}
theorem e4_pass (hc : CV h A) (hG : GI (vw h.1 A)) (hf : vw h.1 A 0 0 < 9999) : ∃ h', q_X4_passFrame h A = some ((), h') ∧ Frm A h h' ∧ Pss (vw h.1 A) (vw h'.1 A) := by
  have w := hc.2
  have hfr := w.1
  obtain ⟨a1, a2, a3, a4, a5⟩ := pS_all w hG hf
  obtain ⟨b1, b2, b3, b4⟩ := pN_all a1 a2
  have wz : zw (vw h.1 A 0 0 + 1) = vw h.1 A 0 0 + 1 := zw_id ⟨by omega, by omega⟩
  unfold q_X4_passFrame
  simp only [zlet_b]
  rw [a_0, wz]
  clear wz
  have ev0 : vw (zput h A 0 (vw h.1 A 0 0 + 1)).1 A = pF (vw h.1 A) := vw_put0
  have hc0 : CV (zput h A 0 (vw h.1 A 0 0 + 1)) A := ⟨hc.1, by rw [ev0]; exact w.frm hf⟩
  have F0 : Frm A h (zput h A 0 (vw h.1 A 0 0 + 1)) := Frm.rf.put (o := 0) (by decide)
  obtain ⟨g1, p1, p2, p3⟩ := m_pst hc0 (by rw [ev0, pF_0]; omega) (K := fun x8 h9 => zbp (q_X4_callsIn h9 A 1) (fun x11 => zbd (q_X4_endAndServe h9 A) (fun _ h12 => zbp (q_X4_callsIn h12 A 1) (fun x13 => zbd (q_X4_countTroubles h12 A (zand x11 x13)) (fun _ h14 => some ((), h14)))))) (nSt (vw (zput h A 0 (vw h.1 A 0 0 + 1)).1 A)) 0 zF _ (Nat.zero_add _) (by have := hc0.2.nS; unfold zF; omega) rfl Frm.rf
  have p1' := p1
  rw [show ((0 : Nat) : Int) = 0 from rfl] at p1'
  rw [p1']
  rw [ev0] at p2
  have p2' : vw g1.1 A = pS (pF (vw h.1 A)) := p2
  have hc1 : CV g1 A := ⟨by rw [p3.1]; exact hc.1, by rw [p2']; exact a1⟩
  obtain ⟨c, a, hq⟩ := Que.ex (pN (pS (pF (vw h.1 A))))
  have hq' : Que (zit pEn (nCl (vw g1.1 A)) (vw g1.1 A)) c a := by rw [p2']; exact hq
  obtain ⟨g2, n, o1, o2, o3⟩ := e4_endAndServe hc1 (by rw [p2']; exact a2) hq'
  have o2' : Run a c (pN (pS (pF (vw h.1 A)))) (vw g2.1 A) n := by
    rw [p2'] at o2
    exact o2
  have hz := hq.good b1 o2' b2 b3
  have hc2 : CV g2 A := ⟨by rw [o3.1]; exact hc1.1, hz.1⟩
  have hd := pss_dlt w hf o2'
  have hset := set_go a1 a2 hq o2'
  rw [a3] at hset
  have hs1 : sIn (vw g1.1 A) 1 < 65536 := nset_16 hc1.2.nC.2
  have hs2 : sIn (vw g2.1 A) 1 < 65536 := nset_16 hc2.2.nC.2
  rw [e4_callsIn hc1 1, zbp_some, o1, zbd_some, e4_callsIn hc2 1, zbp_some, zand_nat (by omega) (by omega), p2', hset]
  obtain ⟨g3, y1, y2, y3⟩ := e4_trouble hc2 hd (m := nset (wre (pS (pF (vw h.1 A)))) (nCl (vw h.1 A))) (nset_16 w.nC.2)
  rw [y1, zbd_some]
  exact ⟨g3, rfl, F0.tr (p3.tr (o3.tr y3)), c, a, _, n, hq, o2', y2⟩
end CL
section OPS
variable {B : Nat}
end OPS
/-- frames pass -/
def PsN : Nat → (Nat → Nat → Int) → (Nat → Nat → Int) → Prop
  | 0, v, u => u = v
  | n + 1, v, u => ∃ w, Pss v w ∧ PsN n w u
section OPS
variable {B : Nat}
theorem m_adv {N : Nat} {K : Int → zH → Option (Int × zH)} : ∀ (r i f : Nat) (g : zH), i + r = N → N ≤ 200 → r < f → CV g (B + 1) → g.2 B 0 = B + 1 → Good (vw g.1 (B + 1)) → vw g.1 (B + 1) 0 0 + (r : Int) ≤ 9999 →
    ∃ g', q_X7_advance_L45 B (N : Int) K f (i : Int) g = K (N : Int) g' ∧ PsN r (vw g.1 (B + 1)) (vw g'.1 (B + 1)) ∧ Frm (B + 1) g g' ∧ Good (vw g'.1 (B + 1)) ∧ vw g'.1 (B + 1) 0 0 = vw g.1 (B + 1) 0 0 + (r : Int) := by
  intro r
  induction r with
  | zero =>
    intro i f g q1 q0 q2 hc h0 hg hf
    obtain ⟨f', rfl⟩ : ∃ f', f = f' + 1 := ⟨f - 1, by omega⟩
    have e : i = N := by omega
    refine ⟨g, ?_, rfl, Frm.rf, hg, by omega⟩
    rw [q_X7_advance_L45, e, if_pos (Int.le_refl _)]
  | succ r ih =>
    intro i f g q1 q0 q2 hc h0 hg hf
    obtain ⟨f', rfl⟩ : ∃ f', f = f' + 1 := ⟨f - 1, by omega⟩
    have hni : ¬ (N : Int) ≤ (i : Int) := by omega
    have hii : i < 1000000 := by omega
    obtain ⟨g1, p1, p2, p3⟩ := e4_pass hc hg.2 (by omega)
    obtain ⟨hg1, hf1⟩ := p3.good hg (by omega)
    obtain ⟨g', o1, o2, o3, o4, o5⟩ := ih (i + 1) f' g1 (by omega) q0 (by omega) ⟨by rw [p2.1]; exact hc.1, hg1.1⟩ (by rw [p2.1]; exact h0) hg1 (by omega)
    refine ⟨g', ?_, ⟨_, p3, o2⟩, p2.tr o3, o4, by omega⟩
    rw [q_X7_advance_L45, if_neg hni, h0, p1, zbd_some]
    simp only [zlet_b]
    rw [zw_s hii]
    exact o1
end OPS
