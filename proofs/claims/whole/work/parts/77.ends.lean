/-! A frame passes: calls end. -/
def pEn (v : Nat → Nat → Int) (k : Nat) : Nat → Nat → Int := if v (25 + k) 5 = 1 ∧ v (25 + k) 9 + v (25 + k) 4 ≤ v 0 0 then vup v (25 + k) 5 2 else v
theorem pEn_ne {v : Nat → Nat → Int} {k o j : Nat} (h : ¬ (o = 25 + k ∧ j = 5)) : pEn v k o j = v o j := by
  unfold pEn
  split
  · exact vup_ne h
  · rfl
theorem pN_ne {v : Nat → Nat → Int} : ∀ (i o j : Nat), ¬ (25 ≤ o ∧ o < 25 + i ∧ j = 5) → zit pEn i v o j = v o j := by
  intro i
  induction i with
  | zero => intro o j _; rfl
  | succ i ih =>
    intro o j h
    rw [zit_s, pEn_ne (by omega)]
    exact ih o j (by omega)
theorem pN_5 {v : Nat → Nat → Int} {k : Nat} : ∀ (i : Nat), k < i → zit pEn i v (25 + k) 5 = if v (25 + k) 5 = 1 ∧ v (25 + k) 9 + v (25 + k) 4 ≤ v 0 0 then 2 else v (25 + k) 5 := by
  intro i
  induction i with
  | zero => intro h; omega
  | succ i ih =>
    intro h
    rw [zit_s]
    by_cases e : k = i
    · subst e
      have e5 := pN_ne (v := v) k (25 + k) 5 (by omega)
      have e9 := pN_ne (v := v) k (25 + k) 9 (by omega)
      have e4 := pN_ne (v := v) k (25 + k) 4 (by omega)
      have e0 := pN_ne (v := v) k 0 0 (by omega)
      unfold pEn
      unfold pEn at e5 e9 e4 e0
      rw [e5, e9, e4, e0]
      split
      · exact vup_at
      · exact e5
    · rw [pEn_ne (by omega)]
      exact ih (by omega)
theorem pN_n {v : Nat → Nat → Int} {i : Nat} : nCl (zit pEn i v) = nCl v := by
  unfold nCl
  rw [pN_ne i 0 7 (by omega)]
theorem pN_good {v : Nat → Nat → Int} (w : WF v) (hs : zSep v) (ht : zWt v) : ∀ i, WF (zit pEn i v) ∧ zSep (zit pEn i v) ∧ zWt (zit pEn i v) := by
  intro i
  induction i with
  | zero => exact ⟨w, hs, ht⟩
  | succ i ih =>
    obtain ⟨a, b, c⟩ := ih
    rw [zit_s]
    generalize zit pEn i v = u at a b c
    unfold pEn
    split
    · exact ⟨a.fin i, fin_sep b, fin_wt c⟩
    · exact ⟨a, b, c⟩
theorem pN_id {v : Nat → Nat → Int} : ∀ i, (∀ k, k < i → ¬ (v (25 + k) 5 = 1 ∧ v (25 + k) 9 + v (25 + k) 4 ≤ v 0 0)) → zit pEn i v = v := by
  intro i
  induction i with
  | zero => intro _; rfl
  | succ i ih =>
    intro h
    rw [zit_s, ih (fun k hk => h k (by omega))]
    unfold pEn
    rw [if_neg (h i (by omega))]
section CL
variable {h : zH} {A : Nat}
theorem m_end (hc : CV h A) (hs : zSep (vw h.1 A)) (ht : zWt (vw h.1 A)) {K : Int → Int → zH → Option (Unit × zH)} : ∀ (r i f : Nat) (g : zH) (b : Int), i + r = nCl (vw h.1 A) → r < f → vw g.1 A = zit pEn i (vw h.1 A) → Frm A h g → ((b = 0 ∧ ∀ k, k < i → ¬ (vw h.1 A (25 + k) 5 = 1 ∧ vw h.1 A (25 + k) 9 + vw h.1 A (25 + k) 4 ≤ vw h.1 A 0 0)) ∨ b = 1) →
    ∃ g' b', q_X4_endAndServe_L4 A K f b (i : Int) g = K b' (nCl (vw h.1 A) : Int) g' ∧ vw g'.1 A = zit pEn (nCl (vw h.1 A)) (vw h.1 A) ∧ Frm A h g' ∧ ((b' = 0 ∧ ∀ k, k < nCl (vw h.1 A) → ¬ (vw h.1 A (25 + k) 5 = 1 ∧ vw h.1 A (25 + k) 9 + vw h.1 A (25 + k) 4 ≤ vw h.1 A 0 0)) ∨ b' = 1) := by
  have w := hc.2
  have hn := w.nC
  intro r
  induction r with
  | zero =>
    intro i f g b q1 q2 hv hF hb
    obtain ⟨f', rfl⟩ : ∃ f', f = f' + 1 := ⟨f - 1, by omega⟩
    have e : i = nCl (vw h.1 A) := by omega
    have hcg : CV g A := ⟨by rw [hF.1]; exact hc.1, by rw [hv]; exact (pN_good w hs ht i).1⟩
    refine ⟨g, b, ?_, by rw [← e]; exact hv, hF, by rw [← e]; exact hb⟩
    have en : nCl (vw g.1 A) = nCl (vw h.1 A) := by rw [hv]; exact pN_n
    rw [q_X4_endAndServe_L4, a_n7 hcg, en, e, if_pos (Int.le_refl _)]
  | succ r ih =>
    intro i f g b q1 q2 hv hF hb
    obtain ⟨f', rfl⟩ : ∃ f', f = f' + 1 := ⟨f - 1, by omega⟩
    have hcg : CV g A := ⟨by rw [hF.1]; exact hc.1, by rw [hv]; exact (pN_good w hs ht i).1⟩
    have en : nCl (vw g.1 A) = nCl (vw h.1 A) := by rw [hv]; exact pN_n
    have hi16 : i < 16 := by omega
    have hii : i < 1000000 := by omega
    have hni : ¬ (nCl (vw h.1 A) : Int) ≤ (i : Int) := by omega
    have e5 : g.1 (A + (25 + i)) 5 = vw h.1 A (25 + i) 5 := by rw [a_c hi16, hv]; exact pN_ne i _ _ (by omega)
    have e9 : g.1 (A + (25 + i)) 9 = vw h.1 A (25 + i) 9 := by rw [a_c hi16, hv]; exact pN_ne i _ _ (by omega)
    have e4 : g.1 (A + (25 + i)) 4 = vw h.1 A (25 + i) 4 := by rw [a_c hi16, hv]; exact pN_ne i _ _ (by omega)
    have e0 : g.1 A 0 = vw h.1 A 0 0 := by rw [a_0, hv]; exact pN_ne i _ _ (by omega)
    have hwc := w.2.2.2.2.2.2.2.2 i (by omega)
    have hb4 := hwc.2.2.2.2.2.1
    have hb9 := hwc.2.2.2.2.2.2.2.2.1
    have hfr := w.1
    have eP : zit pEn (i + 1) (vw h.1 A) = if vw h.1 A (25 + i) 5 = 1 ∧ vw h.1 A (25 + i) 9 + vw h.1 A (25 + i) 4 ≤ vw h.1 A 0 0 then vup (zit pEn i (vw h.1 A)) (25 + i) 5 2 else zit pEn i (vw h.1 A) := by
      have a5 := pN_ne (v := vw h.1 A) i (25 + i) 5 (by omega)
      have a9 := pN_ne (v := vw h.1 A) i (25 + i) 9 (by omega)
      have a4 := pN_ne (v := vw h.1 A) i (25 + i) 4 (by omega)
      have a0 := pN_ne (v := vw h.1 A) i 0 0 (by omega)
      rw [zit_s, ← a5, ← a9, ← a4, ← a0]
      rfl
    have hP : vw h.1 A (25 + i) 5 = 1 ∧ vw h.1 A (25 + i) 9 + vw h.1 A (25 + i) 4 ≤ vw h.1 A 0 0 ∨ ¬ (vw h.1 A (25 + i) 5 = 1 ∧ vw h.1 A (25 + i) 9 + vw h.1 A (25 + i) 4 ≤ vw h.1 A 0 0) := Classical.em _
    have stay : ¬ (vw h.1 A (25 + i) 5 = 1 ∧ vw h.1 A (25 + i) 9 + vw h.1 A (25 + i) 4 ≤ vw h.1 A 0 0) → ∃ g' b', q_X4_endAndServe_L4 A K f' b ((i + 1 : Nat) : Int) g = K b' (nCl (vw h.1 A) : Int) g' ∧ vw g'.1 A = zit pEn (nCl (vw h.1 A)) (vw h.1 A) ∧ Frm A h g' ∧ ((b' = 0 ∧ ∀ k, k < nCl (vw h.1 A) → ¬ (vw h.1 A (25 + k) 5 = 1 ∧ vw h.1 A (25 + k) 9 + vw h.1 A (25 + k) 4 ≤ vw h.1 A 0 0)) ∨ b' = 1) := fun hN => by
      refine ih (i + 1) f' g b (by omega) (by omega) (by rw [eP, if_neg hN]; exact hv) hF ?_
      rcases hb with ⟨b1, b2⟩ | b1
      · refine Or.inl ⟨b1, fun k hk => ?_⟩
        by_cases e : k = i
        · rw [e]; exact hN
        · exact b2 k (by omega)
      · exact Or.inr b1
    rw [q_X4_endAndServe_L4, a_n7 hcg, en, if_neg hni]
    simp only [zlet_b]
    unfold q_X0_endFrame
    rw [zgpos hi16, zgpos hi16, zgpos hi16, Int.toNat_natCast, a_call hcg, e5, e9, e4, e0, zbp_some, zw_s hii]
    by_cases h5 : vw h.1 A (25 + i) 5 = 1
    · have wz : zw (vw h.1 A (25 + i) 9 + vw h.1 A (25 + i) 4) = vw h.1 A (25 + i) 9 + vw h.1 A (25 + i) 4 := zw_id ⟨by omega, by omega⟩
      rw [if_pos h5, wz]
      clear wz
      by_cases hE : vw h.1 A 0 0 < vw h.1 A (25 + i) 9 + vw h.1 A (25 + i) 4
      · rw [if_pos hE]
        exact stay (fun z => by have := z.2; omega)
      · rw [if_neg hE]
        refine ih (i + 1) f' _ 1 (by omega) (by omega) ?_ (hF.put (by omega)) (Or.inr rfl)
        rw [vw_put (by omega), eP, if_pos ⟨h5, by omega⟩, hv]
    · rw [if_neg h5]
      exact stay (fun z => h5 z.1)
theorem e4_endAndServe (hc : CV h A) (hG : GI (vw h.1 A)) {c : Nat} {a : Nat → Nat} (hq : Que (zit pEn (nCl (vw h.1 A)) (vw h.1 A)) c a) : ∃ h' n, q_X4_endAndServe h A = some ((), h') ∧ Run a c (zit pEn (nCl (vw h.1 A)) (vw h.1 A)) (vw h'.1 A) n ∧ Frm A h h' := by
  have w := hc.2
  unfold q_X4_endAndServe
  obtain ⟨g, b, p1, p2, p3, p4⟩ := m_end hc hG.1 hG.2.2 (K := fun x6 _ h8 => if x6 = 0 then (some ((), h8)) else (zbp (q_X4_callsIn h8 A 0) (fun x9 => zbd (q_X4_placeInOrder h8 A x9) (fun x10 h11 => some ((), h11))))) (nCl (vw h.1 A)) 0 zF h 0 (Nat.zero_add _) (by have := w.nC; unfold zF; omega) rfl Frm.rf (Or.inl ⟨rfl, fun k hk => by omega⟩)
  have p1' := p1
  rw [show ((0 : Nat) : Int) = 0 from rfl] at p1'
  rw [p1']
  rcases p4 with ⟨b1, b2⟩ | b1
  · rw [if_pos b1]
    have e := pN_id (v := vw h.1 A) (nCl (vw h.1 A)) b2
    rw [e] at hq p2 ⊢
    exact ⟨g, 0, rfl, by rw [p2]; exact hq.idle w hG.2.1 c (Nat.le_refl _), p3⟩
  · rw [if_neg (by omega)]
    have hcg : CV g A := ⟨by rw [p3.1]; exact hc.1, by rw [p2]; exact (pN_good w hG.1 hG.2.2 _).1⟩
    obtain ⟨m, h', n, o1, o2, o3, o4⟩ := e4_serve hcg (by rw [p2]; exact hq)
    rw [o1, zbp_some, o2, zbd_some]
    exact ⟨h', n, rfl, by rw [← p2]; exact o3, p3.tr o4⟩
end CL
section OPS
variable {B : Nat}
/-- the calls that go on -/
def wre (v : Nat → Nat → Int) : Nat → Bool := fun k => decide (v (25 + k) 5 = 1 ∧ v 0 0 < v (25 + k) 9 + v (25 + k) 4)
theorem m_were {h : zH} {v : Nat → Nat → Int} (hm : MV h (B + 541) v) (hs : zSep v) (ht : zWt v) {K : Int → Int → zH → Option (Unit × zH)} : ∀ (r i f : Nat) (g : zH), i + r = nCl v → r < f → MV g (B + 541) (zit pEn i v) → zNw B h g →
    ∃ g', q_X8_passes_L70 (B + 541) (v 0 0) K f ((nset (wre v) i : Nat) : Int) (i : Int) g = K ((nset (wre v) (nCl v) : Nat) : Int) (nCl v : Int) g' ∧ MV g' (B + 541) (zit pEn (nCl v) v) ∧ zNw B h g' := by
  have w := hm.2.1
  have hn := w.nC
  intro r
  induction r with
  | zero =>
    intro i f g q1 q2 hg hF
    obtain ⟨f', rfl⟩ : ∃ f', f = f' + 1 := ⟨f - 1, by omega⟩
    have e : i = nCl v := by omega
    subst e
    refine ⟨g, ?_, hg, hF⟩
    rw [q_X8_passes_L70, m_n7 hg, pN_n, if_pos (Int.le_refl _)]
  | succ r ih =>
    intro i f g q1 q2 hg hF
    obtain ⟨f', rfl⟩ : ∃ f', f = f' + 1 := ⟨f - 1, by omega⟩
    have hi16 : i < 16 := by omega
    have hii : i < 1000000 := by omega
    have hni : ¬ (nCl v : Int) ≤ (i : Int) := by omega
    have a5 := pN_ne (v := v) i (25 + i) 5 (by omega)
    have a9 := pN_ne (v := v) i (25 + i) 9 (by omega)
    have a4 := pN_ne (v := v) i (25 + i) 4 (by omega)
    have a0 := pN_ne (v := v) i 0 0 (by omega)
    have a7 := pN_ne (v := v) i 0 7 (by omega)
    have hgn : g.1 (g.2 (B + 541) 5) 404 = (nCl v : Int) := by rw [m_n7 hg, pN_n]
    have eP : zit pEn (i + 1) v = if v (25 + i) 5 = 1 ∧ v (25 + i) 9 + v (25 + i) 4 ≤ v 0 0 then vup (zit pEn i v) (25 + i) 5 2 else zit pEn i v := by
      rw [zit_s, ← a5, ← a9, ← a4, ← a0]
      rfl
    have hi7 : (i : Int) < zit pEn i v 0 7 := by rw [a7]; omega
    have hact := m_act hg hi7
    rw [a5] at hact
    have hns := nset_s (P := wre v) hi16
    have hwe : wre v i = decide (v (25 + i) 5 = 1 ∧ v 0 0 < v (25 + i) 9 + v (25 + i) 4) := rfl
    rw [q_X8_passes_L70, hgn, if_neg hni, hact, zbp_some]
    simp only [zlet_b]
    rw [zw_s hii]
    by_cases h5 : v (25 + i) 5 = 1
    · have h8 := m_8 hg hi7 (by rw [a5]; exact h5)
      rw [a9, a4] at h8
      rw [if_pos h5, if_neg one0, h8, zbp_some]
      by_cases hE : v 0 0 < v (25 + i) 9 + v (25 + i) 4
      · rw [if_pos hE]
        rw [hwe, if_pos (by rw [zdec]; exact ⟨h5, hE⟩)] at hns
        rw [← hns]
        exact ih (i + 1) f' g (by omega) (by omega) (by rw [eP, if_neg (fun z => by have := z.2; omega)]; exact hg) hF
      · rw [if_neg hE, e8_put hg.1 hi16 (j := 5) (J := 5) (by decide) rfl, zbd_some]
        rw [hwe, if_neg (by rw [zdec]; exact fun z => hE z.2)] at hns
        rw [← hns]
        have F1 : zNw B g (zput g (B + 541 + 4) (405 + 12 * i + 5) 2) := zNw.rf.put
        refine ih (i + 1) f' _ (by omega) (by omega) ?_ (hF.tr F1)
        rw [eP, if_pos ⟨h5, by omega⟩]
        have wi := (pN_good w hs ht i).1
        exact F1.mv hg (wi.fin i) (hg.2.2.fin wi hi16 (fun j hj => zput_ne (fun z => hj z.2)) zput_self)
    · rw [if_neg h5, if_pos rfl]
      rw [hwe, if_neg (by rw [zdec]; exact fun z => h5 z.1)] at hns
      rw [← hns]
      exact ih (i + 1) f' g (by omega) (by omega) (by rw [eP, if_neg (fun z => h5 z.1)]; exact hg) hF
end OPS
