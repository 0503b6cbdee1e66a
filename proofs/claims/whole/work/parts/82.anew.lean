/-! Assigning anew: the class; finding all: the reference. -/
def pW (m : Nat) (v : Nat → Nat → Int) (k : Nat) : Nat → Nat → Int := if m.testBit k = true then vup v (25 + k) 5 0 else v
theorem pW_ne {m : Nat} {v : Nat → Nat → Int} : ∀ (i o j : Nat), ¬ (25 ≤ o ∧ o < 25 + i ∧ j = 5) → zit (pW m) i v o j = v o j := by
  intro i
  induction i with
  | zero => intro o j _; rfl
  | succ i ih =>
    intro o j h
    rw [zit_s]
    unfold pW
    split
    · rw [vup_ne (by omega)]
      exact ih o j (by omega)
    · exact ih o j (by omega)
theorem pW_5 {m : Nat} {v : Nat → Nat → Int} {k : Nat} : ∀ (i : Nat), k < i → zit (pW m) i v (25 + k) 5 = if m.testBit k = true then 0 else v (25 + k) 5 := by
  intro i
  induction i with
  | zero => intro h; omega
  | succ i ih =>
    intro h
    rw [zit_s]
    by_cases e : k = i
    · subst e
      have e5 := pW_ne (m := m) (v := v) k (25 + k) 5 (by omega)
      generalize zit (pW m) k v = u at e5
      unfold pW
      split
      · exact vup_at
      · exact e5
    · have hk := ih (by omega)
      generalize zit (pW m) i v = u at hk
      unfold pW
      split
      · rw [vup_ne (by omega)]
        exact hk
      · exact hk
/-- as far as bursts go, the same but for where they lie -/
def Agr (v u : Nat → Nat → Int) : Prop := (∀ j, j < 3 → v 1 j = u 1 j) ∧ v 0 7 = u 0 7 ∧ ∀ k : Nat, (k : Int) < v 0 7 → ∀ j, j < 4 → v (25 + k) j = u (25 + k) j
theorem Agr.n {v u : Nat → Nat → Int} (h : Agr v u) : nCl u = nCl v := by unfold nCl; rw [h.2.1]
theorem Agr.sta {v u w : Nat → Nat → Int} (h : Agr v u) (hs : Sta u w) : Agr v w :=
  ⟨fun j hj => (h.1 j hj).trans (hs _ _ (by omega)).symm, h.2.1.trans (hs _ _ (by omega)).symm, fun k hk j hj => (h.2.2 k hk j hj).trans (hs _ _ (by omega)).symm⟩
theorem Agr.fl {v u : Nat → Nat → Int} (w : WF v) (wu : WF u) (h : Agr v u) {k : Nat} (hk : (k : Int) < v 0 7) {c t : Int} : FL v (layC u 0) (layS u 0) k c t ↔ Fit u (fun _ => False) k c t := by
  have hn := w.nC
  have e := h.n
  obtain ⟨a, b, cc⟩ := h
  have a0 := a 0 (by decide)
  have a1 := a 1 (by decide)
  have a2 := a 2 (by decide)
  refine Iff.trans ?_ ((Fit.lay wu (x := 0)).symm.trans fit_0)
  have k3 := cc k hk 3 (by decide)
  have k0 := cc k hk 0 (by decide)
  have k1 := cc k hk 1 (by decide)
  unfold FL FitR
  rw [e, a0, a1, a2, k3]
  refine and_congr_right (fun _ => and_congr_right (fun _ => ?_))
  refine forall_congr' (fun l => ?_)
  constructor
  · intro z hl y
    have hl7 : (l : Int) < v 0 7 := by omega
    refine z hl ?_
    obtain ⟨y1, y2, y3, y4⟩ := y
    exact ⟨y1, by rw [cc l hl7 3 (by decide), a1]; exact y2, by rw [k3, a1]; exact y3, by rw [cc l hl7 0 (by decide), cc l hl7 1 (by decide), k0, k1]; exact y4⟩
  · intro z hl y
    have hl7 : (l : Int) < v 0 7 := by omega
    refine z hl ?_
    obtain ⟨y1, y2, y3, y4⟩ := y
    exact ⟨y1, by rw [← cc l hl7 3 (by decide), ← a1]; exact y2, by rw [← k3, ← a1]; exact y3, by rw [← cc l hl7 0 (by decide), ← cc l hl7 1 (by decide), ← k0, ← k1]; exact y4⟩
theorem Run.rem {a : Nat → Nat} {v w : Nat → Nat → Int} {i : Nat} {x : Int} (hi : Run a i v w x) : ∀ {c u n}, Run a c v u n → i ≤ c → n ≤ x + ((c - i : Nat) : Int) := by
  intro c
  induction c with
  | zero =>
    intro u n h hc
    have e : i = 0 := by omega
    subst e
    have := (hi.uniq h).2
    omega
  | succ c ih =>
    intro u n h hc
    by_cases e : i = c + 1
    · subst e
      have := (hi.uniq h).2
      omega
    · obtain ⟨w', x', r, h1, h2, h3⟩ := h
      have := ih h1 (by omega)
      have := h2.r01
      omega
theorem Run.full {a : Nat → Nat} {v : Nat → Nat → Int} : ∀ {c u n}, Run a c v u n → n = (c : Int) → ∀ i, i < c → u (25 + a i) 5 = 1 := by
  intro c
  induction c with
  | zero => intro u n _ _ i hi; omega
  | succ c ih =>
    intro u n h hn i hi
    have hh := h
    obtain ⟨w, x, r, h1, h2, h3⟩ := h
    have hc := h1.cnt
    have hr := h2.r01
    have hx : x = (c : Int) := by omega
    have hr1 : r = 1 := by omega
    rcases h2 with ⟨cc, s, q1, q2, q3⟩ | ⟨q1, q2, q3⟩
    · rw [q2]
      by_cases e : a i = a c
      · rw [e]; exact vpl_5
      · rw [vpl_row e]
        by_cases ei : i = c
        · exact absurd (by rw [ei]) e
        · exact ih h1 hx i (by omega)
    · omega
section CL
variable {h : zH} {A : Nat}
theorem m_anew {n m : Nat} (hn16 : n ≤ 16) (hm : m < 65536) {K : Int → zH → Option (Int × zH)} : ∀ (r i f : Nat) (g : zH), i + r = n → r < f → cly g.2 A → g.1 A 7 = (n : Int) → vw g.1 A = zit (pW m) i (vw h.1 A) → Frm A h g →
    ∃ g', q_X4_assignAnew_L2 A (m : Int) K f (i : Int) g = K (n : Int) g' ∧ vw g'.1 A = zit (pW m) n (vw h.1 A) ∧ Frm A h g' := by
  intro r
  induction r with
  | zero =>
    intro i f g q1 q2 hl h7 hv hF
    obtain ⟨f', rfl⟩ : ∃ f', f = f' + 1 := ⟨f - 1, by omega⟩
    have e : i = n := by omega
    refine ⟨g, ?_, by rw [← e]; exact hv, hF⟩
    rw [q_X4_assignAnew_L2, h7, e, if_pos (Int.le_refl _)]
  | succ r ih =>
    intro i f g q1 q2 hl h7 hv hF
    obtain ⟨f', rfl⟩ : ∃ f', f = f' + 1 := ⟨f - 1, by omega⟩
    have hi16 : i < 16 := by omega
    have hii : i < 1000000 := by omega
    have hni : ¬ (n : Int) ≤ (i : Int) := by omega
    have e1 : zit (pW m) (i + 1) (vw h.1 A) = if m.testBit i = true then vup (vw g.1 A) (25 + i) 5 0 else vw g.1 A := by rw [zit_s, ← hv]; rfl
    rw [q_X4_assignAnew_L2, h7, if_neg hni, e_isIn hm hi16, zbp_some]
    simp only [zlet_b]
    rw [zgpos hi16, Int.toNat_natCast, hl.cls, hl.cl, zw_s hii]
    by_cases hb : m.testBit i = true
    · rw [if_pos hb, if_neg one0]
      refine ih (i + 1) f' _ (by omega) (by omega) hl (by rw [zput_ne (by omega)]; exact h7) ?_ (hF.put (by omega))
      rw [vw_put (by omega), e1, if_pos hb]
    · rw [if_neg hb, if_pos rfl]
      exact ih (i + 1) f' g (by omega) (by omega) hl h7 (by rw [e1, if_neg hb]) hF
theorem e4_anew (hl : cly h.2 A) {n m c : Nat} {a : Nat → Nat} (hn : vw h.1 A 0 7 = (n : Int)) (hn16 : n ≤ 16) (hm : m < 65536) (hw0 : WF (zit (pW m) n (vw h.1 A))) (hE : Enu (fun k => m.testBit k) (fun k => vw h.1 A (25 + k) 2) n c a) (hbc : sBC (m : Int) = (c : Int)) :
    ∃ h' x, q_X4_assignAnew h A (m : Int) = some (if x = (c : Int) then 1 else 0, h') ∧ Run a c (zit (pW m) n (vw h.1 A)) (vw h'.1 A) x ∧ Frm A h h' := by
  unfold q_X4_assignAnew
  obtain ⟨g, p1, p2, p3⟩ := m_anew (h := h) (A := A) hn16 hm (K := fun x5 h6 => zbd (q_X4_placeInOrder h6 A (m : Int)) (fun x7 h8 => zbp (q_J6_bitCount (m : Int)) (fun x9 => if x7 = x9 then (some (1, h8)) else (some (0, h8))))) n 0 zF h (Nat.zero_add _) (by unfold zF; omega) hl (by rw [a_0, hn]) rfl Frm.rf
  have p1' := p1
  rw [show ((0 : Nat) : Int) = 0 from rfl] at p1'
  rw [p1']
  have hcg : CV g A := ⟨by rw [p3.1]; exact hl, by rw [p2]; exact hw0⟩
  have e7 : vw g.1 A 0 7 = (n : Int) := by rw [p2, pW_ne _ _ _ (by omega)]; exact hn
  have en : nCl (vw g.1 A) = n := by unfold nCl; rw [e7, Int.toNat_natCast]
  have ep : (fun k => vw g.1 A (25 + k) 2) = fun k => vw h.1 A (25 + k) 2 := funext fun k => by rw [p2, pW_ne _ _ _ (by omega)]
  obtain ⟨h', x, o1, o2, o3⟩ := e4_order hcg (m := m) (c := c) (a := a) hm (by rw [en, ep]; exact hE) (fun i hi => by
    obtain ⟨y1, y2⟩ := hE.1 i hi
    have y2' : m.testBit (a i) = true := y2
    rw [p2, pW_5 n y1, if_pos y2']
    decide)
  unfold q_J6_bitCount
  rw [o1, zbd_some, zbp_some, hbc]
  refine ⟨h', x, ?_, by rw [← p2]; exact o2, p3.tr o3⟩
  by_cases q : x = (c : Int)
  · rw [if_pos q, if_pos q]
  · rw [if_neg q, if_neg q]
end CL
section OPS
variable {B : Nat}
theorem m_clearRows {i1 : Int} {K : Int → zH → Option (Int × zH)} : ∀ (r i f : Nat) (g : zH), i + r = 16 → r < f → mly g.2 (B + 541) → (∀ l, l < i → g.1 (B + 541 + 8) l = -1 ∧ g.1 (B + 541 + 9) l = -1) →
    ∃ g', q_X8_findsAll_L7 (B + 541) i1 K f (i : Int) g = K (16 : Nat) g' ∧ zLy B g g' ∧ ∀ l, l < 16 → g'.1 (B + 541 + 8) l = -1 ∧ g'.1 (B + 541 + 9) l = -1 := by
  intro r
  induction r with
  | zero =>
    intro i f g q1 q2 hl hr
    obtain ⟨f', rfl⟩ : ∃ f', f = f' + 1 := ⟨f - 1, by omega⟩
    have e : i = 16 := by omega
    subst e
    refine ⟨g, ?_, ⟨rfl, fun _ _ _ _ => rfl⟩, hr⟩
    rw [q_X8_findsAll_L7]
    exact if_pos (by decide)
  | succ r ih =>
    intro i f g q1 q2 hl hr
    obtain ⟨f', rfl⟩ : ∃ f', f = f' + 1 := ⟨f - 1, by omega⟩
    have hi16 : i < 16 := by omega
    have hii : i < 1000000 := by omega
    have hni : ¬ (16 : Int) ≤ (i : Int) := by omega
    have e23 : g.2 (B + 541) 23 = B + 541 + 8 := hl 23
    have e24 : g.2 (B + 541) 24 = B + 541 + 9 := hl 24
    have s1 : zLy B g (zput (zput g (B + 541 + 8) i (-1)) (B + 541 + 9) i (-1)) := zLy.p
    obtain ⟨g', p1, p2, p3⟩ := ih (i + 1) f' _ (by omega) (by omega) (by rw [s1.1]; exact hl) (fun l hl' => by
      by_cases e : l = i
      · subst e
        rw [zput_ne (by omega), zput_self, zput_self]
        exact ⟨rfl, rfl⟩
      · rw [zput_ne (by omega), zput_ne (by omega), zput_ne (by omega), zput_ne (by omega)]
        exact hr l (by omega))
    refine ⟨g', ?_, s1.tr p2, p3⟩
    rw [q_X8_findsAll_L7, if_neg hni]
    simp only [zlet_b, zgpos hi16]
    rw [Int.toNat_natCast, zput_2, e23, e24, zw_s hii]
    exact p1
theorem m_findsAll {v w0 u : Nat → Nat → Int} {T0 : Nat → Int} {S : Nat → Bool} {C c : Nat} {a : Nat → Nat} {n : Int} (w : WF v) (hw0 : WF w0) (hA : Agr v w0) (hC : w0 0 1 = (C : Int)) (hE : Enu S (fun k => v (25 + k) 2) (nCl v) c a) (hR : Run a c w0 u n) : ∀ (r i f : Nat) (g : zH) (z : Nat → Nat → Int), i + r = c → r < f → Run a i w0 z (i : Int) → MVt g (B + 541) v T0 → (∀ j, j < c → g.1 (B + 541 + 7) j = (a j : Int)) → g.1 (B + 541) 22 = (c : Int) → g.1 (B + 541) 25 = (C : Int) → (∀ l, l < nCl v → g.1 (B + 541 + 8) l = layC z 0 l ∧ g.1 (B + 541 + 9) l = layS z 0 l) →
    ∃ r' g', q_X8_findsAll_L40 (B + 541) (fun _ h15 => some (1, h15)) f (i : Int) g = some (r', g') ∧ zSame B g g' ∧ ((r' = 1 ∧ n = (c : Int) ∧ ∀ l, l < nCl v → g'.1 (B + 541 + 8) l = layC u 0 l ∧ g'.1 (B + 541 + 9) l = layS u 0 l) ∨ (r' = 0 ∧ n ≠ (c : Int))) := by
  have hn := w.nC
  have hC4 := hw0.2.1
  have hcn : c ≤ nCl v := by rw [hE.2.2.2]; exact nct_le _
  intro r
  induction r with
  | zero =>
    intro i f g z q1 q2 hz hm h7 h22 h25 hr
    obtain ⟨f', rfl⟩ : ∃ f', f = f' + 1 := ⟨f - 1, by omega⟩
    have e : i = c := by omega
    subst e
    obtain ⟨e1, e2⟩ := hR.uniq hz
    refine ⟨1, g, ?_, zSame.rf, Or.inl ⟨rfl, e2, by rw [e1]; exact hr⟩⟩
    rw [q_X8_findsAll_L40, h22, if_pos (Int.le_refl _)]
  | succ r ih =>
    intro i f g z q1 q2 hz hm h7 h22 h25 hr
    obtain ⟨f', rfl⟩ : ∃ f', f = f' + 1 := ⟨f - 1, by omega⟩
    have hic : i < c := by omega
    have hi16 : i < 16 := by omega
    have hii : i < 1000000 := by omega
    have hni : ¬ (c : Int) ≤ (i : Int) := by omega
    have hai := (hE.1 i hic).1
    have ha16 : a i < 16 := by omega
    have hai7 : ((a i : Nat) : Int) < v 0 7 := by omega
    have wz : WF z := hz.wf hw0
    have hAz := hA.sta hz.sta
    have e21 : g.2 (B + 541) 21 = B + 541 + 7 := hm.1 21
    have e23 : g.2 (B + 541) 23 = B + 541 + 8 := hm.1 23
    have e24 : g.2 (B + 541) 24 = B + 541 + 9 := hm.1 24
    have hb : ∀ l, l < nCl v → -1 ≤ layS z 0 l ∧ layS z 0 l ≤ v 1 0 := fun l hl => by
      have := layS_c wz (x := 0) l (by rw [hAz.n]; exact hl)
      rw [hAz.1 0 (by decide)]
      exact this
    obtain ⟨rr, fc, fs, y1, y2⟩ := e8_finds hm hai7 hr hb h25 (by omega)
    have hFz : ∀ cc t, FL v (layC z 0) (layS z 0) (a i) cc t ↔ Fit z (fun _ => False) (a i) cc t := fun cc t => hAz.fl w wz hai7
    obtain ⟨z', r1, s1, s2⟩ := hR.step hic hz
    have z01 : z 0 1 = (C : Int) := by rw [hz.sta 0 1 (by omega), hC]
    rw [q_X8_findsAll_L40, h22, if_neg hni]
    simp only [zlet_b, zgpos hi16]
    rw [Int.toNat_natCast, e21, h7 i hic, y1, zbd_some]
    rcases y2 with ⟨t1, t2, t3⟩ | ⟨t1, t2⟩
    · rw [if_pos t1]
      refine ⟨0, _, rfl, z2x_same, Or.inr ⟨rfl, ?_⟩⟩
      rcases s1 with ⟨cc, s, b1, b2, b3⟩ | ⟨b1, b2, b3⟩
      · exact absurd ((hFz cc s).mpr b1.2.1) (t3 cc s b1.1.1 (by rw [← z01]; exact b1.1.2))
      · have := s2.rem hR (by omega)
        omega
    · rw [if_neg (by omega)]
      have hbs : Bs (Fit z (fun _ => False) (a i)) (z 0 1) fc fs := ⟨by rw [z01]; exact t2.1, (hFz fc fs).mp t2.2.1, fun c' t h0 h1 hF => t2.2.2 c' t h0 (by rw [← z01]; exact h1) ((hFz c' t).mpr hF)⟩
      rcases s1 with ⟨cc, s, b1, b2, b3⟩ | ⟨b1, b2, b3⟩
      · obtain ⟨ec, es⟩ := hbs.uniq b1
        subst ec es
        rw [b2, b3] at s2
        have o7 : (z2x B g fc fs).1 (B + 541 + 7) i = (a i : Int) := by rw [z2x_ne (by omega)]; exact h7 i hic
        have o7' : (zput (z2x B g fc fs) (B + 541 + 8) (a i) fc).1 (B + 541 + 7) i = (a i : Int) := by rw [zput_ne (by omega), o7]
        have ss : zSame B g (zput (zput (z2x B g fc fs) (B + 541 + 8) (a i) fc) (B + 541 + 9) (a i) fs) := (z2x_same.put (by unfold zScrt; omega)).put (by unfold zScrt; omega)
        obtain ⟨r', g', p1, p2, p3⟩ := ih (i + 1) f' (zput (zput (z2x B g fc fs) (B + 541 + 8) (a i) fc) (B + 541 + 9) (a i) fs) _ (by omega) (by omega) s2 (hm.same ss) (fun j hj => by rw [zput_ne (by omega), zput_ne (by omega), z2x_ne (by omega)]; exact h7 j hj) (by rw [zput_ne (by omega), zput_ne (by omega), z2x_ne (by omega)]; exact h22) (by rw [zput_ne (by omega), zput_ne (by omega), z2x_ne (by omega)]; exact h25) (fun l hl => by
          unfold layC layS
          by_cases e : l = a i
          · subst e
            rw [vpl_5, vpl_6, vpl_7, if_pos ⟨rfl, by rw [awy_0]; decide⟩, if_pos ⟨rfl, by rw [awy_0]; decide⟩, zput_ne (by omega), zput_self, zput_self]
            exact ⟨rfl, rfl⟩
          · rw [vpl_row e, zput_ne (by omega), zput_ne (by omega), zput_ne (by omega), zput_ne (by omega), z2x_ne (by omega), z2x_ne (by omega)]
            exact hr l hl)
        refine ⟨r', g', ?_, ss.tr p2, p3⟩
        rw [z2x_2, e21, o7, z2x_26, zgpos ha16, Int.toNat_natCast, e23]
        simp only [zput_2]
        rw [z2x_2, e21, o7', zgpos ha16, Int.toNat_natCast, e24]
        have o27 : (zput (z2x B g fc fs) (B + 541 + 8) (a i) fc).1 (B + 541) 27 = fs := by rw [zput_ne (by omega), z2x_27]
        rw [o27, zw_s hii]
        exact p1
      · exact absurd hbs.2.1 (b1 fc fs hbs.1.1 hbs.1.2)
theorem e8_findsAll {h : zH} {v w0 u : Nat → Nat → Int} {mask C c : Nat} {a : Nat → Nat} {n : Int} (hm : MV h (B + 541) v) (hk : mask < 65536) (hw0 : WF w0) (hA : Agr v w0) (hC : w0 0 1 = (C : Int)) (hno : ∀ k, k < nCl v → w0 (25 + k) 5 ≠ 1) (hE : Enu (sMk v mask) (fun k => v (25 + k) 2) (nCl v) c a) (hR : Run a c w0 u n) :
    ∃ r' h', q_X8_findsAll h (B + 541) (mask : Int) (C : Int) = some (r', h') ∧ zSame B h h' ∧ ((r' = 1 ∧ n = (c : Int) ∧ ∀ l, l < nCl v → h'.1 (B + 541 + 8) l = layC u 0 l ∧ h'.1 (B + 541 + 9) l = layS u 0 l) ∨ (r' = 0 ∧ n ≠ (c : Int))) := by
  have w := hm.2.1
  have hn := w.nC
  unfold q_X8_findsAll
  simp only [zlet_b]
  have s1 : zSame B h (zput h (B + 541) 25 (C : Int)) := zSame.rf.put (by unfold zScrt; omega)
  have hm1 := hm.same s1
  obtain ⟨g, p1, p2, p3⟩ := m_clearRows (B := B) (i1 := (mask : Int)) (K := fun x5 h6 => zbd (q_X8_orders h6 (B + 541) (mask : Int)) (fun _ h8 => q_X8_findsAll_L40 (B + 541) (fun x14 h15 => some (1, h15)) zF 0 h8)) 16 0 zF (zput h (B + 541) 25 (C : Int)) (by omega) (by unfold zF; omega) hm1.1 (fun l hl => by omega)
  have p1' := p1
  rw [show ((0 : Nat) : Int) = 0 from rfl] at p1'
  rw [p1']
  have hm2 := hm1.same p2.same
  obtain ⟨c', a', h2, k1, k2, k3, k4, k5⟩ := e8_orders hk hm2
  obtain ⟨ec, ea⟩ := hE.uniq k3
  subst ec
  have hR' := hR.congr ea
  rw [k1, zbd_some]
  have hm3 : MVt h2 (B + 541) v (g.1 (B + 541 + 2)) := MVt.same hm2 k2.same
  have hcn : c ≤ nCl v := by rw [hE.2.2.2]; exact nct_le _
  have lay0 : ∀ l, l < nCl v → layC w0 0 l = -1 ∧ layS w0 0 l = -1 := fun l hl => by
    unfold layC layS
    rw [if_neg (fun z => hno l hl z.1), if_neg (fun z => hno l hl z.1)]
    exact ⟨rfl, rfl⟩
  obtain ⟨r', g', o1, o2, o3⟩ := m_findsAll (B := B) w hw0 hA hC k3 hR' c 0 zF h2 w0 (Nat.zero_add _) (by unfold zF; omega) ⟨rfl, rfl⟩ hm3 k4 k5 (by rw [k2.2 _ _ (by omega) (by omega), p2.2 _ _ (by omega) (by omega), zput_self]) (fun l hl => by
    rw [k2.2 _ _ (by omega) (by omega), k2.2 _ _ (by omega) (by omega), (lay0 l hl).1, (lay0 l hl).2]
    exact p3 l (by omega))
  have o1' := o1
  rw [show ((0 : Nat) : Int) = 0 from rfl] at o1'
  exact ⟨r', g', o1', s1.tr (p2.same.tr (k2.same.tr o2)), o3⟩
end OPS
