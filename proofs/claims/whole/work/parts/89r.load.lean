/-! Loading a text. -/
section OPS
variable {B : Nat}
theorem m_copy111 {M : Nat} {h : zH} (hl : mly h.2 M) {k : Int → zH → Option (Int × zH)} : ∀ (r i f : Nat), i + r = 65 → r < f → q_X8_load_L111 M k f (i : Int) (zcpy h (M + 3) (M + 2) i) = k 65 (zcpy h (M + 3) (M + 2) 65) := by
  intro r
  induction r with
  | zero =>
    intro i f h1 hf
    obtain ⟨f', rfl⟩ : ∃ f', f = f' + 1 := ⟨f - 1, by omega⟩
    obtain rfl : i = 65 := by omega
    rw [q_X8_load_L111]
    exact if_pos (by decide)
  | succ r ih =>
    intro i f h1 hf
    obtain ⟨f', rfl⟩ : ∃ f', f = f' + 1 := ⟨f - 1, by omega⟩
    have hi : i < 65 := by omega
    have hn : ¬ (65 : Int) ≤ (i : Int) := by omega
    have e3 : (zcpy h (M + 3) (M + 2) i).2 M 3 = M + 2 := hl 3
    have e4 : (zcpy h (M + 3) (M + 2) i).2 M 4 = M + 3 := hl 4
    rw [q_X8_load_L111, if_neg hn]
    simp only [zlet_b]
    rw [zgpos hi, zgpos hi, Int.toNat_natCast, e3, e4, zcpy_s (by omega), zw_s (by omega)]
    exact ih (i + 1) f' (by omega) (by omega)
theorem e8_copy111 {M : Nat} {h : zH} (hl : mly h.2 M) {k : Int → zH → Option (Int × zH)} : q_X8_load_L111 M k zF 0 h = k 65 (zcpy h (M + 3) (M + 2) 65) := by
  have hF : 65 < zF := by unfold zF; omega
  have := m_copy111 hl (k := k) 65 0 zF (by omega) hF
  have e0 : zcpy h (M + 3) (M + 2) 0 = h := by
    refine Prod.ext ?_ rfl
    funext q j
    exact if_neg (by omega)
  rw [e0] at this
  exact this
theorem zInv.r497 {h : zH} (hI : zInv B h) : h.2 (B + 497) 0 = B + 498 ∧ h.2 (B + 497) 1 = B + 500 ∧ h.2 (B + 498) 1 = B + 498 + 1 := ⟨hI.1 497 (by decide) (by decide) 0, hI.1 497 (by decide) (by decide) 1, hI.1 498 (by decide) (by decide) 1⟩
theorem i_clyR {h : zH} (hI : zInv B h) : cly h.2 (B + 500) := by
  intro o ho j
  have := hI.1 (500 + o) (by omega) (by omega) j
  rw [gO_500 ho] at this
  rw [Nat.add_assoc, this]
  omega
/-- how the reference ends a text -/
def kEnd (M : Nat) : zH → Option (Int × zH) := fun h9 => zlet (zput h9 M 2 0) (fun h12 => if h12.1 M 15 = 0 then (zlet (zput h12 M 17 ((-1))) (fun h21 => if h21.1 M 15 = 0 then (q_X8_load_L111 M (fun _ h23 => zlet (zput h23 M 8 0) (fun h25 => some (h25.1 M 18, h25))) zF 0 h21) else (zbd (q_X8_bringsOld h21 M) (fun _ h26 => some (h26.1 M 15, h26))))) else (zlet (zput h12 M 17 (h12.1 M 16)) (fun h13 => if h13.1 M 15 = 0 then (q_X8_load_L111 M (fun _ h17 => zlet (zput h17 M 8 0) (fun h19 => some (h19.1 M 18, h19))) zF 0 h13) else (zbd (q_X8_bringsOld h13 M) (fun _ h20 => some (h20.1 M 15, h20))))))
theorem e8_load {M : Nat} {h : zH} (hl : mly h.2 M) {n : Nat} (hn : (n : Int) ≤ h.1 M 2) : q_X8_load h M (n : Int) = RfC M (zcpy (zput h M 0 0) (M + 4) (M + 5) 597) (n : Int) (kEnd M) := by
  have h2 : (n : Int) ≤ (zput h M 0 0).1 M 2 := by rw [zput_ne (by omega)]; exact hn
  have hz : ¬ (n : Int) < 0 := by omega
  unfold q_X8_load
  rw [zlet_b, if_neg hz, if_pos h2, e8_keeps (h := zput h M 0 0) hl, zbd_some]
  rfl
theorem m_loads {h : zH} (hI : zInv B h) {n : Nat} (hn : (n : Int) ≤ h.1 (B + 498) 0) :
    ∃ (h' : zH) (j : Nat), q_X2_readText h (B + 497) (n : Int) = some (if h'.1 (B + 497) 3 = 0 then (j : Int) else h'.1 (B + 497) 3, zput h' (B + 498) 0 0) ∧ FcL B h h' ∧
      ∀ y : zH, mly y.2 (B + 541) → (∀ i, i < n → y.1 (B + 541 + 1) i = zand (h.1 (B + 498 + 1) i) 255) → ∀ kk, ∃ g', RfC (B + 541) y (n : Int) kk = kk g' ∧ LB B (fun i => zand (h.1 (B + 498 + 1) i) 255) n h' g' ∧ FrL B y g' ∧ g'.1 (B + 541) 18 = (j : Int) := by
  obtain ⟨r0, r1, rt⟩ := hI.r497
  obtain ⟨⟨e1, e2⟩, e3, e4⟩ := hI.2.2.2.2.2.1
  have hn1 : n ≤ 1000 := by omega
  have hb : ∀ i, i < n → h.1 (B + 541 + 1) i = zand (h.1 (B + 498 + 1) i) 255 := fun i hi => e4 i (by omega)
  obtain ⟨h', g', j, c1, c2, c3, c4, c5, c6⟩ := m_reads (y := h) (kk := fun x => some (0, x)) r0 r1 rt (i_clyR hI) hn hn1 hI.mly hb
  have r0' : h'.2 (B + 497) 0 = B + 498 := by rw [c4.1]; exact r0
  refine ⟨h', j, ?_, c4, fun y hy hyb kk => ?_⟩
  · have : q_X2_readText h (B + 497) (n : Int) = RdC (B + 497) h (n : Int) (fun x24 h25 => zlet (zput h25 (h25.2 (B + 497) 0) 0 0) (fun h27 => if h27.1 (B + 497) 3 = 0 then (some (x24, h27)) else (some (h27.1 (B + 497) 3, h27)))) := by
      unfold q_X2_readText RdC
      rfl
    rw [this, c1]
    simp only [zlet_b]
    rw [r0', zput_ne (by omega)]
    by_cases z : h'.1 (B + 497) 3 = 0
    · rw [if_pos z, if_pos z]
    · rw [if_neg z, if_neg z]
  · obtain ⟨h2, g2, j2, d1, d2, d3, d4, d5, d6⟩ := m_reads (y := y) (kk := kk) r0 r1 rt (i_clyR hI) hn hn1 hy hyb
    have e := (c1 (fun x s => some (x, s))).symm.trans (d1 (fun x s => some (x, s)))
    have e' := Prod.mk.inj (Option.some.inj e)
    have ej : j = j2 := by have := e'.1; omega
    have eh : h' = h2 := e'.2
    subst ej eh
    exact ⟨g2, d2, d3, d5, d6⟩
theorem op_1 : zI_1 (zInv B) B (B + 541) (B + 552) := by
  intro h hI hG a1 r1
  have s1 : zSame B h (zput h (B + 541) 0 0) := zSame.rf.put sM0
  obtain ⟨r0, rr, rt⟩ := hI.r497
  obtain ⟨⟨e1, e2⟩, e3, e4⟩ := hI.2.2.2.2.2.1
  have hm2 : (zput h (B + 541) 0 0).1 (B + 541) 2 = h.1 (B + 498) 0 := by rw [zput_ne (by omega)]; exact e3
  have refuse : (a1 < 0 ∨ ¬ a1 ≤ h.1 (B + 498) 0) → ∃ h2, zO_1 h B (B + 541) a1 h2 ∧ zInv B h2 := fun hx => by
    refine ⟨zput h (B + 541) 0 0, ⟨-2, h, ?_, ?_⟩, hI.same s1⟩
    · unfold q_X7_load
      rw [hI.r4, r0]
      by_cases z : a1 < 0
      · rw [if_pos z]
      · rw [if_neg z, if_neg (by omega)]
    · unfold q_X8_load
      rw [zlet_b, hm2]
      by_cases z : a1 < 0
      · rw [if_pos z]
      · rw [if_neg z, if_neg (by omega)]
  by_cases hx : a1 < 0 ∨ ¬ a1 ≤ h.1 (B + 498) 0
  · exact refuse hx
  clear refuse
  obtain ⟨n, rfl⟩ : ∃ n : Nat, a1 = (n : Int) := ⟨a1.toNat, by omega⟩
  have hn : (n : Int) ≤ h.1 (B + 498) 0 := by omega
  have hn0 : ¬ (n : Int) < 0 := by omega
  obtain ⟨h', j, c1, c2, c3⟩ := m_loads hI hn
  have k2 : (zput h' (B + 498) 0 0).2 = h.2 := c2.1
  have cls : q_X7_load h B (n : Int) = (if (if h'.1 (B + 497) 3 = 0 then (j : Int) else h'.1 (B + 497) 3) < 0 then some ((if h'.1 (B + 497) 3 = 0 then (j : Int) else h'.1 (B + 497) 3), zput h' (B + 498) 0 0) else zbd (q_X4_copyFrom (zput h' (B + 498) 0 0) (B + 1) (B + 500)) (fun _ h3 => some ((if h'.1 (B + 497) 3 = 0 then (j : Int) else h'.1 (B + 497) 3), zput h3 (h3.2 B 3) 0 0))) := by
    unfold q_X7_load
    rw [if_neg hn0, hI.r4, r0, if_pos hn, c1, zbd_some, k2, hI.r0, hI.r4, rr]
    rfl
  have hb : ∀ i, i < n → h.1 (B + 541 + 1) i = zand (h.1 (B + 498 + 1) i) 255 := fun i hi => e4 i (by omega)
  -- the reference, after the class
  have ref : ∀ h1 : zH, h1.2 = h.2 → h1.1 (B + 541) 2 = h.1 (B + 541) 2 → h1.1 (B + 541 + 1) = h.1 (B + 541 + 1) → ∃ g', q_X8_load h1 (B + 541) (n : Int) = kEnd (B + 541) g' ∧ LB B (fun i => zand (h.1 (B + 498 + 1) i) 255) n h' g' ∧ FrL B (zcpy (zput h1 (B + 541) 0 0) (B + 541 + 4) (B + 541 + 5) 597) g' ∧ g'.1 (B + 541) 18 = (j : Int) := fun h1 q1 q2 q3 => by
    have hl1 : mly h1.2 (B + 541) := by rw [q1]; exact hI.mly
    obtain ⟨g', d1, d2, d3, d4⟩ := c3 (zcpy (zput h1 (B + 541) 0 0) (B + 541 + 4) (B + 541 + 5) 597) hl1 (fun i hi => by
      rw [zcpy_ne (by omega), zput_ne (by omega), q3]
      exact hb i hi) (kEnd (B + 541))
    exact ⟨g', by rw [e8_load hl1 (by rw [q2, e3]; exact hn), d1], d2, d3, d4⟩
  by_cases z : h'.1 (B + 497) 3 = 0
  · -- the text is taken
    have hj0 : ¬ (j : Int) < 0 := by omega
    rw [if_pos z, if_neg hj0] at cls
    have vK : vw (zput h' (B + 498) 0 0).1 (B + 500) = vw h'.1 (B + 500) := vw_ext fun o ho i => zput_ne (by omega)
    obtain ⟨gA, qA1, qA2, qA3, qA4⟩ := ref h rfl rfl rfl
    have hgd := (qA2.2 z).1
    have hcl1 : cly (zput h' (B + 498) 0 0).2 (B + 1) := by rw [k2]; exact hI.cly
    have hcv : CV (zput h' (B + 498) 0 0) (B + 500) := ⟨by rw [k2]; exact (i_clyR hI), by rw [vK]; exact hgd.1⟩
    obtain ⟨h3, p1, p2, p3⟩ := e4_copy hcl1 hcv (by unfold Apt; omega)
    rw [vK] at p2
    clear qA1 qA2 qA3 qA4 gA
    have r3 : h3.2 = h.2 := p3.1.trans k2
    rw [p1, zbd_some, r3, hI.r3] at cls
    have g85 : (zput h3 (B + 85) 0 0).1 (B + 541) 2 = h.1 (B + 541) 2 := by rw [zput_ne (by omega), p3.2 _ _ (by omega), zput_ne (by omega), c2.2 _ _ (by omega) (by omega) (by omega)]
    have g1r : (zput h3 (B + 85) 0 0).1 (B + 541 + 1) = h.1 (B + 541 + 1) := funext fun i => by rw [zput_ne (by omega), p3.2 _ _ (by omega), zput_ne (by omega), c2.2 _ _ (by omega) (by omega) (by omega)]
    obtain ⟨g', q1, q2, q3, q4⟩ := ref (zput h3 (B + 85) 0 0) r3 g85 g1r
    have hl' : mly g'.2 (B + 541) := q2.1.1.2.2.2.2.2.2
    have J0 := q2.1.mode z
    have i15 := J0.2.1
    have hlx : mly (zput (zput g' (B + 541) 2 0) (B + 541) 17 (-1)).2 (B + 541) := hl'
    have fin : kEnd (B + 541) g' = some ((j : Int), zput (zcpy (zput (zput g' (B + 541) 2 0) (B + 541) 17 (-1)) (B + 541 + 3) (B + 541 + 2) 65) (B + 541) 8 0) := by
      unfold kEnd
      simp only [zlet_b]
      have a15 : (zput g' (B + 541) 2 0).1 (B + 541) 15 = 0 := by rw [zput_ne (by omega)]; exact i15
      have b15 : (zput (zput g' (B + 541) 2 0) (B + 541) 17 (-1)).1 (B + 541) 15 = 0 := by rw [zput_ne (by omega)]; exact a15
      rw [if_pos a15, if_pos b15, e8_copy111 hlx, zput_ne (by omega), zcpy_ne (by omega), zput_ne (by omega), zput_ne (by omega), q4]
    refine ⟨_, ⟨(j : Int), zput h3 (B + 85) 0 0, cls, q1.trans fin⟩, ?_⟩
    generalize hz : zput (zcpy (zput (zput g' (B + 541) 2 0) (B + 541) 17 (-1)) (B + 541 + 3) (B + 541 + 2) 65) (B + 541) 8 0 = h2
    have z2 : h2.2 = h.2 := by
      rw [← hz]
      show g'.2 = h.2
      rw [q3.1]
      exact r3
    have zo : ∀ q i, ¬ (q = B + 541 ∧ (i = 0 ∨ i = 2 ∨ 8 ≤ i)) → ¬ (B + 541 + 2 ≤ q ∧ q ≤ B + 541 + 5) → ¬ (B + 541 + 7 ≤ q ∧ q ≤ B + 541 + 9) → h2.1 q i = (zput h3 (B + 85) 0 0).1 q i := fun q i y1 y2 y3 => by
      rw [← hz, zput_ne (by omega), zcpy_ne (by omega), zput_ne (by omega), zput_ne (by omega), q3.2 _ _ (by omega) (by omega) (by omega) (by omega), zcpy_ne (by omega), zput_ne (by omega)]
    have h85 : h2.1 (B + 85) 0 = 0 := by rw [zo _ _ (by omega) (by omega) (by omega), zput_self]
    have h8 : h2.1 (B + 541) 8 = 0 := by rw [← hz, zput_self]
    have h17 : h2.1 (B + 541) 17 = -1 := by rw [← hz, zput_ne (by omega), zcpy_ne (by omega), zput_self]
    have h2M : h2.1 (B + 541) 2 = 0 := by rw [← hz, zput_ne (by omega), zcpy_ne (by omega), zput_ne (by omega), zput_self]
    have hK0 : h2.1 (B + 498) 0 = 0 := by rw [zo _ _ (by omega) (by omega) (by omega), zput_ne (by omega), p3.2 _ _ (by omega), zput_self]
    have hL2 : h2.1 (B + 497) 2 = -1 := by rw [zo _ _ (by omega) (by omega) (by omega), zput_ne (by omega), p3.2 _ _ (by omega), zput_ne (by omega)]; exact J0.2.2.1
    have hv : vw h2.1 (B + 1) = vw h3.1 (B + 1) := vw_ext fun o ho i => by rw [zo _ _ (by omega) (by omega) (by omega), zput_ne (by omega)]
    have hr4 : h2.1 (B + 541 + 4) = g'.1 (B + 541 + 4) := funext fun i => by rw [← hz, zput_ne (by omega), zcpy_ne (by omega), zput_ne (by omega), zput_ne (by omega)]
    have hr2 : ∀ i, i < 65 → h2.1 (B + 541 + 2) i = g'.1 (B + 541 + 3) i := fun i hi => by rw [← hz, zput_ne (by omega), zcpy_at hi, zput_ne (by omega), zput_ne (by omega)]
    have gd3 : Good (vw h3.1 (B + 1)) := p2.good hgd
    have mr3 : MR (vw h3.1 (B + 1)) (g'.1 (B + 541 + 4)) (g'.1 (B + 541 + 3)) := p2.mr J0.2.2.2.2.1.1.2.2
    refine zInv.mk' (by rw [z2]; exact hI.1) ?_ (fun i hi => by rw [h85] at hi; omega) ⟨by rw [h85]; omega, by rw [h8, h85]⟩ (by rw [hv]; exact gd3) ?_ ⟨by rw [hK0]; omega, by rw [h2M, hK0], fun i hi => by rw [hK0] at hi; omega⟩ (by rw [hL2, h17])
    · obtain ⟨σ, b1, b2, b3⟩ := hI.prm
      exact ⟨σ, b1, b2, by rw [z2]; exact b3⟩
    · rw [hv, hr4]
      exact MR.extT gd3.1 mr3 hr2
  · -- an error: all stands as it stood
    obtain ⟨g', q1, q2, q3, q4⟩ := ref (zput h' (B + 498) 0 0) k2 (by rw [zput_ne (by omega), c2.2 _ _ (by omega) (by omega) (by omega)]) (funext fun i => by rw [zput_ne (by omega), c2.2 _ _ (by omega) (by omega) (by omega)])
    obtain ⟨e, ee0, ee1, ee2, ee3⟩ := q2.1.err z
    have hneg : h'.1 (B + 497) 3 < 0 := by omega
    rw [if_neg z, if_pos hneg] at cls
    have hl' : mly g'.2 (B + 541) := q2.1.1.2.2.2.2.2.2
    have i15 : ¬ g'.1 (B + 541) 15 = 0 := by omega
    have hlx : mly (zput (zput g' (B + 541) 2 0) (B + 541) 17 (g'.1 (B + 541) 16)).2 (B + 541) := hl'
    have fin : kEnd (B + 541) g' = some (h'.1 (B + 497) 3, zcpy (zput (zput g' (B + 541) 2 0) (B + 541) 17 (g'.1 (B + 541) 16)) (B + 541 + 5) (B + 541 + 4) 597) := by
      unfold kEnd
      simp only [zlet_b]
      have a15 : ¬ (zput g' (B + 541) 2 0).1 (B + 541) 15 = 0 := by rw [zput_ne (by omega)]; exact i15
      have a16 : (zput g' (B + 541) 2 0).1 (B + 541) 16 = g'.1 (B + 541) 16 := by rw [zput_ne (by omega)]
      have b15 : ¬ (zput (zput g' (B + 541) 2 0) (B + 541) 17 (g'.1 (B + 541) 16)).1 (B + 541) 15 = 0 := by rw [zput_ne (by omega)]; exact a15
      rw [if_neg a15, a16, if_neg b15, e8_brings hlx, zbd_some, zcpy_ne (by omega), zput_ne (by omega), zput_ne (by omega), ee1, ee2]
    refine ⟨_, ⟨h'.1 (B + 497) 3, zput h' (B + 498) 0 0, cls, q1.trans fin⟩, ?_⟩
    generalize hz : zcpy (zput (zput g' (B + 541) 2 0) (B + 541) 17 (g'.1 (B + 541) 16)) (B + 541 + 5) (B + 541 + 4) 597 = h2
    have z2 : h2.2 = h.2 := by
      rw [← hz]
      show g'.2 = h.2
      rw [q3.1]
      exact k2
    have zo : ∀ q i, ¬ (q = B + 541 ∧ (i = 0 ∨ i = 2 ∨ 9 ≤ i)) → ¬ (B + 541 + 3 ≤ q ∧ q ≤ B + 541 + 5) → ¬ (B + 541 + 7 ≤ q ∧ q ≤ B + 541 + 9) → h2.1 q i = (zput h' (B + 498) 0 0).1 q i := fun q i y1 y2 y3 => by
      rw [← hz, zcpy_ne (by omega), zput_ne (by omega), zput_ne (by omega), q3.2 _ _ (by omega) (by omega) (by omega) (by omega), zcpy_ne (by omega), zput_ne (by omega)]
    have zh : ∀ q i, ¬ (q = B + 541 ∧ (i = 0 ∨ i = 2 ∨ 9 ≤ i)) → ¬ (B + 541 + 3 ≤ q ∧ q ≤ B + 541 + 5) → ¬ (B + 541 + 7 ≤ q ∧ q ≤ B + 541 + 9) → ¬ (B + 497 ≤ q ∧ q ≤ B + 498) → ¬ (B + 500 ≤ q ∧ q < B + 541) → h2.1 q i = h.1 q i := fun q i y1 y2 y3 y4 y5 => by
      rw [zo q i y1 y2 y3, zput_ne (by omega), c2.2 _ _ (by omega) (by omega) (by omega)]
    have h85 : h2.1 (B + 85) 0 = h.1 (B + 85) 0 := zh _ _ (by omega) (by omega) (by omega) (by omega) (by omega)
    have h8 : h2.1 (B + 541) 8 = h.1 (B + 541) 8 := zh _ _ (by omega) (by omega) (by omega) (by omega) (by omega)
    have h17 : h2.1 (B + 541) 17 = g'.1 (B + 541) 16 := by rw [← hz, zcpy_ne (by omega), zput_self]
    have h2M : h2.1 (B + 541) 2 = 0 := by rw [← hz, zcpy_ne (by omega), zput_ne (by omega), zput_self]
    have hK0 : h2.1 (B + 498) 0 = 0 := by rw [zo _ _ (by omega) (by omega) (by omega), zput_self]
    have hL2 : h2.1 (B + 497) 2 = h'.1 (B + 497) 2 := by rw [zo _ _ (by omega) (by omega) (by omega), zput_ne (by omega)]
    have hv : vw h2.1 (B + 1) = vw h.1 (B + 1) := vw_ext fun o ho i => zh _ _ (by omega) (by omega) (by omega) (by omega) (by omega)
    have hr2 : h2.1 (B + 541 + 2) = h.1 (B + 541 + 2) := funext fun i => zh _ _ (by omega) (by omega) (by omega) (by omega) (by omega)
    have hr6 : h2.1 (B + 541 + 6) = h.1 (B + 541 + 6) := funext fun i => zh _ _ (by omega) (by omega) (by omega) (by omega) (by omega)
    have hr4 : ∀ i, i < 597 → h2.1 (B + 541 + 4) i = h.1 (B + 541 + 4) i := fun i hi => by
      rw [← hz, zcpy_at hi, zput_ne (by omega), zput_ne (by omega), q3.2 _ _ (by omega) (by omega) (by omega) (by omega), zcpy_at hi, zput_ne (by omega), zput_ne (by omega), c2.2 _ _ (by omega) (by omega) (by omega)]
    refine zInv.mk' (by rw [z2]; exact hI.1) ?_ (fun i hi => ?_) ⟨by rw [h85]; exact hI.2.2.1.1, by rw [h8, h85]; exact hI.2.2.1.2⟩ (by rw [hv]; exact hI.2.2.2.1) ?_ ⟨by rw [hK0]; omega, by rw [h2M, hK0], fun i hi => by rw [hK0] at hi; omega⟩ (by rw [hL2, h17, ee3])
    · obtain ⟨σ, b1, b2, b3⟩ := hI.prm
      exact ⟨σ, b1, b2, by rw [z2]; exact b3⟩
    · rw [h85] at hi
      obtain ⟨σ, b1, b2, b3⟩ := hI.prm
      have hi10 : i < 10 := by
        have := hI.2.2.1.1
        omega
      have hs := b1 i hi10
      have ev : HV B h2 i = HV B h i := by
        unfold HV
        rw [z2, b3 i hi10]
        exact vw_ext fun o ho jj => zh _ _ (by omega) (by omega) (by omega) (by omega) (by omega)
      rw [ev, hr6, hr2]
      exact hI.hv hi
    · rw [hv, hr2]
      exact MR.ext hI.wf hI.2.2.2.2.1 hr4
end OPS
