/-! Looks at calls, stations and carriers. -/
theorem e8_thr {h : zH} {M : Nat} : q_X8_thrown h M = some (h.1 M 0) := rfl
theorem zput_self {h : zH} {a j : Nat} {x : Int} : (zput h a j x).1 a j = x := by rw [zput_1, if_pos ⟨rfl, rfl⟩]
theorem look1 {B : Nat} {h : zH} (hI : zInv B h) {q7 : Option Int} {q8 : zH → Option (Int × zH)} {bad : Prop} {val : Int}
    (good : ¬ bad → q7 = some val ∧ ∀ h', zSame B h h' → ∃ h2, q8 h' = some (val, h2) ∧ zSame B h' h2 ∧ h2.1 (B + 541) 0 = 0 ∧ h2.1 (B + 552) 0 = h'.1 (B + 552) 0)
    (hbad : bad → ∃ r, q8 h = some (r, zput h (B + 541) 0 1)) :
    ∃ h2, ((∃ v, q7 = some v ∧ q8 (zput h (B + 552) 0 v) = some (v, h2) ∧ q_X8_thrown h2 (B + 541) = some 0 ∧ h2.1 (B + 552) 0 = v) ∨ (bad ∧ ∃ v, q8 h = some (v, h2) ∧ q_X8_thrown h2 (B + 541) = some 1)) ∧ zInv B h2 := by
  by_cases hb : bad
  · obtain ⟨r, hr⟩ := hbad hb
    exact ⟨_, Or.inr ⟨hb, r, hr, by rw [e8_thr, zput_self]⟩, hI.same (zSame.rf.put sM0)⟩
  · obtain ⟨g1, g2⟩ := good hb
    have s1 : zSame B h (zput h (B + 552) 0 val) := zSame.rf.put sO
    obtain ⟨h2, k1, k2, k3, k4⟩ := g2 _ s1
    exact ⟨h2, Or.inl ⟨val, g1, k1, by rw [e8_thr, k3], by rw [k4, zput_self]⟩, hI.same (s1.tr k2)⟩
theorem look2 {B : Nat} {h : zH} (hI : zInv B h) {q7 : Option (Int × zH)} {q8 : zH → Option (Int × zH)} {bad : Prop} {val : Int}
    (good : ¬ bad → (∃ h1, q7 = some (val, h1) ∧ zSame B h h1) ∧ ∀ h', zSame B h h' → ∃ h2, q8 h' = some (val, h2) ∧ zSame B h' h2 ∧ h2.1 (B + 541) 0 = 0 ∧ h2.1 (B + 552) 0 = h'.1 (B + 552) 0)
    (hbad : bad → ∃ r, q8 h = some (r, zput h (B + 541) 0 1)) :
    ∃ h2, ((∃ v h1, q7 = some (v, h1) ∧ q8 (zput h1 (B + 552) 0 v) = some (v, h2) ∧ q_X8_thrown h2 (B + 541) = some 0 ∧ h2.1 (B + 552) 0 = v) ∨ (bad ∧ ∃ v, q8 h = some (v, h2) ∧ q_X8_thrown h2 (B + 541) = some 1)) ∧ zInv B h2 := by
  by_cases hb : bad
  · obtain ⟨r, hr⟩ := hbad hb
    exact ⟨_, Or.inr ⟨hb, r, hr, by rw [e8_thr, zput_self]⟩, hI.same (zSame.rf.put sM0)⟩
  · obtain ⟨⟨h1, g1, g3⟩, g2⟩ := good hb
    have s1 : zSame B h (zput h1 (B + 552) 0 val) := g3.put sO
    obtain ⟨h2, k1, k2, k3, k4⟩ := g2 _ s1
    exact ⟨h2, Or.inl ⟨val, h1, g1, k1, by rw [e8_thr, k3], by rw [k4, zput_self]⟩, hI.same (s1.tr k2)⟩
section LK
variable {B : Nat} {h : zH} {v : Nat → Nat → Int}
theorem zO_ne {x : Int} : (zput h (B + 541) 0 x).1 (B + 552) 0 = h.1 (B + 552) 0 := zput_ne (by omega)
theorem m_call {α : Type} (hm : MV h (B + 541) v) {x : Int} {k : Int → zH → Option α} : zbp (q_X8_isCall h (B + 541) x) (fun x1 => zbd (q_X8_checks h (B + 541) x1) k) = if 0 ≤ x ∧ x < v 0 7 then k 1 (zput h (B + 541) 0 0) else k 0 (zput h (B + 541) 0 1) := by
  rw [e8_isCall hm, zbp_some]
  by_cases hx : 0 ≤ x ∧ x < v 0 7
  · rw [if_pos hx, if_pos hx, e8_checks (Or.inr rfl), zbd_some, if_neg (by decide)]
  · rw [if_neg hx, if_neg hx, e8_checks (Or.inl rfl), zbd_some, if_pos rfl]
theorem m_station {α : Type} (hm : MV h (B + 541) v) {x : Int} {k : Int → zH → Option α} : zbp (q_X8_isStation h (B + 541) x) (fun x1 => zbd (q_X8_checks h (B + 541) x1) k) = if 0 ≤ x ∧ x < v 0 3 then k 1 (zput h (B + 541) 0 0) else k 0 (zput h (B + 541) 0 1) := by
  rw [e8_isStation hm, zbp_some]
  by_cases hx : 0 ≤ x ∧ x < v 0 3
  · rw [if_pos hx, if_pos hx, e8_checks (Or.inr rfl), zbd_some, if_neg (by decide)]
  · rw [if_neg hx, if_neg hx, e8_checks (Or.inl rfl), zbd_some, if_pos rfl]
theorem m_carrier {α : Type} (hm : MV h (B + 541) v) {x : Int} {k : Int → zH → Option α} : zbp (q_X8_isCarrier h (B + 541) x) (fun x1 => zbd (q_X8_checks h (B + 541) x1) k) = if 0 ≤ x ∧ x < v 0 1 then k 1 (zput h (B + 541) 0 0) else k 0 (zput h (B + 541) 0 1) := by
  rw [e8_isCarrier hm, zbp_some]
  by_cases hx : 0 ≤ x ∧ x < v 0 1
  · rw [if_pos hx, if_pos hx, e8_checks (Or.inr rfl), zbd_some, if_neg (by decide)]
  · rw [if_neg hx, if_neg hx, e8_checks (Or.inl rfl), zbd_some, if_pos rfl]
theorem MV.p0 {x : Int} (hm : MV h (B + 541) v) : MV (zput h (B + 541) 0 x) (B + 541) v := hm.same (zSame.rf.put sM0)
/-- the check of a call, in the class -/
theorem b_call (hI : zInv B h) {x : Int} : (¬ (0 ≤ x ∧ x ≤ zw (h.1 (h.2 B 0) 7 - 1))) ↔ ¬ (0 ≤ x ∧ x < vw h.1 (B + 1) 0 7) := by
  have hw := hI.wf.2.2.2.2.1
  rw [vc0] at hw ⊢
  rw [hI.r0, zw_id ⟨by omega, by omega⟩]
  omega
theorem b_station (hI : zInv B h) {x : Int} : (¬ (0 ≤ x ∧ x ≤ zw (h.1 (h.2 B 0) 3 - 1))) ↔ ¬ (0 ≤ x ∧ x < vw h.1 (B + 1) 0 3) := by
  have hw := hI.wf.2.2.1
  rw [vc0] at hw ⊢
  rw [hI.r0, zw_id ⟨by omega, by omega⟩]
  omega
theorem b_carrier (hI : zInv B h) {x : Int} : (¬ (0 ≤ x ∧ x ≤ zw (h.1 (h.2 B 0) 1 - 1))) ↔ ¬ (0 ≤ x ∧ x < vw h.1 (B + 1) 0 1) := by
  have hw := hI.wf.2.1
  rw [vc0] at hw ⊢
  rw [hI.r0, zw_id ⟨by omega, by omega⟩]
  omega
/-- a look at a call -/
theorem lk_call (hI : zInv B h) {x : Int} {q7 : Option Int} {q8 : zH → Option (Int × zH)} {k : zH → Int → zH → Option (Int × zH)} (val : Nat → Int)
    (e8 : ∀ h', q8 h' = zbp (q_X8_isCall h' (B + 541) x) (fun x1 => zbd (q_X8_checks h' (B + 541) x1) (k h')))
    (k0 : ∀ h' h2, k h' 0 h2 = some (0, h2))
    (g7 : ∀ n : Nat, x = (n : Int) → (n : Int) < vw h.1 (B + 1) 0 7 → q7 = some (val n))
    (g8 : ∀ (n : Nat) (h' h2 : zH), x = (n : Int) → (n : Int) < vw h.1 (B + 1) 0 7 → zSame B h h2 → MV h2 (B + 541) (vw h.1 (B + 1)) → h2.1 (B + 541) 0 = 0 → ∃ h3, k h' 1 h2 = some (val n, h3) ∧ zSame B h2 h3 ∧ h3.1 (B + 541) 0 = 0 ∧ h3.1 (B + 552) 0 = h2.1 (B + 552) 0) :
    ∃ h2, ((∃ v, q7 = some v ∧ q8 (zput h (B + 552) 0 v) = some (v, h2) ∧ q_X8_thrown h2 (B + 541) = some 0 ∧ h2.1 (B + 552) 0 = v) ∨ (¬ (0 ≤ x ∧ x ≤ zw (h.1 (h.2 B 0) 7 - 1)) ∧ ∃ v, q8 h = some (v, h2) ∧ q_X8_thrown h2 (B + 541) = some 1)) ∧ zInv B h2 := by
  refine look1 (val := val x.toNat) hI (fun hg => ?_) (fun hb => ?_)
  · have hg' : 0 ≤ x ∧ x < vw h.1 (B + 1) 0 7 := Classical.not_not.mp (fun z => hg ((b_call hI).mpr z))
    have hx : x = (x.toNat : Int) := by omega
    refine ⟨g7 _ hx (by omega), fun h' hs => ?_⟩
    have hm' := hI.mv.same hs
    rw [e8, m_call hm', if_pos hg']
    have hs2 : zSame B h' (zput h' (B + 541) 0 0) := zSame.rf.put sM0
    obtain ⟨h3, p1, p2, p3, p4⟩ := g8 x.toNat h' (zput h' (B + 541) 0 0) hx (by omega) (hs.tr hs2) hm'.p0 zput_self
    exact ⟨h3, p1, hs2.tr p2, p3, p4.trans zO_ne⟩
  · rw [e8, m_call hI.mv, if_neg ((b_call hI).mp hb), k0]
    exact ⟨0, rfl⟩
theorem lk_station (hI : zInv B h) {x : Int} {q7 : Option Int} {q8 : zH → Option (Int × zH)} {k : zH → Int → zH → Option (Int × zH)} (val : Nat → Int)
    (e8 : ∀ h', q8 h' = zbp (q_X8_isStation h' (B + 541) x) (fun x1 => zbd (q_X8_checks h' (B + 541) x1) (k h')))
    (k0 : ∀ h' h2, k h' 0 h2 = some (0, h2))
    (g7 : ∀ n : Nat, x = (n : Int) → (n : Int) < vw h.1 (B + 1) 0 3 → q7 = some (val n))
    (g8 : ∀ (n : Nat) (h' h2 : zH), x = (n : Int) → (n : Int) < vw h.1 (B + 1) 0 3 → zSame B h h2 → MV h2 (B + 541) (vw h.1 (B + 1)) → h2.1 (B + 541) 0 = 0 → ∃ h3, k h' 1 h2 = some (val n, h3) ∧ zSame B h2 h3 ∧ h3.1 (B + 541) 0 = 0 ∧ h3.1 (B + 552) 0 = h2.1 (B + 552) 0) :
    ∃ h2, ((∃ v, q7 = some v ∧ q8 (zput h (B + 552) 0 v) = some (v, h2) ∧ q_X8_thrown h2 (B + 541) = some 0 ∧ h2.1 (B + 552) 0 = v) ∨ (¬ (0 ≤ x ∧ x ≤ zw (h.1 (h.2 B 0) 3 - 1)) ∧ ∃ v, q8 h = some (v, h2) ∧ q_X8_thrown h2 (B + 541) = some 1)) ∧ zInv B h2 := by
  refine look1 (val := val x.toNat) hI (fun hg => ?_) (fun hb => ?_)
  · have hg' : 0 ≤ x ∧ x < vw h.1 (B + 1) 0 3 := Classical.not_not.mp (fun z => hg ((b_station hI).mpr z))
    have hx : x = (x.toNat : Int) := by omega
    refine ⟨g7 _ hx (by omega), fun h' hs => ?_⟩
    have hm' := hI.mv.same hs
    rw [e8, m_station hm', if_pos hg']
    have hs2 : zSame B h' (zput h' (B + 541) 0 0) := zSame.rf.put sM0
    obtain ⟨h3, p1, p2, p3, p4⟩ := g8 x.toNat h' (zput h' (B + 541) 0 0) hx (by omega) (hs.tr hs2) hm'.p0 zput_self
    exact ⟨h3, p1, hs2.tr p2, p3, p4.trans zO_ne⟩
  · rw [e8, m_station hI.mv, if_neg ((b_station hI).mp hb), k0]
    exact ⟨0, rfl⟩
theorem lk_carrier (hI : zInv B h) {x : Int} {q7 : Option Int} {q8 : zH → Option (Int × zH)} {k : zH → Int → zH → Option (Int × zH)} (val : Nat → Int)
    (e8 : ∀ h', q8 h' = zbp (q_X8_isCarrier h' (B + 541) x) (fun x1 => zbd (q_X8_checks h' (B + 541) x1) (k h')))
    (k0 : ∀ h' h2, k h' 0 h2 = some (0, h2))
    (g7 : ∀ n : Nat, x = (n : Int) → (n : Int) < vw h.1 (B + 1) 0 1 → q7 = some (val n))
    (g8 : ∀ (n : Nat) (h' h2 : zH), x = (n : Int) → (n : Int) < vw h.1 (B + 1) 0 1 → zSame B h h2 → MV h2 (B + 541) (vw h.1 (B + 1)) → h2.1 (B + 541) 0 = 0 → ∃ h3, k h' 1 h2 = some (val n, h3) ∧ zSame B h2 h3 ∧ h3.1 (B + 541) 0 = 0 ∧ h3.1 (B + 552) 0 = h2.1 (B + 552) 0) :
    ∃ h2, ((∃ v, q7 = some v ∧ q8 (zput h (B + 552) 0 v) = some (v, h2) ∧ q_X8_thrown h2 (B + 541) = some 0 ∧ h2.1 (B + 552) 0 = v) ∨ (¬ (0 ≤ x ∧ x ≤ zw (h.1 (h.2 B 0) 1 - 1)) ∧ ∃ v, q8 h = some (v, h2) ∧ q_X8_thrown h2 (B + 541) = some 1)) ∧ zInv B h2 := by
  refine look1 (val := val x.toNat) hI (fun hg => ?_) (fun hb => ?_)
  · have hg' : 0 ≤ x ∧ x < vw h.1 (B + 1) 0 1 := Classical.not_not.mp (fun z => hg ((b_carrier hI).mpr z))
    have hx : x = (x.toNat : Int) := by omega
    refine ⟨g7 _ hx (by omega), fun h' hs => ?_⟩
    have hm' := hI.mv.same hs
    rw [e8, m_carrier hm', if_pos hg']
    have hs2 : zSame B h' (zput h' (B + 541) 0 0) := zSame.rf.put sM0
    obtain ⟨h3, p1, p2, p3, p4⟩ := g8 x.toNat h' (zput h' (B + 541) 0 0) hx (by omega) (hs.tr hs2) hm'.p0 zput_self
    exact ⟨h3, p1, hs2.tr p2, p3, p4.trans zO_ne⟩
  · rw [e8, m_carrier hI.mv, if_neg ((b_carrier hI).mp hb), k0]
    exact ⟨0, rfl⟩
theorem vcl {k j : Nat} (hk : k < 16) : vw h.1 (B + 1) (25 + k) j = h.1 (B + 1 + (25 + k)) j := vw_at (by omega)
theorem vst {s j : Nat} (hs : s < 6) : vw h.1 (B + 1) (5 + 2 * s) j = h.1 (B + 1 + (5 + 2 * s)) j := vw_at (by omega)
theorem ver {s j : Nat} (hs : s < 6) : vw h.1 (B + 1) (6 + 2 * s) j = h.1 (B + 1 + (6 + 2 * s)) j := vw_at (by omega)
theorem vrn {r j : Nat} (hr : r < 8) : vw h.1 (B + 1) (17 + r) j = h.1 (B + 1 + (17 + r)) j := vw_at (by omega)
theorem vse (j : Nat) : vw h.1 (B + 1) 1 j = h.1 (B + 1 + 1) j := vw_at (by decide)
/-- the reference's number of a call -/
theorem m_of {T : Nat → Int} (hm : MVt h (B + 541) v T) {n : Nat} (hn : (n : Int) < v 0 7) {j : Nat} (hj : j < 12) : q_X8_of h (B + 541) (n : Int) (j : Int) = some (h.1 (B + 541 + 4) (405 + 12 * n + j)) := e8_of hm.1 (by have := hm.2.1.2.2.2.2.1.2; omega) hj
theorem m_c {T : Nat → Int} (hm : MVt h (B + 541) v T) {n : Nat} (hn : (n : Int) < v 0 7) : MRc v (h.1 (B + 541 + 4)) n := hm.2.2.2.2.2.2.2.2.2.2 n hn
theorem m_0 {T : Nat → Int} (hm : MVt h (B + 541) v T) {n : Nat} (hn : (n : Int) < v 0 7) : q_X8_of h (B + 541) (n : Int) 0 = some (v (25 + n) 0) := by rw [← (m_c hm hn).1]; exact m_of hm hn (j := 0) (by decide)
theorem m_1 {T : Nat → Int} (hm : MVt h (B + 541) v T) {n : Nat} (hn : (n : Int) < v 0 7) : q_X8_of h (B + 541) (n : Int) 1 = some (v (25 + n) 1) := by rw [← (m_c hm hn).2.1]; exact m_of hm hn (j := 1) (by decide)
theorem m_2 {T : Nat → Int} (hm : MVt h (B + 541) v T) {n : Nat} (hn : (n : Int) < v 0 7) : q_X8_of h (B + 541) (n : Int) 2 = some (v (25 + n) 2) := by rw [← (m_c hm hn).2.2.1]; exact m_of hm hn (j := 2) (by decide)
theorem m_4 {T : Nat → Int} (hm : MVt h (B + 541) v T) {n : Nat} (hn : (n : Int) < v 0 7) : q_X8_of h (B + 541) (n : Int) 4 = some (v (25 + n) 4) := by rw [← (m_c hm hn).2.2.2.2.1]; exact m_of hm hn (j := 4) (by decide)
theorem m_5 {T : Nat → Int} (hm : MVt h (B + 541) v T) {n : Nat} (hn : (n : Int) < v 0 7) : q_X8_of h (B + 541) (n : Int) 5 = some (v (25 + n) 5) := by rw [← (m_c hm hn).2.2.2.2.2.1]; exact m_of hm hn (j := 5) (by decide)
theorem m_9 {T : Nat → Int} (hm : MVt h (B + 541) v T) {n : Nat} (hn : (n : Int) < v 0 7) : q_X8_of h (B + 541) (n : Int) 9 = some (v (25 + n) 8) := by rw [← (m_c hm hn).2.2.2.2.2.2.1]; exact m_of hm hn (j := 9) (by decide)
theorem m_10 {T : Nat → Int} (hm : MVt h (B + 541) v T) {n : Nat} (hn : (n : Int) < v 0 7) : q_X8_of h (B + 541) (n : Int) 10 = some (v (25 + n) 9) := by rw [← (m_c hm hn).2.2.2.2.2.2.2.1]; exact m_of hm hn (j := 10) (by decide)
theorem m_11 {T : Nat → Int} (hm : MVt h (B + 541) v T) {n : Nat} (hn : (n : Int) < v 0 7) : q_X8_of h (B + 541) (n : Int) 11 = some (v (25 + n) 10) := by rw [← (m_c hm hn).2.2.2.2.2.2.2.2.1]; exact m_of hm hn (j := 11) (by decide)
theorem m_6 {T : Nat → Int} (hm : MVt h (B + 541) v T) {n : Nat} (hn : (n : Int) < v 0 7) (ha : v (25 + n) 5 = 1) : q_X8_of h (B + 541) (n : Int) 6 = some (v (25 + n) 6) := by rw [← ((m_c hm hn).2.2.2.2.2.2.2.2.2 ha).1]; exact m_of hm hn (j := 6) (by decide)
theorem m_7 {T : Nat → Int} (hm : MVt h (B + 541) v T) {n : Nat} (hn : (n : Int) < v 0 7) (ha : v (25 + n) 5 = 1) : q_X8_of h (B + 541) (n : Int) 7 = some (v (25 + n) 7) := by rw [← ((m_c hm hn).2.2.2.2.2.2.2.2.2 ha).2.1]; exact m_of hm hn (j := 7) (by decide)
theorem m_8 {T : Nat → Int} (hm : MVt h (B + 541) v T) {n : Nat} (hn : (n : Int) < v 0 7) (ha : v (25 + n) 5 = 1) : q_X8_of h (B + 541) (n : Int) 8 = some (v (25 + n) 9 + v (25 + n) 4) := by rw [← ((m_c hm hn).2.2.2.2.2.2.2.2.2 ha).2.2]; exact m_of hm hn (j := 8) (by decide)
theorem m_act {T : Nat → Int} (hm : MVt h (B + 541) v T) {n : Nat} (hn : (n : Int) < v 0 7) : q_X8_isActive h (B + 541) (n : Int) = some (if v (25 + n) 5 = 1 then 1 else 0) := e8_isActive hm hn
theorem m_burst {T : Nat → Int} (hm : MVt h (B + 541) v T) {n : Nat} (hn : (n : Int) < v 0 7) : q_X8_burst h (B + 541) (n : Int) = some (v (25 + n) 3) := by
  have hc := (m_c hm hn).2.2.2.1
  have hw := (hm.2.1.2.2.2.2.2.2.2.2 n hn).2.2.2.2.1
  have e3 : q_X8_of h (B + 541) (n : Int) 3 = some (h.1 (B + 541 + 4) (405 + 12 * n + 3)) := m_of hm hn (j := 3) (by decide)
  unfold q_X8_burst
  rw [e3, zbp_some, hm.1.now, hc, zw_id ⟨by omega, by omega⟩]
end LK
