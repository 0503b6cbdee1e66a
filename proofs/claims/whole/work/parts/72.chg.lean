/-! Keeping a row: the reference; and what holds behind a change. -/
theorem MR.ext {v : Nat → Nat → Int} {N N' T : Nat → Int} (w : WF v) (m : MR v N T) (hN : ∀ i, i < 597 → N' i = N i) : MR v N' T := by
  have hs6 := w.nS
  have hr8 := w.nR
  have hn := w.nC
  obtain ⟨a1, a2, a3, a4, a5, a6, a7, a8, a9⟩ := m
  refine ⟨by rw [hN 0 (by omega)]; exact a1, a2, a3, a4, by rw [hN 404 (by omega)]; exact a5, fun j hj => by rw [hN (1 + j) (by omega)]; exact a6 j hj, fun s hs => ?_, a8, fun l hl => ?_⟩
  · obtain ⟨b1, b2, b3, b4, b5, b6, b7, b8⟩ := a7 s hs
    exact ⟨b1, b2, b3, b4, b5, by rw [hN (8 + s) (by omega)]; exact b6, by rw [hN (14 + s) (by omega)]; exact b7, fun j hj => by rw [hN (20 + 64 * s + j) (by omega)]; exact b8 j hj⟩
  · have hp : ∀ j, j < 12 → N' (405 + 12 * l + j) = N (405 + 12 * l + j) := fun j hj => hN _ (by omega)
    unfold MRc
    rw [hN 4 (by omega), hN (405 + 12 * l) (by omega), hp 1 (by omega), hp 2 (by omega), hp 3 (by omega), hp 4 (by omega), hp 5 (by omega), hp 6 (by omega), hp 7 (by omega), hp 8 (by omega), hp 9 (by omega), hp 10 (by omega), hp 11 (by omega)]
    exact a9 l hl
theorem m_k54 {h : zH} {M np : Nat} {N : Nat → Int} (hp : np < 10) {K : Int → zH → Option (Unit × zH)} : ∀ (r i f : Nat) (g : zH), i + r = 597 → r < f → mly g.2 M → g.1 M 8 = (np : Int) → (∀ j, j < 597 → g.1 (M + 4) j = N j) → (∀ j, j < i → g.1 (M + 6) (597 * np + j) = N j) → (∀ q j, ¬ (q = M + 6 ∧ 597 * np ≤ j) → g.1 q j = h.1 q j) → g.2 = h.2 →
    ∃ g', q_X8_keeps_L54 M K f (i : Int) g = K (597 : Nat) g' ∧ (∀ j, j < 597 → g'.1 (M + 6) (597 * np + j) = N j) ∧ (∀ q j, ¬ (q = M + 6 ∧ 597 * np ≤ j) → g'.1 q j = h.1 q j) ∧ g'.2 = h.2 := by
  intro r
  induction r with
  | zero =>
    intro i f g q1 q2 hl h8 hN hi ho h2
    obtain ⟨f', rfl⟩ : ∃ f', f = f' + 1 := ⟨f - 1, by omega⟩
    have e : i = 597 := by omega
    subst e
    refine ⟨g, ?_, hi, ho, h2⟩
    rw [q_X8_keeps_L54]
    exact if_pos (by decide)
  | succ r ih =>
    intro i f g q1 q2 hl h8 hN hi ho h2
    obtain ⟨f', rfl⟩ : ∃ f', f = f' + 1 := ⟨f - 1, by omega⟩
    have hi6 : i < 1000000 := by omega
    have hi597 : i < 597 := by omega
    have hp59 : 597 * np + i < 5970 := by omega
    have hni : ¬ (597 : Int) ≤ (i : Int) := by omega
    have e7 : g.2 M 7 = M + 6 := hl 7
    have w1 : zw (597 * (np : Int)) = 597 * (np : Int) := zw_id ⟨by omega, by omega⟩
    have w2 : zw (597 * (np : Int) + (i : Int)) = ((597 * np + i : Nat) : Int) := by clear w1; rw [zw_id ⟨by omega, by omega⟩]; omega
    obtain ⟨g', p1, p2, p3, p4⟩ := ih (i + 1) f' (zput g (M + 6) (597 * np + i) (N i)) (by omega) (by omega) hl (by rw [zput_ne (by omega)]; exact h8) (fun j hj => by rw [zput_ne (by omega)]; exact hN j hj) (fun j hj => by
      by_cases e : j = i
      · rw [e, zput_self]
      · rw [zput_ne (by omega)]
        exact hi j (by omega)) (fun q j hq => by rw [zput_ne (by omega)]; exact ho q j hq) h2
    refine ⟨g', ?_, p2, p3, p4⟩
    rw [q_X8_keeps_L54, if_neg hni, h8, w1, w2]
    simp only [zlet_b]
    rw [zgpos hi597, zgpos hp59, Int.toNat_natCast, Int.toNat_natCast, e7, hl.now, hN i hi597, zw_s hi6]
    exact p1
theorem m_k13 {h : zH} {M : Nat} {K : Int → zH → Option (Unit × zH)} : ∀ (r i f : Nat) (g : zH), i + 597 + r = 5970 → r < f → mly g.2 M → (∀ j, j < i → g.1 (M + 6) j = h.1 (M + 6) (j + 597)) → (∀ j, i ≤ j → g.1 (M + 6) j = h.1 (M + 6) j) → (∀ q j, q ≠ M + 6 → g.1 q j = h.1 q j) → g.2 = h.2 →
    ∃ g', q_X8_keeps_L13 M K f ((i + 597 : Nat) : Int) g = K (5970 : Nat) g' ∧ (∀ j, j < 5373 → g'.1 (M + 6) j = h.1 (M + 6) (j + 597)) ∧ (∀ q j, q ≠ M + 6 → g'.1 q j = h.1 q j) ∧ g'.2 = h.2 := by
  intro r
  induction r with
  | zero =>
    intro i f g q1 q2 hl ha hb ho h2
    obtain ⟨f', rfl⟩ : ∃ f', f = f' + 1 := ⟨f - 1, by omega⟩
    have e : i = 5373 := by omega
    subst e
    refine ⟨g, ?_, ha, ho, h2⟩
    rw [q_X8_keeps_L13]
    exact if_pos (by decide)
  | succ r ih =>
    intro i f g q1 q2 hl ha hb ho h2
    obtain ⟨f', rfl⟩ : ∃ f', f = f' + 1 := ⟨f - 1, by omega⟩
    have hi6 : i + 597 < 1000000 := by omega
    have hi1 : i + 597 < 5970 := by omega
    have hi2 : i < 5970 := by omega
    have hni : ¬ (5970 : Int) ≤ ((i + 597 : Nat) : Int) := by omega
    have e7 : g.2 M 7 = M + 6 := hl 7
    have w1 : zw (((i + 597 : Nat) : Int) - 597) = (i : Int) := by rw [zw_id ⟨by omega, by omega⟩]; omega
    obtain ⟨g', p1, p2, p3, p4⟩ := ih (i + 1) f' (zput g (M + 6) i (h.1 (M + 6) (i + 597))) (by omega) (by omega) hl (fun j hj => by
      by_cases e : j = i
      · rw [e, zput_self]
      · rw [zput_ne (by omega)]
        exact ha j (by omega)) (fun j hj => by rw [zput_ne (by omega)]; exact hb j (by omega)) (fun q j hq => by rw [zput_ne (by omega)]; exact ho q j hq) h2
    have ei : i + 1 + 597 = i + 597 + 1 := by omega
    rw [ei] at p1
    refine ⟨g', ?_, p2, p3, p4⟩
    rw [q_X8_keeps_L13, if_neg hni, w1]
    clear w1
    simp only [zlet_b]
    rw [zgpos hi1, zgpos hi2, Int.toNat_natCast, Int.toNat_natCast, e7, hb (i + 597) (by omega), zw_s hi6]
    exact p1
section OPS
variable {B : Nat}
/-- how a row is kept -/
def Kp8 (B : Nat) (x g : zH) (np sh : Nat) : Prop := g.2 = x.2 ∧ g.1 (B + 541) 8 = ((np + 1 : Nat) : Int) ∧ (∀ j, j < np → ∀ i, i < 597 → g.1 (B + 541 + 6) (597 * j + i) = x.1 (B + 541 + 6) (597 * (j + sh) + i)) ∧ (∀ i, i < 597 → g.1 (B + 541 + 6) (597 * np + i) = x.1 (B + 541 + 4) i) ∧ ∀ q j, q ≠ B + 541 + 6 → ¬ (q = B + 541 ∧ j = 8) → g.1 q j = x.1 q j
theorem e8_keepN {x : zH} (hl : mly x.2 (B + 541)) {np sh : Nat} (hk : KNum (x.1 (B + 541) 8) np sh) : ∃ g, q_X8_keeps x (B + 541) = some ((), g) ∧ Kp8 B x g np sh := by
  unfold q_X8_keeps
  simp only [zlet_b]
  rcases hk with ⟨k1, k2, k3⟩ | ⟨k1, k2, k3⟩
  · subst k3
    rw [if_neg (by omega)]
    obtain ⟨g', p1, p2, p3, p4⟩ := m_k54 (h := x) (M := B + 541) (N := x.1 (B + 541 + 4)) k2 (K := fun x3 h4 => some ((), zput h4 (B + 541) 8 (zw (h4.1 (B + 541) 8 + 1)))) 597 0 zF x (by omega) (by unfold zF; omega) hl k1 (fun _ _ => rfl) (fun j hj => by omega) (fun _ _ _ => rfl) rfl
    have p1' := p1
    rw [show ((0 : Nat) : Int) = 0 from rfl] at p1'
    have e8 : g'.1 (B + 541) 8 = (np : Int) := by rw [p3 _ _ (by omega), k1]
    rw [p1', e8, zw_s (by omega)]
    refine ⟨_, rfl, p4, zput_self, fun j hj i hi => ?_, fun i hi => ?_, fun q j hq hq2 => ?_⟩
    · rw [zput_ne (by omega), p3 _ _ (by omega)]
      rfl
    · rw [zput_ne (by omega), p2 i hi]
    · rw [zput_ne hq2, p3 _ _ (fun z => hq z.1)]
  · subst k2 k3
    rw [if_pos k1]
    obtain ⟨g0, d1, d2, d3, d4⟩ := m_k13 (h := x) (M := B + 541) (K := fun x8 h9 => q_X8_keeps_L54 (B + 541) (fun x11 h12 => some ((), zput h12 (B + 541) 8 (zw (h12.1 (B + 541) 8 + 1)))) zF 0 (zput h9 (B + 541) 8 (zw (h9.1 (B + 541) 8 - 1)))) 5373 0 zF x (by omega) (by unfold zF; omega) hl (fun j hj => by omega) (fun _ _ => rfl) (fun _ _ _ => rfl) rfl
    have d1' := d1
    rw [show ((0 + 597 : Nat) : Int) = 597 from rfl] at d1'
    have e10 : g0.1 (B + 541) 8 = 10 := by rw [d3 _ _ (by omega), k1]
    have w9 : zw (10 - 1) = ((9 : Nat) : Int) := by rw [zw_id ⟨by omega, by omega⟩]; rfl
    rw [d1', e10, w9]
    clear w9
    obtain ⟨g', p1, p2, p3, p4⟩ := m_k54 (h := zput g0 (B + 541) 8 ((9 : Nat) : Int)) (M := B + 541) (np := 9) (N := x.1 (B + 541 + 4)) (by omega) (K := fun x3 h4 => some ((), zput h4 (B + 541) 8 (zw (h4.1 (B + 541) 8 + 1)))) 597 0 zF (zput g0 (B + 541) 8 ((9 : Nat) : Int)) (by omega) (by unfold zF; omega) (by rw [zput_2, d4]; exact hl) zput_self (fun j _ => by rw [zput_ne (by omega), d3 _ _ (by omega)]) (fun j hj => by omega) (fun _ _ _ => rfl) rfl
    have p1' := p1
    rw [show ((0 : Nat) : Int) = 0 from rfl] at p1'
    have e8 : g'.1 (B + 541) 8 = ((9 : Nat) : Int) := by rw [p3 _ _ (by omega), zput_self]
    rw [p1', e8, zw_s (by omega)]
    refine ⟨_, rfl, p4.trans d4, zput_self, fun j hj i hi => ?_, fun i hi => ?_, fun q j hq hq2 => ?_⟩
    · rw [zput_ne (by omega), p3 _ _ (by omega), zput_ne (by omega), d2 _ (by omega)]
      exact congrArg _ (by omega)
    · rw [zput_ne (by omega), p2 i hi]
    · rw [zput_ne hq2, p3 _ _ (fun z => hq z.1), zput_ne hq2, d3 _ _ hq]
/-- behind a change -/
theorem zInv.chg {h g h1 x g8 h2 : zH} {np sh : Nat} (hI : zInv B h) (hn : KNum (h.1 (B + 85) 0) np sh) (hk : Kpt B h g np sh) (c2 : h1.2 = g.2) (c1 : ∀ q j, ¬ (B + 1 ≤ q ∧ q < B + 42) → ¬ zScrt B q j → h1.1 q j = g.1 q j) (hG : Good (vw h1.1 (B + 1))) (hx : zSame B h1 x) (k8 : Kp8 B x g8 np sh) (hs : zS4 B g8 h2) (hm : MR (vw h1.1 (B + 1)) (h2.1 (B + 541 + 4)) (h2.1 (B + 541 + 2))) : zInv B h2 := by
  obtain ⟨K1, K2, K3, K4, K5, K6⟩ := hk
  obtain ⟨E1, E2, E3, E4, E5⟩ := k8
  have r2 : h2.2 = g.2 := hs.1.trans (E1.trans (hx.1.trans c2))
  have cc : ∀ q j, ¬ zScrt B q j → ¬ (B + 1 ≤ q ∧ q < B + 42) → q ≠ B + 541 + 4 → q ≠ B + 541 + 6 → ¬ (q = B + 541 ∧ j = 8) → q < B + 552 → h2.1 q j = g.1 q j := fun q j s1 s2 s3 s4 s5 s6 => by
    have hsc : (q < B + 541 + 7) ∧ (q ≠ B + 541 ∨ j < 22) := by
      unfold zScrt at s1
      omega
    rw [hs.2 q j s3 (Or.inl hsc.1) hsc.2, E5 q j s4 s5, hx.2 q j s1, c1 q j s2 s1]
  have ct : h2.1 (B + 541 + 2) = h.1 (B + 541 + 2) := funext fun j => by
    rw [cc _ _ (by unfold zScrt; omega) (by omega) (by omega) (by omega) (by omega) (by omega), K6 _ _ (by omega) (by omega)]
  have x4 : ∀ i, x.1 (B + 541 + 4) i = h.1 (B + 541 + 4) i := fun i => by
    rw [hx.2 _ _ (by unfold zScrt; omega), c1 _ _ (by omega) (by unfold zScrt; omega), K6 _ _ (by omega) (by omega)]
  have x6 : ∀ i, x.1 (B + 541 + 6) i = h.1 (B + 541 + 6) i := fun i => by
    rw [hx.2 _ _ (by unfold zScrt; omega), c1 _ _ (by omega) (by unfold zScrt; omega), K6 _ _ (by omega) (by omega)]
  have y6 : ∀ i, h2.1 (B + 541 + 6) i = g8.1 (B + 541 + 6) i := fun i => hs.2 _ _ (by omega) (by omega) (by omega)
  have ev : ∀ j, j < 10 → HV B h2 j = HV B g j := fun j hj => by
    obtain ⟨σ, s1, s2, s3⟩ := K1
    have := s1 j hj
    unfold HV
    rw [r2, s3 j hj]
    exact vw_ext fun o ho i => cc _ _ (by unfold zScrt; omega) (by omega) (by omega) (by omega) (by omega) (by omega)
  have e85 : h2.1 (B + 85) 0 = ((np + 1 : Nat) : Int) := by rw [cc _ _ (by unfold zScrt; omega) (by omega) (by omega) (by omega) (by omega) (by omega), K3]
  have e88 : h2.1 (B + 541) 8 = ((np + 1 : Nat) : Int) := by rw [hs.2 _ _ (by omega) (by omega) (by omega), E2]
  have np10 : np < 10 := by
    rcases hn with ⟨_, z, _⟩ | ⟨_, z, _⟩ <;> omega
  have ecur : vw h2.1 (B + 1) = vw h1.1 (B + 1) := vw_ext fun o ho i => by
    rw [hs.2 _ _ (by omega) (by omega) (by omega), E5 _ _ (by omega) (by omega), hx.2 _ _ (by unfold zScrt; omega)]
  refine zInv.mk' (fun o ho ho2 j => ?_) ?_ (fun j hj => ?_) ⟨⟨by rw [e85]; omega, by rw [e85]; omega⟩, by rw [e85, e88]⟩ (by rw [ecur]; exact hG) (by rw [ecur]; exact hm) ?_ ?_
  · rw [r2, K2 _ _ (by omega)]
    exact hI.1 o ho ho2 j
  · obtain ⟨σ, s1, s2, s3⟩ := K1
    exact ⟨σ, s1, s2, fun j hj => by rw [r2]; exact s3 j hj⟩
  · rw [e85] at hj
    rw [ev j (by omega), ct]
    by_cases e : j = np
    · subst e
      have hg : Good (HV B g j) := K5.good hI.2.2.2.1
      refine ⟨hg, MR.ext hg.1 (K5.mr hI.2.2.2.2.1) (fun i hi => ?_)⟩
      show h2.1 (B + 541 + 6) (597 * j + i) = _
      rw [y6, E4 i hi, x4]
    · have hjn : j < np := by omega
      rw [K4 j hjn]
      have hjs : ((j + sh : Nat) : Int) < h.1 (B + 85) 0 := by
        rcases hn with ⟨z1, z2, z3⟩ | ⟨z1, z2, z3⟩ <;> omega
      obtain ⟨a, b⟩ := hI.hv hjs
      refine ⟨a, MR.ext a.1 b (fun i hi => ?_)⟩
      show h2.1 (B + 541 + 6) (597 * j + i) = _
      rw [y6, E3 j hjn i hi, x6]
  · obtain ⟨f1, f2, f3⟩ := hI.2.2.2.2.2.1
    have n0 : h2.1 (B + 498) 0 = h.1 (B + 498) 0 := by rw [cc _ _ (by unfold zScrt; omega) (by omega) (by omega) (by omega) (by omega) (by omega), K6 _ _ (by omega) (by omega)]
    have n2 : h2.1 (B + 541) 2 = h.1 (B + 541) 2 := by rw [cc _ _ (by unfold zScrt; omega) (by omega) (by omega) (by omega) (by omega) (by omega), K6 _ _ (by omega) (by omega)]
    rw [n0, n2]
    refine ⟨f1, f2, fun i hi => ?_⟩
    rw [cc _ _ (by unfold zScrt; omega) (by omega) (by omega) (by omega) (by omega) (by omega), K6 _ _ (by omega) (by omega), cc (B + 499) _ (by unfold zScrt; omega) (by omega) (by omega) (by omega) (by omega) (by omega), K6 (B + 499) _ (by omega) (by omega)]
    exact f3 i hi
  · rw [cc _ _ (by unfold zScrt; omega) (by omega) (by omega) (by omega) (by omega) (by omega), K6 _ _ (by omega) (by omega), cc (B + 541) _ (by unfold zScrt; omega) (by omega) (by omega) (by omega) (by omega) (by omega), K6 (B + 541) _ (by omega) (by omega)]
    exact hI.2.2.2.2.2.2
end OPS
