/-! Placing a call: the class. -/
def vup (v : Nat → Nat → Int) (o j : Nat) (x : Int) : Nat → Nat → Int := fun a i => if a = o ∧ i = j then x else v a i
theorem vup_at {v : Nat → Nat → Int} {o j : Nat} {x : Int} : vup v o j x o j = x := by unfold vup; rw [if_pos ⟨rfl, rfl⟩]
theorem vup_ne {v : Nat → Nat → Int} {o j a i : Nat} {x : Int} (hn : ¬ (a = o ∧ i = j)) : vup v o j x a i = v a i := by unfold vup; rw [if_neg hn]
theorem vup_id {v : Nat → Nat → Int} {o j : Nat} {x : Int} (hx : x = v o j) : vup v o j x = v := by
  funext a i
  unfold vup
  by_cases e : a = o ∧ i = j
  · rw [if_pos e, hx, e.1, e.2]
  · rw [if_neg e]
theorem vw_put {h : zH} {A o j : Nat} {x : Int} (ho : o < 41) : vw (zput h (A + o) j x).1 A = vup (vw h.1 A) o j x := by
  funext a i
  show vw _ A a i = if a = o ∧ i = j then x else vw h.1 A a i
  by_cases ha : a < 41
  · rw [vw_at ha, vw_at ha, zput_1]
    by_cases e : a = o ∧ i = j
    · rw [if_pos e, if_pos ⟨by omega, e.2⟩]
    · rw [if_neg e, if_neg (fun z => e ⟨by omega, z.2⟩)]
  · have e : ∀ g : Nat → Nat → Int, vw g A a i = 0 := fun g => by
      unfold vw
      rw [if_neg ha]
    rw [e, e, if_neg (fun z => by omega)]
theorem zput_put {h : zH} {a j : Nat} {x y : Int} : zput (zput h a j x) a j y = zput h a j y := by
  refine Prod.ext ?_ rfl
  funext b i
  by_cases e : b = a ∧ i = j
  · rw [zput_1, if_pos e, zput_1, if_pos e]
  · rw [zput_ne e, zput_ne e, zput_ne e]
/-- only the State at A may differ -/
def Frm (A : Nat) (h g : zH) : Prop := g.2 = h.2 ∧ ∀ a j, (a < A ∨ A + 41 ≤ a) → g.1 a j = h.1 a j
theorem Frm.rf {A : Nat} {h : zH} : Frm A h h := ⟨rfl, fun _ _ _ => rfl⟩
theorem Frm.tr {A : Nat} {h g f : zH} (h1 : Frm A h g) (h2 : Frm A g f) : Frm A h f := ⟨h2.1.trans h1.1, fun a j q => (h2.2 a j q).trans (h1.2 a j q)⟩
theorem Frm.put {A o j : Nat} {x : Int} {h g : zH} (h1 : Frm A h g) (ho : o < 41) : Frm A h (zput g (A + o) j x) := ⟨h1.1, fun a i q => (zput_ne (fun z => by omega)).trans (h1.2 a i q)⟩
theorem WF.call {v u : Nat → Nat → Int} {k : Nat} (w : WF v) (he : ∀ o j, o ≠ 25 + k → u o j = v o j) (hc : (k : Int) < v 0 7 → WFc u k) : WF u := by
  have e0 : u 0 = v 0 := funext fun j => he 0 j (by omega)
  have e1 : u 1 = v 1 := funext fun j => he 1 j (by omega)
  obtain ⟨a1, a2, a3, a4, a5, a6, a7, a8, a9⟩ := w
  refine ⟨by rw [e0]; exact a1, by rw [e0]; exact a2, by rw [e0]; exact a3, by rw [e0]; exact a4, by rw [e0]; exact a5, by rw [e1]; exact a6, fun s hs => ?_, fun r hr => ?_, fun l hl => ?_⟩
  · rw [e0] at hs
    have e2 : u (5 + 2 * s) = v (5 + 2 * s) := funext fun j => he _ j (by omega)
    have e3 : u (6 + 2 * s) = v (6 + 2 * s) := funext fun j => he _ j (by omega)
    unfold WFs
    rw [e0, e2, e3]
    exact a7 s hs
  · rw [e0] at hr
    have e2 : u (17 + r) = v (17 + r) := funext fun j => he _ j (by omega)
    unfold WFr
    rw [e0, e2]
    exact a8 r hr
  · rw [e0] at hl
    by_cases e : l = k
    · subst e
      exact hc hl
    · have e2 : u (25 + l) = v (25 + l) := funext fun j => he _ j (by omega)
      unfold WFc
      rw [e0, e1, e2]
      exact a9 l hl
/-- the calls are the same, as far as placing looks -/
def Ceq (v u : Nat → Nat → Int) : Prop := (v 0 0 = u 0 0 ∧ v 0 1 = u 0 1 ∧ v 0 7 = u 0 7) ∧ (∀ j, j < 4 → v 1 j = u 1 j) ∧ ∀ k : Nat, (k : Int) < v 0 7 → (∀ j, j < 6 → v (25 + k) j = u (25 + k) j) ∧ v (25 + k) 9 = u (25 + k) 9 ∧ (v (25 + k) 5 = 1 → v (25 + k) 6 = u (25 + k) 6 ∧ v (25 + k) 7 = u (25 + k) 7)
theorem Ceq.rf {v : Nat → Nat → Int} : Ceq v v := ⟨⟨rfl, rfl, rfl⟩, fun _ _ => rfl, fun _ _ => ⟨fun _ _ => rfl, rfl, fun _ => ⟨rfl, rfl⟩⟩⟩
theorem Ceq.sym {v u : Nat → Nat → Int} (h : Ceq v u) : Ceq u v := by
  obtain ⟨⟨a1, a2, a3⟩, b, c⟩ := h
  refine ⟨⟨a1.symm, a2.symm, a3.symm⟩, fun j hj => (b j hj).symm, fun k hk => ?_⟩
  rw [← a3] at hk
  obtain ⟨c1, c2, c3⟩ := c k hk
  refine ⟨fun j hj => (c1 j hj).symm, c2.symm, fun h5 => ?_⟩
  rw [← c1 5 (by decide)] at h5
  exact ⟨(c3 h5).1.symm, (c3 h5).2.symm⟩
theorem Ceq.fit1 {v u : Nat → Nat → Int} (h : Ceq v u) {W : Nat → Prop} {k : Nat} (hk : (k : Int) < v 0 7) {c t : Int} (hF : Fit v W k c t) : Fit u W k c t := by
  obtain ⟨⟨a1, a2, a3⟩, b, cc⟩ := h
  have b0 := b 0 (by decide)
  have b1 := b 1 (by decide)
  have b2 := b 2 (by decide)
  obtain ⟨k1, _, _⟩ := cc k hk
  have k0 := k1 0 (by decide)
  have k11 := k1 1 (by decide)
  have k3 := k1 3 (by decide)
  obtain ⟨f1, f2, f3⟩ := Fit.iff.mp hF
  refine Fit.iff.mpr ⟨by rw [← b1, ← b2]; exact f1, by rw [← b0, ← b1, ← k3]; exact f2, fun l hl hW hw => ?_⟩
  rw [← a3] at hl
  obtain ⟨l1, _, l3⟩ := cc l hl
  obtain ⟨w1, w2, w3, w4⟩ := hw
  rw [← l1 5 (by decide)] at w1
  obtain ⟨m6, m7⟩ := l3 w1
  rw [← m7, ← b1] at w2 w3
  rw [← l1 3 (by decide)] at w2
  rw [← k3] at w3
  rw [← m6, ← l1 0 (by decide), ← l1 1 (by decide), ← k0, ← k11] at w4
  exact f3 l hl hW ⟨w1, w2, w3, w4⟩
theorem Ceq.fit {v u : Nat → Nat → Int} (h : Ceq v u) {W : Nat → Prop} {k : Nat} (hk : (k : Int) < v 0 7) {c t : Int} : Fit v W k c t ↔ Fit u W k c t :=
  ⟨h.fit1 hk, h.sym.fit1 (by rw [← h.1.2.2]; exact hk)⟩
/-- the best of all carriers and starts -/
def Bs (F : Int → Int → Prop) (C c s : Int) : Prop := (0 ≤ c ∧ c < C) ∧ F c s ∧ ∀ c' t, 0 ≤ c' → c' < C → F c' t → s < t ∨ (s = t ∧ c ≤ c')
theorem Bs.uniq {F : Int → Int → Prop} {C c s c' s' : Int} (h1 : Bs F C c s) (h2 : Bs F C c' s') : c = c' ∧ s = s' := by
  have a := h1.2.2 c' s' h2.1.1 h2.1.2 h2.2.1
  have b := h2.2.2 c s h1.1.1 h1.1.2 h1.2.1
  omega
/-- a call as it stands when it is placed -/
def vpl (v : Nat → Nat → Int) (k : Nat) (c s : Int) : Nat → Nat → Int := vup (vup (vup (vup v (25 + k) 6 c) (25 + k) 7 s) (25 + k) 5 1) (25 + k) 9 (if v (25 + k) 9 = -1 then v 0 0 else v (25 + k) 9)
theorem vpl_ne {v : Nat → Nat → Int} {k : Nat} {c s : Int} {o j : Nat} (h : ¬ (o = 25 + k ∧ (j = 5 ∨ j = 6 ∨ j = 7 ∨ j = 9))) : vpl v k c s o j = v o j := by
  unfold vpl
  rw [vup_ne (by omega), vup_ne (by omega), vup_ne (by omega), vup_ne (by omega)]
theorem vpl_5 {v : Nat → Nat → Int} {k : Nat} {c s : Int} : vpl v k c s (25 + k) 5 = 1 := by
  unfold vpl
  rw [vup_ne (by omega), vup_at]
theorem vpl_6 {v : Nat → Nat → Int} {k : Nat} {c s : Int} : vpl v k c s (25 + k) 6 = c := by
  unfold vpl
  rw [vup_ne (by omega), vup_ne (by omega), vup_ne (by omega), vup_at]
theorem vpl_7 {v : Nat → Nat → Int} {k : Nat} {c s : Int} : vpl v k c s (25 + k) 7 = s := by
  unfold vpl
  rw [vup_ne (by omega), vup_ne (by omega), vup_at]
theorem vpl_9 {v : Nat → Nat → Int} {k : Nat} {c s : Int} : vpl v k c s (25 + k) 9 = if v (25 + k) 9 = -1 then v 0 0 else v (25 + k) 9 := vup_at
/-- what placing does -/
def BP (v : Nat → Nat → Int) (k : Nat) (u : Nat → Nat → Int) (r : Int) : Prop := (∃ c s, Bs (Fit v (fun _ => False) k) (v 0 1) c s ∧ u = vpl v k c s ∧ r = 1) ∨ ((∀ c t, 0 ≤ c → c < v 0 1 → ¬ Fit v (fun _ => False) k c t) ∧ u = v ∧ r = 0)
theorem BP.uniq {v : Nat → Nat → Int} {k : Nat} {u u' : Nat → Nat → Int} {r r' : Int} (h : BP v k u r) (h' : BP v k u' r') : u = u' ∧ r = r' := by
  rcases h with ⟨c, s, a1, a2, a3⟩ | ⟨a1, a2, a3⟩ <;> rcases h' with ⟨c', s', b1, b2, b3⟩ | ⟨b1, b2, b3⟩
  · obtain ⟨e1, e2⟩ := a1.uniq b1
    subst e1 e2
    exact ⟨a2.trans b2.symm, a3.trans b3.symm⟩
  · exact absurd a1.2.1 (b1 c s a1.1.1 a1.1.2)
  · exact absurd b1.2.1 (a1 c' s' b1.1.1 b1.1.2)
  · exact ⟨a2.trans b2.symm, a3.trans b3.symm⟩
/-- what placing leaves -/
def Sta (v u : Nat → Nat → Int) : Prop := ∀ o j, ¬ (25 ≤ o ∧ (j = 5 ∨ j = 6 ∨ j = 7 ∨ j = 9)) → u o j = v o j
theorem Sta.rf {v : Nat → Nat → Int} : Sta v v := fun _ _ _ => rfl
theorem Sta.tr {v u z : Nat → Nat → Int} (h1 : Sta v u) (h2 : Sta u z) : Sta v z := fun o j q => (h2 o j q).trans (h1 o j q)
theorem BP.sta {v : Nat → Nat → Int} {k : Nat} {u : Nat → Nat → Int} {r : Int} (h : BP v k u r) : Sta v u := by
  intro o j q
  rcases h with ⟨c, s, a1, a2, a3⟩ | ⟨a1, a2, a3⟩
  · rw [a2, vpl_ne (by omega)]
  · rw [a2]
theorem BP.wf {v : Nat → Nat → Int} {k : Nat} {u : Nat → Nat → Int} {r : Int} (h : BP v k u r) (w : WF v) : WF u := by
  rcases h with ⟨c, s, a1, a2, a3⟩ | ⟨a1, a2, a3⟩
  · subst a2
    refine w.call (k := k) (fun o j q => vpl_ne (by omega)) (fun hk => ?_)
    obtain ⟨⟨c0, c1⟩, ⟨f1, f2, _⟩, _⟩ := a1
    have hf := w.1
    have hw := w.2.2.2.2.2.2.2.2 k hk
    unfold WFc at hw ⊢
    rw [vpl_5, vpl_6, vpl_7, vpl_9, vpl_ne (o := 0) (by omega), vpl_ne (o := 0) (by omega), vpl_ne (o := 0) (by omega), vpl_ne (o := 1) (by omega), vpl_ne (o := 1) (by omega), vpl_ne (o := 1) (by omega), vpl_ne (j := 0) (by omega), vpl_ne (j := 1) (by omega), vpl_ne (j := 2) (by omega), vpl_ne (j := 3) (by omega), vpl_ne (j := 4) (by omega), vpl_ne (j := 8) (by omega), vpl_ne (j := 10) (by omega)]
    obtain ⟨h0, h1, h2, h3, h4, h5, h6, h7, h8, h9, h10, h11⟩ := hw
    refine ⟨h0, h1, h2, h3, h4, h5, Or.inr (Or.inl rfl), h7, ?_, h9, trivial, fun _ => ⟨?_, ⟨c0, c1⟩, f1, f2⟩⟩
    · split <;> omega
    · split <;> omega
  · rw [a2]
    exact w
theorem awy_0 (j : Nat) : awy 0 j = false := by
  unfold awy
  have e : (zi 0).toBitVec = 0#32 := by decide
  rw [e]
  simp
theorem fit_0 {v : Nat → Nat → Int} {k : Nat} {c t : Int} : Fit v (fun l => awy 0 l = true) k c t ↔ Fit v (fun _ => False) k c t := by
  have e : (fun l => awy 0 l = true) = fun _ => False := funext fun l => by rw [awy_0]; simp
  rw [e]
section CL
variable {h : zH} {A : Nat}
def PI (v : Nat → Nat → Int) (k : Nat) (h : zH) (P i : Nat) (b : Int) (g : zH) : Prop := (b = -1 ∧ g = h ∧ ∀ c t : Int, 0 ≤ c → c < (i : Int) → ¬ Fit v (fun _ => False) k c t) ∨ (∃ c : Int, g = zput h P 6 c ∧ Bs (Fit v (fun _ => False) k) (i : Int) c b)
theorem pl_g (hc : CV h A) {k : Nat} (hk : (k : Int) < vw h.1 A 0 7) (hk5 : vw h.1 A (25 + k) 5 ≠ 1) {i : Nat} {b : Int} {g : zH} (hp : PI (vw h.1 A) k h (A + (25 + k)) i b g) : CV g A ∧ Ceq (vw h.1 A) (vw g.1 A) ∧ vw g.1 A 0 1 = vw h.1 A 0 1 ∧ vw g.1 A 0 7 = vw h.1 A 0 7 ∧ vw g.1 A (25 + k) 5 = vw h.1 A (25 + k) 5 := by
  have hn := hc.2.nC
  rcases hp with ⟨_, e, _⟩ | ⟨c, e, _⟩
  · subst e
    exact ⟨hc, Ceq.rf, rfl, rfl, rfl⟩
  · have ev : vw g.1 A = vup (vw h.1 A) (25 + k) 6 c := by rw [e, vw_put (by omega)]
    have e2 : g.2 = h.2 := by rw [e]; rfl
    have q : ∀ o j, ¬ (o = 25 + k ∧ j = 6) → vw g.1 A o j = vw h.1 A o j := fun o j z => by rw [ev, vup_ne z]
    refine ⟨⟨by rw [e2]; exact hc.1, hc.2.call (k := k) (fun o j z => q o j (by omega)) (fun _ => ?_)⟩, ⟨⟨(q 0 0 (by omega)).symm, (q 0 1 (by omega)).symm, (q 0 7 (by omega)).symm⟩, fun j hj => (q 1 j (by omega)).symm, fun l hl => ⟨fun j hj => (q _ j (by omega)).symm, (q _ 9 (by omega)).symm, fun h5 => ?_⟩⟩, q 0 1 (by omega), q 0 7 (by omega), q _ 5 (by omega)⟩
    · have hw := hc.2.2.2.2.2.2.2.2.2 k hk
      unfold WFc at hw ⊢
      rw [q 0 0 (by omega), q 0 3 (by omega), q _ 0 (by omega), q _ 1 (by omega), q _ 2 (by omega), q _ 3 (by omega), q _ 4 (by omega), q _ 5 (by omega), q _ 8 (by omega), q _ 9 (by omega), q _ 10 (by omega)]
      obtain ⟨h0, h1, h2, h3, h4, h5, h6, h7, h8, h9, h10, h11⟩ := hw
      exact ⟨h0, h1, h2, h3, h4, h5, h6, h7, h8, h9, h10, fun z => absurd z hk5⟩
    · have hl' : l ≠ k := fun z => hk5 (z ▸ h5)
      exact ⟨(q _ 6 (by omega)).symm, (q _ 7 (by omega)).symm⟩
theorem m_place (hc : CV h A) {k : Nat} (hk : (k : Int) < vw h.1 A 0 7) (hk5 : vw h.1 A (25 + k) 5 ≠ 1) {C : Nat} (hC : vw h.1 A 0 1 = (C : Int)) {K : Int → Int → zH → Option (Int × zH)} : ∀ (r i f : Nat) (b : Int) (g : zH), i + r = C → r < f → PI (vw h.1 A) k h (A + (25 + k)) i b g →
    ∃ b' g', q_X4_place_L4 A (A + (25 + k)) K f b (i : Int) g = K b' (C : Int) g' ∧ PI (vw h.1 A) k h (A + (25 + k)) C b' g' := by
  have w := hc.2
  have hn := w.nC
  have hC4 := w.2.1
  intro r
  induction r with
  | zero =>
    intro i f b g q1 q2 hp
    obtain ⟨f', rfl⟩ : ∃ f', f = f' + 1 := ⟨f - 1, by omega⟩
    have e : i = C := by omega
    subst e
    obtain ⟨g1, g2, g3, g4, g5⟩ := pl_g hc hk hk5 hp
    have e1 : g.1 A 1 = (i : Int) := by rw [a_0, g3, hC]
    refine ⟨b, g, ?_, hp⟩
    rw [q_X4_place_L4, e1, if_pos (Int.le_refl _)]
  | succ r ih =>
    intro i f b g q1 q2 hp
    obtain ⟨f', rfl⟩ : ∃ f', f = f' + 1 := ⟨f - 1, by omega⟩
    obtain ⟨g1, g2, g3, g4, g5⟩ := pl_g hc hk hk5 hp
    have e1 : g.1 A 1 = (C : Int) := by rw [a_0, g3, hC]
    have hi6 : i < 1000000 := by omega
    have hni : ¬ (C : Int) ≤ (i : Int) := by omega
    obtain ⟨x, p1, p2⟩ := e4_leastStart g1 (k := k) (by rw [g4]; exact hk) (by rw [g5]; exact hk5) (i : Int) 0
    have hF : ∀ t, Fit (vw g.1 A) (fun l => awy 0 l = true) k (i : Int) t ↔ Fit (vw h.1 A) (fun _ => False) k (i : Int) t := fun t => fit_0.trans (g2.fit hk).symm
    have p3 : (Fit (vw h.1 A) (fun _ => False) k (i : Int) x ∧ ∀ t, t < x → ¬ Fit (vw h.1 A) (fun _ => False) k (i : Int) t) ∨ (x = -1 ∧ ∀ t, ¬ Fit (vw h.1 A) (fun _ => False) k (i : Int) t) := by
      rcases p2 with ⟨a, b⟩ | ⟨a, b⟩
      · exact Or.inl ⟨(hF x).mp a, fun t ht z => b t ht ((hF t).mpr z)⟩
      · exact Or.inr ⟨a, fun t z => b t ((hF t).mpr z)⟩
    clear p2
    rw [q_X4_place_L4, e1, if_neg hni, p1, zbp_some]
    simp only [zlet_b]
    rw [zw_s hi6]
    have lt1 : ∀ {c : Int}, c < ((i + 1 : Nat) : Int) → c < (i : Int) ∨ c = (i : Int) := fun h => by omega
    rcases p3 with ⟨a, bb⟩ | ⟨a, bb⟩
    · have hx := a.pos w
      have hx1 : ¬ x = -1 := by omega
      have hge : ∀ t, Fit (vw h.1 A) (fun _ => False) k (i : Int) t → x ≤ t := fun t ht => by
        by_cases z : t < x
        · exact absurd ht (bb t z)
        · omega
      rw [if_neg hx1]
      rcases hp with ⟨b1, b2, b3⟩ | ⟨c, b2, b3⟩
      · rw [if_pos b1]
        refine ih (i + 1) f' x (zput g (A + (25 + k)) 6 (i : Int)) (by omega) (by omega) (Or.inr ⟨(i : Int), by rw [b2], ⟨by omega, by omega⟩, a, fun c' t z1 z2 z3 => ?_⟩)
        rcases lt1 z2 with z2 | z2
        · exact absurd z3 (b3 c' t z1 z2)
        · subst z2
          have := hge t z3
          omega
      · have hb := b3.2.1.pos w
        have hb1 : ¬ b = -1 := by omega
        rw [if_neg hb1]
        by_cases q : b ≤ x
        · rw [if_pos q]
          refine ih (i + 1) f' b g (by omega) (by omega) (Or.inr ⟨c, b2, ⟨b3.1.1, by have := b3.1.2; omega⟩, b3.2.1, fun c' t z1 z2 z3 => ?_⟩)
          rcases lt1 z2 with z2 | z2
          · exact b3.2.2 c' t z1 z2 z3
          · subst z2
            have := hge t z3
            have := b3.1.2
            omega
        · rw [if_neg q]
          refine ih (i + 1) f' x (zput g (A + (25 + k)) 6 (i : Int)) (by omega) (by omega) (Or.inr ⟨(i : Int), by rw [b2, zput_put], ⟨by omega, by omega⟩, a, fun c' t z1 z2 z3 => ?_⟩)
          rcases lt1 z2 with z2 | z2
          · have := b3.2.2 c' t z1 z2 z3
            omega
          · subst z2
            have := hge t z3
            omega
    · rw [if_pos a]
      refine ih (i + 1) f' b g (by omega) (by omega) ?_
      rcases hp with ⟨b1, b2, b3⟩ | ⟨c, b2, b3⟩
      · refine Or.inl ⟨b1, b2, fun c' t z1 z2 z3 => ?_⟩
        rcases lt1 z2 with z2 | z2
        · exact b3 c' t z1 z2 z3
        · subst z2
          exact bb t z3
      · refine Or.inr ⟨c, b2, ⟨b3.1.1, by have := b3.1.2; omega⟩, b3.2.1, fun c' t z1 z2 z3 => ?_⟩
        rcases lt1 z2 with z2 | z2
        · exact b3.2.2 c' t z1 z2 z3
        · subst z2
          exact absurd z3 (bb t)
theorem e4_place (hc : CV h A) {k : Nat} (hk : (k : Int) < vw h.1 A 0 7) (hk5 : vw h.1 A (25 + k) 5 ≠ 1) : ∃ r h', q_X4_place h A (A + (25 + k)) = some (r, h') ∧ BP (vw h.1 A) k (vw h'.1 A) r ∧ Frm A h h' := by
  have w := hc.2
  have hn := w.nC
  have hC4 := w.2.1
  obtain ⟨C, hC⟩ : ∃ C : Nat, vw h.1 A 0 1 = (C : Int) := ⟨(vw h.1 A 0 1).toNat, by omega⟩
  unfold q_X4_place
  obtain ⟨b, g, p1, p2⟩ := m_place hc hk hk5 hC (K := fun x8 x9 h10 => if x8 = (-1) then (some (0, h10)) else (zlet (zput h10 (A + (25 + k)) 7 x8) (fun h12 => zlet (zput h12 (A + (25 + k)) 5 1) (fun h13 => if h13.1 (A + (25 + k)) 9 = (-1) then (zlet (zput h13 (A + (25 + k)) 9 (h13.1 A 0)) (fun h14 => some (1, h14))) else (some (1, h13)))))) C 0 zF (-1) h (Nat.zero_add _) (by unfold zF; omega) (Or.inl ⟨rfl, rfl, fun c t z1 z2 => by omega⟩)
  have p1' := p1
  clear p1
  rw [show ((0 : Nat) : Int) = 0 from rfl] at p1'
  rw [p1']
  rcases p2 with ⟨b1, b2, b3⟩ | ⟨c, b2, b3⟩
  · rw [if_pos b1, b2]
    exact ⟨0, h, rfl, Or.inr ⟨fun c t z1 z2 => b3 c t z1 (by omega), rfl, rfl⟩, Frm.rf⟩
  · have hb := b3.2.1.pos w
    have hb1 : ¬ b = -1 := by omega
    have ho : 25 + k < 41 := by omega
    have n0 : A ≠ A + (25 + k) := by omega
    rw [if_neg hb1, b2]
    simp only [zlet_b]
    rw [← hC] at b3
    have f1 : Frm A h (zput (zput (zput h (A + (25 + k)) 6 c) (A + (25 + k)) 7 b) (A + (25 + k)) 5 1) := ((Frm.rf.put ho).put ho).put ho
    have e9 : (zput (zput (zput h (A + (25 + k)) 6 c) (A + (25 + k)) 7 b) (A + (25 + k)) 5 1).1 (A + (25 + k)) 9 = vw h.1 A (25 + k) 9 := by
      rw [zput_ne (by omega), zput_ne (by omega), zput_ne (by omega), vw_at ho]
    have e0 : (zput (zput (zput h (A + (25 + k)) 6 c) (A + (25 + k)) 7 b) (A + (25 + k)) 5 1).1 A 0 = vw h.1 A 0 0 := by
      rw [zput_ne (fun z => n0 z.1), zput_ne (fun z => n0 z.1), zput_ne (fun z => n0 z.1), a_0]
    rw [e9, e0]
    by_cases q : vw h.1 A (25 + k) 9 = -1
    · rw [if_pos q]
      refine ⟨1, _, rfl, Or.inl ⟨c, b, b3, ?_, rfl⟩, f1.put ho⟩
      rw [vw_put ho, vw_put ho, vw_put ho, vw_put ho]
      unfold vpl
      rw [if_pos q]
    · rw [if_neg q]
      refine ⟨1, _, rfl, Or.inl ⟨c, b, b3, ?_, rfl⟩, f1⟩
      rw [vw_put ho, vw_put ho, vw_put ho]
      unfold vpl
      rw [if_neg q]
      refine (vup_id ?_).symm
      rw [vup_ne (by omega), vup_ne (by omega), vup_ne (by omega)]
end CL
