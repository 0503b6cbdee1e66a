/-! What whole's parts 64 65 66 67 68 69 say of the class alone. -/
def vup (v : Nat → Nat → Int) (o j : Nat) (x : Int) : Nat → Nat → Int := fun a i => if a = o ∧ i = j then x else v a i
theorem vup_at {v : Nat → Nat → Int} {o j : Nat} {x : Int} : vup v o j x o j = x := by unfold vup; rw [if_pos ⟨rfl, rfl⟩]
theorem vup_ne {v : Nat → Nat → Int} {o j a i : Nat} {x : Int} (hn : ¬ (a = o ∧ i = j)) : vup v o j x a i = v a i := by unfold vup; rw [if_neg hn]
theorem vup_id {v : Nat → Nat → Int} {o j : Nat} {x : Int} (hx : x = v o j) : vup v o j x = v := by
  funext a i
  unfold vup
  by_cases e : a = o ∧ i = j
  · rw [if_pos e, hx, e.1, e.2]
  · rw [if_neg e]
theorem vw_put {h : zH} {A o j : Nat} {x : Int} (ho : o < 41) : vw (zput h (A + o) j x).1 A = vup (vw h.1 A) o j x := by
  funext a i
  show vw _ A a i = if a = o ∧ i = j then x else vw h.1 A a i
  by_cases ha : a < 41
  · rw [vw_at ha, vw_at ha, zput_1]
    by_cases e : a = o ∧ i = j
    · rw [if_pos e, if_pos ⟨by omega, e.2⟩]
    · rw [if_neg e, if_neg (fun z => e ⟨by omega, z.2⟩)]
  · have e : ∀ g : Nat → Nat → Int, vw g A a i = 0 := fun g => by
      unfold vw
      rw [if_neg ha]
    rw [e, e, if_neg (fun z => by omega)]
theorem zput_put {h : zH} {a j : Nat} {x y : Int} : zput (zput h a j x) a j y = zput h a j y := by
  refine Prod.ext ?_ rfl
  funext b i
  by_cases e : b = a ∧ i = j
  · rw [zput_1, if_pos e, zput_1, if_pos e]
  · rw [zput_ne e, zput_ne e, zput_ne e]
/-- only the State at A may differ -/
def Frm (A : Nat) (h g : zH) : Prop := g.2 = h.2 ∧ ∀ a j, (a < A ∨ A + 41 ≤ a) → g.1 a j = h.1 a j
theorem Frm.rf {A : Nat} {h : zH} : Frm A h h := ⟨rfl, fun _ _ _ => rfl⟩
theorem Frm.tr {A : Nat} {h g f : zH} (h1 : Frm A h g) (h2 : Frm A g f) : Frm A h f := ⟨h2.1.trans h1.1, fun a j q => (h2.2 a j q).trans (h1.2 a j q)⟩
theorem Frm.put {A o j : Nat} {x : Int} {h g : zH} (h1 : Frm A h g) (ho : o < 41) : Frm A h (zput g (A + o) j x) := ⟨h1.1, fun a i q => (zput_ne (fun z => by omega)).trans (h1.2 a i q)⟩
theorem WF.call {v u : Nat → Nat → Int} {k : Nat} (w : WF v) (he : ∀ o j, o ≠ 25 + k → u o j = v o j) (hc : (k : Int) < v 0 7 → WFc u k) : WF u := by
  have e0 : u 0 = v 0 := funext fun j => he 0 j (by omega)
  have e1 : u 1 = v 1 := funext fun j => he 1 j (by omega)
  obtain ⟨a1, a2, a3, a4, a5, a6, a7, a8, a9⟩ := w
  refine ⟨by rw [e0]; exact a1, by rw [e0]; exact a2, by rw [e0]; exact a3, by rw [e0]; exact a4, by rw [e0]; exact a5, by rw [e1]; exact a6, fun s hs => ?_, fun r hr => ?_, fun l hl => ?_⟩
  · rw [e0] at hs
    have e2 : u (5 + 2 * s) = v (5 + 2 * s) := funext fun j => he _ j (by omega)
    have e3 : u (6 + 2 * s) = v (6 + 2 * s) := funext fun j => he _ j (by omega)
    unfold WFs
    rw [e0, e2, e3]
    exact a7 s hs
  · rw [e0] at hr
    have e2 : u (17 + r) = v (17 + r) := funext fun j => he _ j (by omega)
    unfold WFr
    rw [e0, e2]
    exact a8 r hr
  · rw [e0] at hl
    by_cases e : l = k
    · subst e
      exact hc hl
    · have e2 : u (25 + l) = v (25 + l) := funext fun j => he _ j (by omega)
      unfold WFc
      rw [e0, e1, e2]
      exact a9 l hl
/-- the calls are the same, as far as placing looks -/
def Ceq (v u : Nat → Nat → Int) : Prop := (v 0 0 = u 0 0 ∧ v 0 1 = u 0 1 ∧ v 0 7 = u 0 7) ∧ (∀ j, j < 4 → v 1 j = u 1 j) ∧ ∀ k : Nat, (k : Int) < v 0 7 → (∀ j, j < 6 → v (25 + k) j = u (25 + k) j) ∧ v (25 + k) 9 = u (25 + k) 9 ∧ (v (25 + k) 5 = 1 → v (25 + k) 6 = u (25 + k) 6 ∧ v (25 + k) 7 = u (25 + k) 7)
theorem Ceq.rf {v : Nat → Nat → Int} : Ceq v v := ⟨⟨rfl, rfl, rfl⟩, fun _ _ => rfl, fun _ _ => ⟨fun _ _ => rfl, rfl, fun _ => ⟨rfl, rfl⟩⟩⟩
theorem Ceq.sym {v u : Nat → Nat → Int} (h : Ceq v u) : Ceq u v := by
  obtain ⟨⟨a1, a2, a3⟩, b, c⟩ := h
  refine ⟨⟨a1.symm, a2.symm, a3.symm⟩, fun j hj => (b j hj).symm, fun k hk => ?_⟩
  rw [← a3] at hk
  obtain ⟨c1, c2, c3⟩ := c k hk
  refine ⟨fun j hj => (c1 j hj).symm, c2.symm, fun h5 => ?_⟩
  rw [← c1 5 (by decide)] at h5
  exact ⟨(c3 h5).1.symm, (c3 h5).2.symm⟩
theorem Ceq.fit1 {v u : Nat → Nat → Int} (h : Ceq v u) {W : Nat → Prop} {k : Nat} (hk : (k : Int) < v 0 7) {c t : Int} (hF : Fit v W k c t) : Fit u W k c t := by
  obtain ⟨⟨a1, a2, a3⟩, b, cc⟩ := h
  have b0 := b 0 (by decide)
  have b1 := b 1 (by decide)
  have b2 := b 2 (by decide)
  obtain ⟨k1, _, _⟩ := cc k hk
  have k0 := k1 0 (by decide)
  have k11 := k1 1 (by decide)
  have k3 := k1 3 (by decide)
  obtain ⟨f1, f2, f3⟩ := Fit.iff.mp hF
  refine Fit.iff.mpr ⟨by rw [← b1, ← b2]; exact f1, by rw [← b0, ← b1, ← k3]; exact f2, fun l hl hW hw => ?_⟩
  rw [← a3] at hl
  obtain ⟨l1, _, l3⟩ := cc l hl
  obtain ⟨w1, w2, w3, w4⟩ := hw
  rw [← l1 5 (by decide)] at w1
  obtain ⟨m6, m7⟩ := l3 w1
  rw [← m7, ← b1] at w2 w3
  rw [← l1 3 (by decide)] at w2
  rw [← k3] at w3
  rw [← m6, ← l1 0 (by decide), ← l1 1 (by decide), ← k0, ← k11] at w4
  exact f3 l hl hW ⟨w1, w2, w3, w4⟩
theorem Ceq.fit {v u : Nat → Nat → Int} (h : Ceq v u) {W : Nat → Prop} {k : Nat} (hk : (k : Int) < v 0 7) {c t : Int} : Fit v W k c t ↔ Fit u W k c t :=
  ⟨h.fit1 hk, h.sym.fit1 (by rw [← h.1.2.2]; exact hk)⟩
/-- the best of all carriers and starts -/
def Bs (F : Int → Int → Prop) (C c s : Int) : Prop := (0 ≤ c ∧ c < C) ∧ F c s ∧ ∀ c' t, 0 ≤ c' → c' < C → F c' t → s < t ∨ (s = t ∧ c ≤ c')
theorem Bs.uniq {F : Int → Int → Prop} {C c s c' s' : Int} (h1 : Bs F C c s) (h2 : Bs F C c' s') : c = c' ∧ s = s' := by
  have a := h1.2.2 c' s' h2.1.1 h2.1.2 h2.2.1
  have b := h2.2.2 c s h1.1.1 h1.1.2 h1.2.1
  omega
/-- a call as it stands when it is placed -/
def vpl (v : Nat → Nat → Int) (k : Nat) (c s : Int) : Nat → Nat → Int := vup (vup (vup (vup v (25 + k) 6 c) (25 + k) 7 s) (25 + k) 5 1) (25 + k) 9 (if v (25 + k) 9 = -1 then v 0 0 else v (25 + k) 9)
theorem vpl_ne {v : Nat → Nat → Int} {k : Nat} {c s : Int} {o j : Nat} (h : ¬ (o = 25 + k ∧ (j = 5 ∨ j = 6 ∨ j = 7 ∨ j = 9))) : vpl v k c s o j = v o j := by
  unfold vpl
  rw [vup_ne (by omega), vup_ne (by omega), vup_ne (by omega), vup_ne (by omega)]
theorem vpl_5 {v : Nat → Nat → Int} {k : Nat} {c s : Int} : vpl v k c s (25 + k) 5 = 1 := by
  unfold vpl
  rw [vup_ne (by omega), vup_at]
theorem vpl_6 {v : Nat → Nat → Int} {k : Nat} {c s : Int} : vpl v k c s (25 + k) 6 = c := by
  unfold vpl
  rw [vup_ne (by omega), vup_ne (by omega), vup_ne (by omega), vup_at]
theorem vpl_7 {v : Nat → Nat → Int} {k : Nat} {c s : Int} : vpl v k c s (25 + k) 7 = s := by
  unfold vpl
  rw [vup_ne (by omega), vup_ne (by omega), vup_at]
theorem vpl_9 {v : Nat → Nat → Int} {k : Nat} {c s : Int} : vpl v k c s (25 + k) 9 = if v (25 + k) 9 = -1 then v 0 0 else v (25 + k) 9 := vup_at
/-- what placing does -/
def BP (v : Nat → Nat → Int) (k : Nat) (u : Nat → Nat → Int) (r : Int) : Prop := (∃ c s, Bs (Fit v (fun _ => False) k) (v 0 1) c s ∧ u = vpl v k c s ∧ r = 1) ∨ ((∀ c t, 0 ≤ c → c < v 0 1 → ¬ Fit v (fun _ => False) k c t) ∧ u = v ∧ r = 0)
theorem BP.uniq {v : Nat → Nat → Int} {k : Nat} {u u' : Nat → Nat → Int} {r r' : Int} (h : BP v k u r) (h' : BP v k u' r') : u = u' ∧ r = r' := by
  rcases h with ⟨c, s, a1, a2, a3⟩ | ⟨a1, a2, a3⟩ <;> rcases h' with ⟨c', s', b1, b2, b3⟩ | ⟨b1, b2, b3⟩
  · obtain ⟨e1, e2⟩ := a1.uniq b1
    subst e1 e2
    exact ⟨a2.trans b2.symm, a3.trans b3.symm⟩
  · exact absurd a1.2.1 (b1 c s a1.1.1 a1.1.2)
  · exact absurd b1.2.1 (a1 c' s' b1.1.1 b1.1.2)
  · exact ⟨a2.trans b2.symm, a3.trans b3.symm⟩
/-- what placing leaves -/
def Sta (v u : Nat → Nat → Int) : Prop := ∀ o j, ¬ (25 ≤ o ∧ (j = 5 ∨ j = 6 ∨ j = 7 ∨ j = 9)) → u o j = v o j
theorem Sta.rf {v : Nat → Nat → Int} : Sta v v := fun _ _ _ => rfl
theorem Sta.tr {v u z : Nat → Nat → Int} (h1 : Sta v u) (h2 : Sta u z) : Sta v z := fun o j q => (h2 o j q).trans (h1 o j q)
theorem BP.sta {v : Nat → Nat → Int} {k : Nat} {u : Nat → Nat → Int} {r : Int} (h : BP v k u r) : Sta v u := by
  intro o j q
  rcases h with ⟨c, s, a1, a2, a3⟩ | ⟨a1, a2, a3⟩
  · rw [a2, vpl_ne (by omega)]
  · rw [a2]
theorem BP.wf {v : Nat → Nat → Int} {k : Nat} {u : Nat → Nat → Int} {r : Int} (h : BP v k u r) (w : WF v) : WF u := by
  rcases h with ⟨c, s, a1, a2, a3⟩ | ⟨a1, a2, a3⟩
  · subst a2
    refine w.call (k := k) (fun o j q => vpl_ne (by omega)) (fun hk => ?_)
    obtain ⟨⟨c0, c1⟩, ⟨f1, f2, _⟩, _⟩ := a1
    have hf := w.1
    have hw := w.2.2.2.2.2.2.2.2 k hk
    unfold WFc at hw ⊢
    rw [vpl_5, vpl_6, vpl_7, vpl_9, vpl_ne (o := 0) (by omega), vpl_ne (o := 0) (by omega), vpl_ne (o := 0) (by omega), vpl_ne (o := 1) (by omega), vpl_ne (o := 1) (by omega), vpl_ne (o := 1) (by omega), vpl_ne (j := 0) (by omega), vpl_ne (j := 1) (by omega), vpl_ne (j := 2) (by omega), vpl_ne (j := 3) (by omega), vpl_ne (j := 4) (by omega), vpl_ne (j := 8) (by omega), vpl_ne (j := 10) (by omega)]
    obtain ⟨h0, h1, h2, h3, h4, h5, h6, h7, h8, h9, h10, h11⟩ := hw
    refine ⟨h0, h1, h2, h3, h4, h5, Or.inr (Or.inl rfl), h7, ?_, h9, trivial, fun _ => ⟨?_, ⟨c0, c1⟩, f1, f2⟩⟩
    · split <;> omega
    · split <;> omega
  · rw [a2]
    exact w
theorem awy_0 (j : Nat) : awy 0 j = false := by
  unfold awy
  have e : (zi 0).toBitVec = 0#32 := by decide
  rw [e]
  simp
theorem fit_0 {v : Nat → Nat → Int} {k : Nat} {c t : Int} : Fit v (fun l => awy 0 l = true) k c t ↔ Fit v (fun _ => False) k c t := by
  have e : (fun l => awy 0 l = true) = fun _ => False := funext fun l => by rw [awy_0]; simp
  rw [e]
section CL
variable {h : zH} {A : Nat}
def PI (v : Nat → Nat → Int) (k : Nat) (h : zH) (P i : Nat) (b : Int) (g : zH) : Prop := (b = -1 ∧ g = h ∧ ∀ c t : Int, 0 ≤ c → c < (i : Int) → ¬ Fit v (fun _ => False) k c t) ∨ (∃ c : Int, g = zput h P 6 c ∧ Bs (Fit v (fun _ => False) k) (i : Int) c b)
theorem pl_g (hc : CV h A) {k : Nat} (hk : (k : Int) < vw h.1 A 0 7) (hk5 : vw h.1 A (25 + k) 5 ≠ 1) {i : Nat} {b : Int} {g : zH} (hp : PI (vw h.1 A) k h (A + (25 + k)) i b g) : CV g A ∧ Ceq (vw h.1 A) (vw g.1 A) ∧ vw g.1 A 0 1 = vw h.1 A 0 1 ∧ vw g.1 A 0 7 = vw h.1 A 0 7 ∧ vw g.1 A (25 + k) 5 = vw h.1 A (25 + k) 5 := by
  have hn := hc.2.nC
  rcases hp with ⟨_, e, _⟩ | ⟨c, e, _⟩
  · subst e
    exact ⟨hc, Ceq.rf, rfl, rfl, rfl⟩
  · have ev : vw g.1 A = vup (vw h.1 A) (25 + k) 6 c := by rw [e, vw_put (by omega)]
    have e2 : g.2 = h.2 := by rw [e]; rfl
    have q : ∀ o j, ¬ (o = 25 + k ∧ j = 6) → vw g.1 A o j = vw h.1 A o j := fun o j z => by rw [ev, vup_ne z]
    refine ⟨⟨by rw [e2]; exact hc.1, hc.2.call (k := k) (fun o j z => q o j (by omega)) (fun _ => ?_)⟩, ⟨⟨(q 0 0 (by omega)).symm, (q 0 1 (by omega)).symm, (q 0 7 (by omega)).symm⟩, fun j hj => (q 1 j (by omega)).symm, fun l hl => ⟨fun j hj => (q _ j (by omega)).symm, (q _ 9 (by omega)).symm, fun h5 => ?_⟩⟩, q 0 1 (by omega), q 0 7 (by omega), q _ 5 (by omega)⟩
    · have hw := hc.2.2.2.2.2.2.2.2.2 k hk
      unfold WFc at hw ⊢
      rw [q 0 0 (by omega), q 0 3 (by omega), q _ 0 (by omega), q _ 1 (by omega), q _ 2 (by omega), q _ 3 (by omega), q _ 4 (by omega), q _ 5 (by omega), q _ 8 (by omega), q _ 9 (by omega), q _ 10 (by omega)]
      obtain ⟨h0, h1, h2, h3, h4, h5, h6, h7, h8, h9, h10, h11⟩ := hw
      exact ⟨h0, h1, h2, h3, h4, h5, h6, h7, h8, h9, h10, fun z => absurd z hk5⟩
    · have hl' : l ≠ k := fun z => hk5 (z ▸ h5)
      exact ⟨(q _ 6 (by omega)).symm, (q _ 7 (by omega)).symm⟩
theorem m_place (hc : CV h A) {k : Nat} (hk : (k : Int) < vw h.1 A 0 7) (hk5 : vw h.1 A (25 + k) 5 ≠ 1) {C : Nat} (hC : vw h.1 A 0 1 = (C : Int)) {K : Int → Int → zH → Option (Int × zH)} : ∀ (r i f : Nat) (b : Int) (g : zH), i + r = C → r < f → PI (vw h.1 A) k h (A + (25 + k)) i b g →
    ∃ b' g', q_X4_place_L4 A (A + (25 + k)) K f b (i : Int) g = K b' (C : Int) g' ∧ PI (vw h.1 A) k h (A + (25 + k)) C b' g' := by
  have w := hc.2
  have hn := w.nC
  have hC4 := w.2.1
  intro r
  induction r with
  | zero =>
    intro i f b g q1 q2 hp
    obtain ⟨f', rfl⟩ : ∃ f', f = f' + 1 := ⟨f - 1, by omega⟩
    have e : i = C := by omega
    subst e
    obtain ⟨g1, g2, g3, g4, g5⟩ := pl_g hc hk hk5 hp
    have e1 : g.1 A 1 = (i : Int) := by rw [a_0, g3, hC]
    refine ⟨b, g, ?_, hp⟩
    rw [q_X4_place_L4, e1, if_pos (Int.le_refl _)]
  | succ r ih =>
    intro i f b g q1 q2 hp
    obtain ⟨f', rfl⟩ : ∃ f', f = f' + 1 := ⟨f - 1, by omega⟩
    obtain ⟨g1, g2, g3, g4, g5⟩ := pl_g hc hk hk5 hp
    have e1 : g.1 A 1 = (C : Int) := by rw [a_0, g3, hC]
    have hi6 : i < 1000000 := by omega
    have hni : ¬ (C : Int) ≤ (i : Int) := by omega
    obtain ⟨x, p1, p2⟩ := e4_leastStart g1 (k := k) (by rw [g4]; exact hk) (by rw [g5]; exact hk5) (i : Int) 0
    have hF : ∀ t, Fit (vw g.1 A) (fun l => awy 0 l = true) k (i : Int) t ↔ Fit (vw h.1 A) (fun _ => False) k (i : Int) t := fun t => fit_0.trans (g2.fit hk).symm
    have p3 : (Fit (vw h.1 A) (fun _ => False) k (i : Int) x ∧ ∀ t, t < x → ¬ Fit (vw h.1 A) (fun _ => False) k (i : Int) t) ∨ (x = -1 ∧ ∀ t, ¬ Fit (vw h.1 A) (fun _ => False) k (i : Int) t) := by
      rcases p2 with ⟨a, b⟩ | ⟨a, b⟩
      · exact Or.inl ⟨(hF x).mp a, fun t ht z => b t ht ((hF t).mpr z)⟩
      · exact Or.inr ⟨a, fun t z => b t ((hF t).mpr z)⟩
    clear p2
    rw [q_X4_place_L4, e1, if_neg hni, p1, zbp_some]
    simp only [zlet_b]
    rw [zw_s hi6]
    have lt1 : ∀ {c : Int}, c < ((i + 1 : Nat) : Int) → c < (i : Int) ∨ c = (i : Int) := fun h => by omega
    rcases p3 with ⟨a, bb⟩ | ⟨a, bb⟩
    · have hx := a.pos w
      have hx1 : ¬ x = -1 := by omega
      have hge : ∀ t, Fit (vw h.1 A) (fun _ => False) k (i : Int) t → x ≤ t := fun t ht => by
        by_cases z : t < x
        · exact absurd ht (bb t z)
        · omega
      rw [if_neg hx1]
      rcases hp with ⟨b1, b2, b3⟩ | ⟨c, b2, b3⟩
      · rw [if_pos b1]
        refine ih (i + 1) f' x (zput g (A + (25 + k)) 6 (i : Int)) (by omega) (by omega) (Or.inr ⟨(i : Int), by rw [b2], ⟨by omega, by omega⟩, a, fun c' t z1 z2 z3 => ?_⟩)
        rcases lt1 z2 with z2 | z2
        · exact absurd z3 (b3 c' t z1 z2)
        · subst z2
          have := hge t z3
          omega
      · have hb := b3.2.1.pos w
        have hb1 : ¬ b = -1 := by omega
        rw [if_neg hb1]
        by_cases q : b ≤ x
        · rw [if_pos q]
          refine ih (i + 1) f' b g (by omega) (by omega) (Or.inr ⟨c, b2, ⟨b3.1.1, by have := b3.1.2; omega⟩, b3.2.1, fun c' t z1 z2 z3 => ?_⟩)
          rcases lt1 z2 with z2 | z2
          · exact b3.2.2 c' t z1 z2 z3
          · subst z2
            have := hge t z3
            have := b3.1.2
            omega
        · rw [if_neg q]
          refine ih (i + 1) f' x (zput g (A + (25 + k)) 6 (i : Int)) (by omega) (by omega) (Or.inr ⟨(i : Int), by rw [b2, zput_put], ⟨by omega, by omega⟩, a, fun c' t z1 z2 z3 => ?_⟩)
          rcases lt1 z2 with z2 | z2
          · have := b3.2.2 c' t z1 z2 z3
            omega
          · subst z2
            have := hge t z3
            omega
    · rw [if_pos a]
      refine ih (i + 1) f' b g (by omega) (by omega) ?_
      rcases hp with ⟨b1, b2, b3⟩ | ⟨c, b2, b3⟩
      · refine Or.inl ⟨b1, b2, fun c' t z1 z2 z3 => ?_⟩
        rcases lt1 z2 with z2 | z2
        · exact b3 c' t z1 z2 z3
        · subst z2
          exact bb t z3
      · refine Or.inr ⟨c, b2, ⟨b3.1.1, by have := b3.1.2; omega⟩, b3.2.1, fun c' t z1 z2 z3 => ?_⟩
        rcases lt1 z2 with z2 | z2
        · exact b3.2.2 c' t z1 z2 z3
        · subst z2
          exact absurd z3 (bb t)
theorem e4_place (hc : CV h A) {k : Nat} (hk : (k : Int) < vw h.1 A 0 7) (hk5 : vw h.1 A (25 + k) 5 ≠ 1) : ∃ r h', q_X4_place h A (A + (25 + k)) = some (r, h') ∧ BP (vw h.1 A) k (vw h'.1 A) r ∧ Frm A h h' := by
  have w := hc.2
  have hn := w.nC
  have hC4 := w.2.1
  obtain ⟨C, hC⟩ : ∃ C : Nat, vw h.1 A 0 1 = (C : Int) := ⟨(vw h.1 A 0 1).toNat, by omega⟩
  unfold q_X4_place
  obtain ⟨b, g, p1, p2⟩ := m_place hc hk hk5 hC (K := fun x8 x9 h10 => if x8 = (-1) then (some (0, h10)) else (zlet (zput h10 (A + (25 + k)) 7 x8) (fun h12 => zlet (zput h12 (A + (25 + k)) 5 1) (fun h13 => if h13.1 (A + (25 + k)) 9 = (-1) then (zlet (zput h13 (A + (25 + k)) 9 (h13.1 A 0)) (fun h14 => some (1, h14))) else (some (1, h13)))))) C 0 zF (-1) h (Nat.zero_add _) (by unfold zF; omega) (Or.inl ⟨rfl, rfl, fun c t z1 z2 => by omega⟩)
  have p1' := p1
  clear p1
  rw [show ((0 : Nat) : Int) = 0 from rfl] at p1'
  rw [p1']
  rcases p2 with ⟨b1, b2, b3⟩ | ⟨c, b2, b3⟩
  · rw [if_pos b1, b2]
    exact ⟨0, h, rfl, Or.inr ⟨fun c t z1 z2 => b3 c t z1 (by omega), rfl, rfl⟩, Frm.rf⟩
  · have hb := b3.2.1.pos w
    have hb1 : ¬ b = -1 := by omega
    have ho : 25 + k < 41 := by omega
    have n0 : A ≠ A + (25 + k) := by omega
    rw [if_neg hb1, b2]
    simp only [zlet_b]
    rw [← hC] at b3
    have f1 : Frm A h (zput (zput (zput h (A + (25 + k)) 6 c) (A + (25 + k)) 7 b) (A + (25 + k)) 5 1) := ((Frm.rf.put ho).put ho).put ho
    have e9 : (zput (zput (zput h (A + (25 + k)) 6 c) (A + (25 + k)) 7 b) (A + (25 + k)) 5 1).1 (A + (25 + k)) 9 = vw h.1 A (25 + k) 9 := by
      rw [zput_ne (by omega), zput_ne (by omega), zput_ne (by omega), vw_at ho]
    have e0 : (zput (zput (zput h (A + (25 + k)) 6 c) (A + (25 + k)) 7 b) (A + (25 + k)) 5 1).1 A 0 = vw h.1 A 0 0 := by
      rw [zput_ne (fun z => n0 z.1), zput_ne (fun z => n0 z.1), zput_ne (fun z => n0 z.1), a_0]
    rw [e9, e0]
    by_cases q : vw h.1 A (25 + k) 9 = -1
    · rw [if_pos q]
      refine ⟨1, _, rfl, Or.inl ⟨c, b, b3, ?_, rfl⟩, f1.put ho⟩
      rw [vw_put ho, vw_put ho, vw_put ho, vw_put ho]
      unfold vpl
      rw [if_pos q]
    · rw [if_neg q]
      refine ⟨1, _, rfl, Or.inl ⟨c, b, b3, ?_, rfl⟩, f1⟩
      rw [vw_put ho, vw_put ho, vw_put ho]
      unfold vpl
      rw [if_neg q]
      refine (vup_id ?_).symm
      rw [vup_ne (by omega), vup_ne (by omega), vup_ne (by omega)]
end CL
/-- the best of what was tried -/
def BT (F : Int → Int → Prop) (C : Int) (T : Int → Int → Prop) (fc fs : Int) : Prop := (fc = -1 ∧ fs = -1 ∧ ∀ c t, T c t → ¬ F c t) ∨ ((0 ≤ fc ∧ fc < C) ∧ F fc fs ∧ ∀ c t, T c t → F c t → fs < t ∨ (fs = t ∧ fc ≤ c))
theorem BT.keep {F : Int → Int → Prop} {C : Int} {T T' : Int → Int → Prop} {fc fs : Int} (h : BT F C T fc fs) (hT : ∀ c t, T' c t → F c t → T c t ∨ (fc ≠ -1 ∧ (fs < t ∨ (fs = t ∧ fc ≤ c)))) : BT F C T' fc fs := by
  rcases h with ⟨h1, h2, h3⟩ | ⟨h1, h2, h3⟩
  · refine Or.inl ⟨h1, h2, fun c t q z => ?_⟩
    rcases hT c t q z with y | y
    · exact h3 c t y z
    · exact y.1 h1
  · refine Or.inr ⟨h1, h2, fun c t q z => ?_⟩
    rcases hT c t q z with y | y
    · exact h3 c t y z
    · exact y.2
theorem BT.new {F : Int → Int → Prop} {C : Int} {T T' : Int → Int → Prop} {fc fs c0 t0 : Int} (h : BT F C T fc fs) (hc : 0 ≤ c0 ∧ c0 < C) (hF : F c0 t0) (hs : fc = -1 ∨ t0 < fs ∨ (t0 = fs ∧ c0 < fc)) (hT : ∀ c t, T' c t → T c t ∨ (c = c0 ∧ t = t0)) : BT F C T' c0 t0 := by
  refine Or.inr ⟨hc, hF, fun c t q z => ?_⟩
  rcases hT c t q with y | ⟨y1, y2⟩
  · rcases h with ⟨h1, h2, h3⟩ | ⟨h1, h2, h3⟩
    · exact absurd z (h3 c t y)
    · have := h3 c t y z
      omega
  · omega
theorem zput4 {h : zH} {M : Nat} {a b c d : Int} : zput (zput (zput (zput h M 26 a) M 27 b) M 26 c) M 27 d = zput (zput h M 26 c) M 27 d := by
  refine Prod.ext ?_ rfl
  funext q i
  simp only [zput_1]
  by_cases e1 : q = M ∧ i = 27
  · rw [if_pos e1, if_pos e1]
  · rw [if_neg e1, if_neg e1]
    by_cases e2 : q = M ∧ i = 26
    · rw [if_pos e2, if_neg e1, if_pos e2]
    · rw [if_neg e2, if_neg e1, if_neg e2, if_neg e2]
section ML
variable {B : Nat}
/-- where a laid burst may begin -/
abbrev FL (v : Nat → Nat → Int) (cr sr : Nat → Int) (k : Nat) (c t : Int) : Prop := v 1 2 + v 1 1 ≤ t ∧ FitR v cr sr k c t
theorem FL.cand {v : Nat → Nat → Int} {cr sr : Nat → Int} {k : Nat} {c s : Int} (h : FL v cr sr k c s) (hl : ∀ t', t' < s → ¬ FL v cr sr k c t') : s = v 1 2 + v 1 1 ∨ ∃ l, l < nCl v ∧ cr l ≠ -1 ∧ s = sr l + v (25 + l) 3 + v 1 1 := by
  by_cases q : s = v 1 2 + v 1 1
  · exact Or.inl q
  · right
    obtain ⟨h1, h2, h3⟩ := h
    have hn := hl (s - 1) (by omega)
    refine Classical.byContradiction fun z => hn ⟨by omega, by omega, fun l hl hw => ?_⟩
    refine h3 l hl ⟨hw.1, ?_, ?_, hw.2.2.2⟩
    · have a := hw.2.1
      by_cases e : s = sr l + v (25 + l) 3 + v 1 1
      · exact absurd ⟨l, hl, hw.1, e⟩ z
      · omega
    · have := hw.2.2.1
      omega
theorem FL.least {v : Nat → Nat → Int} {cr sr : Nat → Int} {k : Nat} {c t : Int} (h : FL v cr sr k c t) : ∃ s, FL v cr sr k c s ∧ s ≤ t ∧ ∀ t', t' < s → ¬ FL v cr sr k c t' := by
  refine least_int (P := FL v cr sr k c) (lo := v 1 2 + v 1 1) (fun t' h' => h'.1) (t - (v 1 2 + v 1 1)).toNat t h ?_
  have := h.1
  omega
theorem BT.all {v : Nat → Nat → Int} {cr sr : Nat → Int} {k : Nat} {C fc fs : Int} {T : Int → Int → Prop} (h : BT (FL v cr sr k) C T fc fs) (hT : ∀ c s, 0 ≤ c → c < C → (s = v 1 2 + v 1 1 ∨ (v 1 2 + v 1 1 < s ∧ ∃ l, l < nCl v ∧ cr l ≠ -1 ∧ s = sr l + v (25 + l) 3 + v 1 1)) → T c s) : (fc = -1 ∧ fs = -1 ∧ ∀ c t, 0 ≤ c → c < C → ¬ FL v cr sr k c t) ∨ Bs (FL v cr sr k) C fc fs := by
  have hx : ∀ c t, 0 ≤ c → c < C → FL v cr sr k c t → ∃ s, FL v cr sr k c s ∧ s ≤ t ∧ T c s := by
    intro c t h0 h1 hF
    obtain ⟨s, s1, s2, s3⟩ := hF.least
    refine ⟨s, s1, s2, hT c s h0 h1 ?_⟩
    rcases s1.cand s3 with e | e
    · exact Or.inl e
    · by_cases e0 : s = v 1 2 + v 1 1
      · exact Or.inl e0
      · have := s1.1
        exact Or.inr ⟨by omega, e⟩
  rcases h with ⟨h1, h2, h3⟩ | ⟨h1, h2, h3⟩
  · refine Or.inl ⟨h1, h2, fun c t q0 q1 z => ?_⟩
    obtain ⟨s, s1, s2, s3⟩ := hx c t q0 q1 z
    exact h3 c s s3 s1
  · refine Or.inr ⟨h1, h2, fun c t q0 q1 z => ?_⟩
    obtain ⟨s, s1, s2, s3⟩ := hx c t q0 q1 z
    have := h3 c s s3 s1
    omega
end ML
section OPS
variable {B : Nat}
theorem layS_c {v : Nat → Nat → Int} (w : WF v) {x : Int} : ∀ l, l < nCl v → -1 ≤ layS v x l ∧ layS v x l ≤ v 1 0 := by
  intro l hl
  have hn := w.nC
  have hset := w.set
  unfold layS
  split
  · next q =>
    have ha := w.act (k := l) (by omega) q.1
    have hbu := (w.2.2.2.2.2.2.2.2 l (by omega)).2.2.2.2.1
    omega
  · omega
theorem e7_fits {h : zH} (hI : zInv B h) {k : Nat} (hk : (k : Int) < vw h.1 (B + 1) 0 7) (hk5 : vw h.1 (B + 1) (25 + k) 5 ≠ 1) (x : Int) {C : Nat} (hC : vw h.1 (B + 1) 0 1 = (C : Int)) : ∀ (r i f : Nat), i + r = C → r < f → (∀ c t, 0 ≤ c → c < (i : Int) → ¬ Fit (vw h.1 (B + 1)) (fun l => awy x l = true) k c t) →
    ∃ y, q_X7_fitsWithout_L18 h B x (B + 1 + (25 + k)) (fun _ => some 0) f (i : Int) = some y ∧ ((y = 1 ∧ ∃ c t, 0 ≤ c ∧ c < vw h.1 (B + 1) 0 1 ∧ Fit (vw h.1 (B + 1)) (fun l => awy x l = true) k c t) ∨ (y = 0 ∧ ∀ c t, 0 ≤ c → c < vw h.1 (B + 1) 0 1 → ¬ Fit (vw h.1 (B + 1)) (fun l => awy x l = true) k c t)) := by
  have hcv := hI.cv
  have w := hcv.2
  have hC4 := w.2.1
  intro r
  induction r with
  | zero =>
    intro i f q1 q2 hF
    obtain ⟨f', rfl⟩ : ∃ f', f = f' + 1 := ⟨f - 1, by omega⟩
    refine ⟨0, ?_, Or.inr ⟨rfl, fun c t z1 z2 => hF c t z1 (by omega)⟩⟩
    rw [q_X7_fitsWithout_L18, hI.r0, a_0, hC, if_pos (by omega)]
  | succ r ih =>
    intro i f q1 q2 hF
    obtain ⟨f', rfl⟩ : ∃ f', f = f' + 1 := ⟨f - 1, by omega⟩
    have hi6 : i < 1000000 := by omega
    have hni : ¬ (C : Int) ≤ (i : Int) := by omega
    obtain ⟨s, p1, p2⟩ := e4_leastStart hcv hk hk5 (i : Int) x
    rw [q_X7_fitsWithout_L18, hI.r0, a_0, hC, if_neg hni, p1, zbp_some]
    simp only [zlet_b]
    rw [zw_s hi6]
    rcases p2 with ⟨a, bb⟩ | ⟨a, bb⟩
    · have hx := a.pos w
      rw [if_neg (by omega)]
      exact ⟨1, rfl, Or.inl ⟨rfl, (i : Int), s, by omega, by omega, a⟩⟩
    · rw [if_pos a]
      rw [← hC]
      refine ih (i + 1) f' (by omega) (by omega) (fun c t z1 z2 => ?_)
      by_cases e : c = (i : Int)
      · rw [e]; exact bb t
      · exact hF c t z1 (by omega)
end OPS
theorem Enu.ex (S : Nat → Bool) (pr : Nat → Int) : ∀ n, ∃ c a, Enu S pr n c a := by
  intro n
  induction n with
  | zero => exact ⟨0, fun _ => 0, fun i z => by omega, fun k z => by omega, fun i j z1 z2 => by omega, rfl⟩
  | succ n ih =>
    obtain ⟨c, a, hE⟩ := ih
    by_cases hs : S n = true
    · have key : ∀ d, d ≤ c → ∃ p, p ≤ d ∧ (∀ j, p ≤ j → j < d → bf pr n (a j)) ∧ (p = 0 ∨ ¬ bf pr n (a (p - 1))) := by
        intro d
        induction d with
        | zero => exact fun _ => ⟨0, Nat.le_refl _, fun j z1 z2 => by omega, Or.inl rfl⟩
        | succ d ihd =>
          intro hd
          by_cases q : bf pr n (a d)
          · obtain ⟨p, p1, p2, p3⟩ := ihd (by omega)
            refine ⟨p, by omega, fun j z1 z2 => ?_, p3⟩
            by_cases e : j = d
            · rw [e]; exact q
            · exact p2 j z1 (by omega)
          · exact ⟨d + 1, Nat.le_refl _, fun j z1 z2 => by omega, Or.inr q⟩
      obtain ⟨p, p1, p2, p3⟩ := key c (Nat.le_refl _)
      exact ⟨c + 1, _, hE.ins hs p1 p2 p3⟩
    · exact ⟨c, a, hE.skip hs⟩
theorem Enu.uniq {S : Nat → Bool} {pr : Nat → Int} {n c c' : Nat} {a a' : Nat → Nat} (h : Enu S pr n c a) (h' : Enu S pr n c' a') : c = c' ∧ ∀ i, i < c → a i = a' i := by
  have ec : c = c' := h.2.2.2.trans h'.2.2.2.symm
  subst ec
  refine ⟨rfl, ?_⟩
  have key : ∀ m i, i < m → i < c → a i = a' i := by
    intro m
    induction m with
    | zero => intro i z; omega
    | succ m ih =>
      intro i hi hc
      by_cases e : i < m
      · exact ih i e hc
      · have ei : i = m := by omega
        subst ei
        obtain ⟨j, j1, j2⟩ := h'.2.1 (a i) (h.1 i hc).1 (h.1 i hc).2
        obtain ⟨l, l1, l2⟩ := h.2.1 (a' i) (h'.1 i hc).1 (h'.1 i hc).2
        have hj : i ≤ j := by
          refine Nat.le_of_not_lt (fun z => ?_)
          have := h.inj (i := j) (j := i) j1 hc ((ih j z j1).trans j2)
          omega
        have hl : i ≤ l := by
          refine Nat.le_of_not_lt (fun z => ?_)
          have := h'.inj (i := l) (j := i) l1 hc ((ih l z l1).symm.trans l2)
          omega
        by_cases ej : j = i
        · rw [ej] at j2
          exact j2.symm
        · by_cases el : l = i
          · rw [el] at l2
            exact l2
          · have b1 := h'.2.2.1 i j (by omega) j1
            rw [j2] at b1
            have b2 := h.2.2.1 i l (by omega) l1
            rw [l2] at b2
            exact absurd b1 (bf_as b2)
  exact fun i hi => key (i + 1) i (Nat.lt_succ_self i) hi
theorem Enu.congr {S S' : Nat → Bool} {pr pr' : Nat → Int} {n c : Nat} {a : Nat → Nat} (h : Enu S pr n c a) (hS : ∀ k, k < n → S k = S' k) (hp : ∀ k, k < n → pr k = pr' k) : Enu S' pr' n c a := by
  refine ⟨fun i hi => ⟨(h.1 i hi).1, ?_⟩, fun k hk hk2 => h.2.1 k hk (by rw [hS k hk]; exact hk2), fun i j hij hj => ?_, h.2.2.2.trans (nct_congr n hS)⟩
  · rw [← hS _ (h.1 i hi).1]
    exact (h.1 i hi).2
  · have e1 := hp _ (h.1 i (by omega)).1
    have e2 := hp _ (h.1 j hj).1
    have := h.2.2.1 i j hij hj
    unfold bf at this ⊢
    rw [← e1, ← e2]
    exact this
/-- calls placed in turn; how many found a place -/
def Run (a : Nat → Nat) : Nat → (Nat → Nat → Int) → (Nat → Nat → Int) → Int → Prop
  | 0, v, u, n => u = v ∧ n = 0
  | c + 1, v, u, n => ∃ u' n' r, Run a c v u' n' ∧ BP u' (a c) u r ∧ n = n' + r
theorem Run.uniq {a : Nat → Nat} {v : Nat → Nat → Int} : ∀ {c u u' n n'}, Run a c v u n → Run a c v u' n' → u = u' ∧ n = n' := by
  intro c
  induction c with
  | zero => rintro u u' n n' ⟨h1, h2⟩ ⟨h3, h4⟩; exact ⟨h1.trans h3.symm, h2.trans h4.symm⟩
  | succ c ih =>
    rintro u u' n n' ⟨w, x, r, h1, h2, h3⟩ ⟨w', x', r', g1, g2, g3⟩
    obtain ⟨e1, e2⟩ := ih h1 g1
    subst e1
    obtain ⟨e3, e4⟩ := h2.uniq g2
    exact ⟨e3, by rw [h3, g3, e2, e4]⟩
theorem Run.congr {a a' : Nat → Nat} {v : Nat → Nat → Int} : ∀ {c u n}, (∀ i, i < c → a i = a' i) → Run a c v u n → Run a' c v u n := by
  intro c
  induction c with
  | zero => exact fun _ h => h
  | succ c ih =>
    rintro u n he ⟨w, x, r, h1, h2, h3⟩
    exact ⟨w, x, r, ih (fun i hi => he i (by omega)) h1, by rw [← he c (by omega)]; exact h2, h3⟩
theorem Run.sta {a : Nat → Nat} {v : Nat → Nat → Int} : ∀ {c u n}, Run a c v u n → Sta v u := by
  intro c
  induction c with
  | zero => rintro u n ⟨h1, _⟩; rw [h1]; exact Sta.rf
  | succ c ih =>
    rintro u n ⟨w, x, r, h1, h2, h3⟩
    exact (ih h1).tr h2.sta
theorem Run.wf {a : Nat → Nat} {v : Nat → Nat → Int} (w : WF v) : ∀ {c u n}, Run a c v u n → WF u := by
  intro c
  induction c with
  | zero => rintro u n ⟨h1, _⟩; rw [h1]; exact w
  | succ c ih =>
    rintro u n ⟨w, x, r, h1, h2, h3⟩
    exact h2.wf (ih h1)
theorem BP.rest {v u : Nat → Nat → Int} {k l : Nat} {r : Int} (h : BP v k u r) (hl : k ≠ l) (j : Nat) : u (25 + l) j = v (25 + l) j := by
  rcases h with ⟨c, s, a1, a2, a3⟩ | ⟨a1, a2, a3⟩
  · rw [a2, vpl_ne (by omega)]
  · rw [a2]
theorem Run.rest {a : Nat → Nat} {v : Nat → Nat → Int} {k : Nat} : ∀ {c u n}, Run a c v u n → (∀ j, j < c → a j ≠ k) → ∀ j, u (25 + k) j = v (25 + k) j := by
  intro c
  induction c with
  | zero => rintro u n ⟨h1, _⟩ _ j; rw [h1]
  | succ c ih =>
    rintro u n ⟨w, x, r, h1, h2, h3⟩ hk j
    rw [h2.rest (hk c (by omega)) j]
    exact ih h1 (fun i hi => hk i (by omega)) j
theorem BP.r01 {v u : Nat → Nat → Int} {k : Nat} {r : Int} (h : BP v k u r) : r = 0 ∨ r = 1 := by
  rcases h with ⟨c, s, a1, a2, a3⟩ | ⟨a1, a2, a3⟩
  · exact Or.inr a3
  · exact Or.inl a3
theorem Run.cnt {a : Nat → Nat} {v : Nat → Nat → Int} : ∀ {c u n}, Run a c v u n → 0 ≤ n ∧ n ≤ (c : Int) := by
  intro c
  induction c with
  | zero => rintro u n ⟨_, h2⟩; omega
  | succ c ih =>
    rintro u n ⟨w, x, r, h1, h2, h3⟩
    have := ih h1
    have := h2.r01
    omega
theorem Run.pre {a : Nat → Nat} {v : Nat → Nat → Int} : ∀ {c u n} (i : Nat), Run a c v u n → i ≤ c → ∃ w x, Run a i v w x := by
  intro c
  induction c with
  | zero =>
    intro u n i h hi
    have e : i = 0 := by omega
    subst e
    exact ⟨u, n, h⟩
  | succ c ih =>
    intro u n i h hi
    by_cases e : i = c + 1
    · subst e
      exact ⟨u, n, h⟩
    · obtain ⟨w, x, r, h1, h2, h3⟩ := h
      exact ih i h1 (by omega)
theorem Run.step {a : Nat → Nat} {v u w : Nat → Nat → Int} {c i : Nat} {n x : Int} (h : Run a c v u n) (hi : i < c) (hw : Run a i v w x) : ∃ w' r, BP w (a i) w' r ∧ Run a (i + 1) v w' (x + r) := by
  obtain ⟨w', x', y⟩ := h.pre (i + 1) (by omega)
  obtain ⟨w2, x2, r, h1, h2, h3⟩ := y
  obtain ⟨e1, e2⟩ := hw.uniq h1
  subst e1 e2
  exact ⟨w', r, h2, w, x, r, h1, h2, rfl⟩
theorem Sta.n {v u : Nat → Nat → Int} (h : Sta v u) : nCl u = nCl v := by unfold nCl; rw [h 0 7 (by omega)]
section CL
variable {h : zH} {A : Nat}
theorem m_order (hc : CV h A) {c : Nat} {a : Nat → Nat} {S : Nat → Bool} (hE : Enu S (fun k => vw h.1 A (25 + k) 2) (nCl (vw h.1 A)) c a) (h5 : ∀ i, i < c → vw h.1 A (25 + a i) 5 ≠ 1) : ∀ (r i f m : Nat) (g : zH) (x : Int), i + r = c → r < f → Run a i (vw h.1 A) (vw g.1 A) x → Frm A h g → m < 65536 → (∀ k, k < nCl (vw h.1 A) → (m.testBit k = true ↔ ∃ j, i ≤ j ∧ j < c ∧ a j = k)) →
    ∃ h' n, q_X4_placeInOrder_L7 A (fun _ x9 _ h11 => some (x9, h11)) f (m : Int) x (i : Int) g = some (n, h') ∧ Run a c (vw h.1 A) (vw h'.1 A) n ∧ Frm A h h' := by
  have w := hc.2
  have hn := w.nC
  have hcn : c ≤ nCl (vw h.1 A) := by rw [hE.2.2.2]; exact nct_le _
  intro r
  induction r with
  | zero =>
    intro i f m g x q1 q2 hR hF hm hb
    obtain ⟨f', rfl⟩ : ∃ f', f = f' + 1 := ⟨f - 1, by omega⟩
    have e : i = c := by omega
    subst e
    have hcg : CV g A := ⟨by rw [hF.1]; exact hc.1, hR.wf w⟩
    have eng : nCl (vw g.1 A) = nCl (vw h.1 A) := hR.sta.n
    refine ⟨g, x, ?_, hR, hF⟩
    rw [q_X4_placeInOrder_L7, a_n7 hcg, eng]
    by_cases q : (nCl (vw h.1 A) : Int) ≤ (i : Int)
    · rw [if_pos q]
    · obtain ⟨b, k1, k2⟩ := e4_first hcg hm
      rw [eng] at k2
      have hb1 : b = -1 := by
        rcases k2 with ⟨z, _⟩ | ⟨s, z1, z2, z3, _⟩
        · exact z
        · obtain ⟨j, y1, y2, _⟩ := (hb s z2).mp z3
          omega
      rw [if_neg q, k1, zbp_some, if_pos hb1]
  | succ r ih =>
    intro i f m g x q1 q2 hR hF hm hb
    obtain ⟨f', rfl⟩ : ∃ f', f = f' + 1 := ⟨f - 1, by omega⟩
    have hcg : CV g A := ⟨by rw [hF.1]; exact hc.1, hR.wf w⟩
    have eng : nCl (vw g.1 A) = nCl (vw h.1 A) := hR.sta.n
    obtain ⟨b, k1, k2⟩ := e4_first hcg hm
    rw [eng] at k2
    have epr : (fun k => vw g.1 A (25 + k) 2) = fun k => vw h.1 A (25 + k) 2 := funext fun k => hR.sta _ _ (by omega)
    rw [epr] at k2
    have hic : i < c := by omega
    have hai := (hE.1 i hic).1
    have ha16 : a i < 16 := by omega
    have hb1 : b = (a i : Int) := hE.set hic hb k2
    have hbn : ¬ (a i : Int) = -1 := by omega
    have hni : ¬ (nCl (vw h.1 A) : Int) ≤ (i : Int) := by omega
    have hi6 : i < 1000000 := by omega
    obtain ⟨m', p1, p2, p3⟩ := z_rem hm ha16
    have hai7 : ((a i : Nat) : Int) < vw g.1 A 0 7 := by rw [hcg.2.nC.1, eng]; omega
    have hg5 : vw g.1 A (25 + a i) 5 ≠ 1 := by
      rw [hR.rest (fun j hj e => by
        have := hE.inj (i := j) (j := i) (by omega) hic e
        omega)]
      exact h5 i hic
    obtain ⟨rr, g', y1, y2, y3⟩ := e4_place hcg hai7 hg5
    have hcnt := hR.cnt
    have hR' : Run a (i + 1) (vw h.1 A) (vw g'.1 A) (x + rr) := ⟨_, _, _, hR, y2, rfl⟩
    have hb' : ∀ k, k < nCl (vw h.1 A) → (m'.testBit k = true ↔ ∃ j, i + 1 ≤ j ∧ j < c ∧ a j = k) := fun k hk => by
      rw [p3, Bool.and_eq_true, decide_eq_true_eq, hb k hk]
      constructor
      · rintro ⟨⟨j, z1, z2, z3⟩, z4⟩
        refine ⟨j, ?_, z2, z3⟩
        have : j ≠ i := fun z => z4 (by rw [← z3, z])
        omega
      · rintro ⟨j, z1, z2, z3⟩
        refine ⟨⟨j, by omega, z2, z3⟩, fun z => ?_⟩
        have := hE.inj (i := j) (j := i) z2 hic (z3.trans z)
        omega
    obtain ⟨h', n, o1, o2, o3⟩ := ih (i + 1) f' m' g' (x + rr) (by omega) (by omega) hR' (hF.tr y3) (by omega) hb'
    refine ⟨h', n, ?_, o2, o3⟩
    rw [q_X4_placeInOrder_L7, a_n7 hcg, eng, if_neg hni, k1, zbp_some, hb1, if_neg hbn]
    simp only [zlet_b]
    rw [zgpos ha16, p1, Int.toNat_natCast, a_call hcg, y1, zbd_some, zw_s hi6]
    rcases y2.r01 with z | z
    · rw [z] at o1 ⊢
      rw [if_pos rfl]
      rw [Int.add_zero] at o1
      exact o1
    · rw [z] at o1 ⊢
      have wx : zw (x + 1) = x + 1 := zw_id ⟨by omega, by omega⟩
      rw [if_neg one0, wx]
      exact o1
theorem e4_order (hc : CV h A) {m c : Nat} {a : Nat → Nat} (hm : m < 65536) (hE : Enu (fun k => m.testBit k) (fun k => vw h.1 A (25 + k) 2) (nCl (vw h.1 A)) c a) (h5 : ∀ i, i < c → vw h.1 A (25 + a i) 5 ≠ 1) : ∃ h' n, q_X4_placeInOrder h A (m : Int) = some (n, h') ∧ Run a c (vw h.1 A) (vw h'.1 A) n ∧ Frm A h h' := by
  have hcn : c ≤ nCl (vw h.1 A) := by rw [hE.2.2.2]; exact nct_le _
  have hn := hc.2.nC
  unfold q_X4_placeInOrder
  refine m_order hc hE h5 c 0 zF m h 0 (Nat.zero_add _) (by unfold zF; omega) ⟨rfl, rfl⟩ Frm.rf hm (fun k hk => ?_)
  constructor
  · intro z
    obtain ⟨j, z1, z2⟩ := hE.2.1 k hk z
    exact ⟨j, Nat.zero_le _, z1, z2⟩
  · rintro ⟨j, _, z1, z2⟩
    rw [← z2]
    exact (hE.1 j z1).2
end CL
section OPS
variable {B : Nat}
end OPS
def zSep (v : Nat → Nat → Int) : Prop := ∀ k l : Nat, (k : Int) < v 0 7 → (l : Int) < v 0 7 → k ≠ l → v (25 + k) 5 = 1 → v (25 + l) 5 = 1 → cfl v l k (v (25 + k) 6) → v (25 + k) 7 + v (25 + k) 3 + v 1 1 ≤ v (25 + l) 7 ∨ v (25 + l) 7 + v (25 + l) 3 + v 1 1 ≤ v (25 + k) 7
def zNof (v : Nat → Nat → Int) : Prop := ∀ k : Nat, (k : Int) < v 0 7 → v (25 + k) 5 = 0 → ∀ c t : Int, 0 ≤ c → c < v 0 1 → ¬ Fit v (fun _ => False) k c t
def zWt (v : Nat → Nat → Int) : Prop := ∀ k : Nat, (k : Int) < v 0 7 → v (25 + k) 5 = 0 → v (25 + k) 9 = -1
theorem GI.iff {v : Nat → Nat → Int} : GI v ↔ zSep v ∧ zNof v ∧ zWt v := Iff.rfl
theorem vpl_row {v : Nat → Nat → Int} {k l : Nat} {c s : Int} (h : l ≠ k) : vpl v k c s (25 + l) = v (25 + l) := funext fun j => vpl_ne (by omega)
theorem vpl_0 {v : Nat → Nat → Int} {k : Nat} {c s : Int} : vpl v k c s 0 = v 0 := funext fun j => vpl_ne (by omega)
theorem vpl_1 {v : Nat → Nat → Int} {k : Nat} {c s : Int} : vpl v k c s 1 = v 1 := funext fun j => vpl_ne (by omega)
theorem BP.sep {v u : Nat → Nat → Int} {k : Nat} {r : Int} (h : BP v k u r) (hk5 : v (25 + k) 5 ≠ 1) (hs : zSep v) : zSep u := by
  rcases h with ⟨c, s, a1, a2, a3⟩ | ⟨a1, a2, a3⟩
  · subst a2
    obtain ⟨_, ⟨f1, f2, f3⟩, _⟩ := a1
    intro x y hx hy hxy x5 y5 hc
    rw [vpl_0] at hx hy
    have k0 : vpl v k c s (25 + k) 0 = v (25 + k) 0 := vpl_ne (by omega)
    have k1 : vpl v k c s (25 + k) 1 = v (25 + k) 1 := vpl_ne (by omega)
    have k3 : vpl v k c s (25 + k) 3 = v (25 + k) 3 := vpl_ne (by omega)
    by_cases ex : x = k
    · subst ex
      have ey : y ≠ x := fun z => hxy z.symm
      unfold cfl at hc
      rw [vpl_row ey, vpl_6, k0, k1] at hc
      rw [vpl_row ey] at y5
      rw [vpl_row ey, vpl_1, vpl_7, k3]
      have := f3 y hy y5 id hc
      omega
    · by_cases ey : y = k
      · subst ey
        unfold cfl at hc
        rw [vpl_row ex, vpl_6, k0, k1] at hc
        rw [vpl_row ex] at x5
        rw [vpl_row ex, vpl_1, vpl_7, k3]
        have hc' : cfl v x y c := by
          unfold cfl
          rcases hc with z | z | z
          · exact Or.inl z.symm
          · exact Or.inr (Or.inl z.symm)
          · exact Or.inr (Or.inr z.symm)
        have := f3 x hx x5 id hc'
        omega
      · unfold cfl at hc
        rw [vpl_row ex, vpl_row ey] at hc
        rw [vpl_row ex] at x5
        rw [vpl_row ey] at y5
        rw [vpl_row ex, vpl_row ey, vpl_1]
        exact hs x y hx hy hxy x5 y5 hc
  · rw [a2]
    exact hs
/-- more bursts leave less room -/
theorem BP.fit {v u : Nat → Nat → Int} {k l : Nat} {r : Int} (h : BP v k u r) (hk5 : v (25 + k) 5 ≠ 1) (hl : l ≠ k) {c t : Int} (hF : Fit u (fun _ => False) l c t) : Fit v (fun _ => False) l c t := by
  rcases h with ⟨c', s, a1, a2, a3⟩ | ⟨a1, a2, a3⟩
  · subst a2
    obtain ⟨f1, f2, f3⟩ := Fit.iff.mp hF
    rw [vpl_1] at f1 f2
    rw [vpl_row hl] at f2
    refine Fit.iff.mpr ⟨f1, f2, fun m hm hW hw => ?_⟩
    have em : m ≠ k := fun z => hk5 (z ▸ hw.1)
    refine f3 m (by rw [vpl_0]; exact hm) hW ?_
    unfold isWay
    rw [vpl_row em, vpl_row hl, vpl_1]
    exact hw
  · rw [← a2]
    exact hF
theorem Run.sep {a : Nat → Nat} {v : Nat → Nat → Int} (hs : zSep v) : ∀ {c u n}, Run a c v u n → (∀ i j, i < c → j < c → a i = a j → i = j) → (∀ i, i < c → v (25 + a i) 5 ≠ 1) → zSep u := by
  intro c
  induction c with
  | zero => rintro u n ⟨h1, _⟩ _ _; rw [h1]; exact hs
  | succ c ih =>
    rintro u n ⟨w, x, r, h1, h2, h3⟩ hi h5
    refine h2.sep ?_ (ih h1 (fun i j z1 z2 => hi i j (by omega) (by omega)) (fun i z => h5 i (by omega)))
    rw [h1.rest (fun j hj e => by
      have := hi j c (by omega) (by omega) e
      omega)]
    exact h5 c (by omega)
theorem Run.nofit {a : Nat → Nat} {v : Nat → Nat → Int} : ∀ {c u n}, Run a c v u n → (∀ i j, i < c → j < c → a i = a j → i = j) → (∀ i, i < c → v (25 + a i) 5 ≠ 1) → ∀ i, i < c → u (25 + a i) 5 ≠ 1 → ∀ cc t, 0 ≤ cc → cc < v 0 1 → ¬ Fit u (fun _ => False) (a i) cc t := by
  intro c
  induction c with
  | zero => rintro u n _ _ _ i hi; omega
  | succ c ih =>
    rintro u n ⟨w, x, r, h1, h2, h3⟩ hi h5 i hic hu cc t hc0 hc1 hF
    have hwc : w (25 + a c) 5 ≠ 1 := by
      rw [h1.rest (fun j hj e => by
        have := hi j c (by omega) (by omega) e
        omega)]
      exact h5 c (by omega)
    by_cases e : i = c
    · subst e
      rcases h2 with ⟨c', s, a1, a2, a3⟩ | ⟨a1, a2, a3⟩
      · exact hu (by rw [a2]; exact vpl_5)
      · rw [a2] at hF
        exact a1 cc t hc0 (by rw [h1.sta 0 1 (by omega)]; exact hc1) hF
    · have en : a i ≠ a c := fun z => e (hi i c (by omega) (by omega) z)
      have hF' := h2.fit hwc en hF
      refine ih h1 (fun i j z1 z2 => hi i j (by omega) (by omega)) (fun i z => h5 i (by omega)) i (by omega) ?_ cc t hc0 hc1 hF'
      rw [← h2.rest (fun z => en z.symm)]
      exact hu
theorem BP.keep {v u : Nat → Nat → Int} {k l : Nat} {r : Int} (h : BP v k u r) (hl : u (25 + l) 5 ≠ 1) : u (25 + l) = v (25 + l) := by
  rcases h with ⟨c, s, a1, a2, a3⟩ | ⟨a1, a2, a3⟩
  · rw [a2] at hl ⊢
    by_cases e : l = k
    · subst e
      exact absurd vpl_5 hl
    · exact vpl_row e
  · rw [a2]
theorem Run.keep {a : Nat → Nat} {v : Nat → Nat → Int} {l : Nat} : ∀ {c u n}, Run a c v u n → u (25 + l) 5 ≠ 1 → u (25 + l) = v (25 + l) := by
  intro c
  induction c with
  | zero => rintro u n ⟨h1, _⟩ _; rw [h1]
  | succ c ih =>
    rintro u n ⟨w, x, r, h1, h2, h3⟩ hl
    have e := h2.keep hl
    rw [e]
    refine ih h1 ?_
    rw [← e]
    exact hl
/-- the waiting calls, in order -/
def Que (v : Nat → Nat → Int) (c : Nat) (a : Nat → Nat) : Prop := Enu (sMk v 1) (fun k => v (25 + k) 2) (nCl v) c a
theorem sMk_w {v : Nat → Nat → Int} (w : WF v) {k : Nat} (hk : k < nCl v) : sMk v 1 k = true ↔ v (25 + k) 5 = 0 := by
  have e := sIn_mk w 0 (by decide) k hk
  have e' : decide (v (25 + k) 5 = 0) = sMk v 1 k := e
  rw [← e', zdec]
theorem Que.w {v : Nat → Nat → Int} {c : Nat} {a : Nat → Nat} (w : WF v) (h : Que v c a) : ∀ i, i < c → a i < nCl v ∧ v (25 + a i) 5 = 0 := fun i hi => ⟨(h.1 i hi).1, (sMk_w w (h.1 i hi).1).mp (h.1 i hi).2⟩
theorem Que.ex (v : Nat → Nat → Int) : ∃ c a, Que v c a := Enu.ex _ _ _
theorem Que.good {v u : Nat → Nat → Int} {c : Nat} {a : Nat → Nat} {n : Int} (w : WF v) (hq : Que v c a) (hR : Run a c v u n) (hs : zSep v) (hw : zWt v) : Good u := by
  have hn := w.nC
  have h5 : ∀ i, i < c → v (25 + a i) 5 ≠ 1 := fun i hi => by
    have := (hq.w w i hi).2
    omega
  have hi : ∀ i j, i < c → j < c → a i = a j → i = j := fun i j z1 z2 e => hq.inj z1 z2 e
  have e7 : u 0 7 = v 0 7 := hR.sta 0 7 (by omega)
  have e1 : u 0 1 = v 0 1 := hR.sta 0 1 (by omega)
  refine ⟨hR.wf w, hR.sep hs hi h5, fun k hk hk5 cc t h0 h1 => ?_, fun k hk hk5 => ?_⟩
  · have er := hR.keep (l := k) (by omega)
    rw [er] at hk5
    rw [e7] at hk
    obtain ⟨i, i1, i2⟩ := hq.2.1 k (by omega) ((sMk_w w (by omega)).mpr hk5)
    have := hR.nofit hi h5 i i1 (by rw [i2, er]; omega) cc t h0 (by rw [← e1]; exact h1)
    rw [i2] at this
    exact this
  · have er := hR.keep (l := k) (by omega)
    rw [er] at hk5 ⊢
    rw [e7] at hk
    exact hw k hk hk5
/-- nobody waits that could find a place: serving changes nothing -/
theorem Que.idle {v : Nat → Nat → Int} {c : Nat} {a : Nat → Nat} (w : WF v) (hq : Que v c a) (hf : zNof v) : ∀ i, i ≤ c → Run a i v v 0 := by
  have hn := w.nC
  intro i
  induction i with
  | zero => exact fun _ => ⟨rfl, rfl⟩
  | succ i ih =>
    intro hi
    have z := hq.w w i (by omega)
    exact ⟨v, 0, 0, ih (by omega), Or.inr ⟨hf _ (by omega) z.2, rfl, rfl⟩, rfl⟩
