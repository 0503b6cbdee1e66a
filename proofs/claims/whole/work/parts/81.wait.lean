/-! How long a call has to wait. -/
section PU
variable {v u : Nat → Nat → Int}
theorem Ceq.bp (h : Ceq v u) {k : Nat} (hk : (k : Int) < v 0 7) {v' : Nat → Nat → Int} {r : Int} (hB : BP v k v' r) : ∃ u', BP u k u' r ∧ Ceq v' u' := by
  have hf : ∀ c t, Fit v (fun _ => False) k c t ↔ Fit u (fun _ => False) k c t := fun c t => h.fit hk
  have h' := h
  obtain ⟨⟨a1, a2, a3⟩, b, cc⟩ := h
  rcases hB with ⟨c, s, q1, q2, q3⟩ | ⟨q1, q2, q3⟩
  · refine ⟨vpl u k c s, Or.inl ⟨c, s, ⟨⟨q1.1.1, by rw [← a2]; exact q1.1.2⟩, (hf c s).mp q1.2.1, fun c' t h0 h1 hF => q1.2.2 c' t h0 (by rw [a2]; exact h1) ((hf c' t).mpr hF)⟩, rfl, q3⟩, ?_⟩
    subst q2
    have k9 := (cc k hk).2.1
    refine ⟨⟨?_, ?_, ?_⟩, fun j hj => ?_, fun l hl => ?_⟩
    · rw [vpl_ne (by omega), vpl_ne (by omega)]; exact a1
    · rw [vpl_ne (by omega), vpl_ne (by omega)]; exact a2
    · rw [vpl_ne (by omega), vpl_ne (by omega)]; exact a3
    · rw [vpl_ne (by omega), vpl_ne (by omega)]; exact b j hj
    · rw [vpl_ne (by omega)] at hl
      by_cases e : l = k
      · subst e
        refine ⟨fun j hj => ?_, ?_, fun _ => ⟨by rw [vpl_6, vpl_6], by rw [vpl_7, vpl_7]⟩⟩
        · by_cases e5 : j = 5
          · rw [e5, vpl_5, vpl_5]
          · rw [vpl_ne (by omega), vpl_ne (by omega)]
            exact (cc l hl).1 j hj
        · rw [vpl_9, vpl_9, k9, a1]
      · rw [vpl_row e, vpl_row e]
        exact cc l hl
  · refine ⟨u, Or.inr ⟨fun c t h0 h1 hF => q1 c t h0 (by rw [a2]; exact h1) ((hf c t).mpr hF), rfl, q3⟩, ?_⟩
    rw [q2]
    exact h'
theorem Ceq.run {a : Nat → Nat} : ∀ {c v' n}, Ceq v u → (∀ i, i < c → ((a i : Nat) : Int) < v 0 7) → Run a c v v' n → ∃ u', Run a c u u' n ∧ Ceq v' u' := by
  intro c
  induction c with
  | zero =>
    rintro v' n h _ ⟨h1, h2⟩
    exact ⟨u, ⟨rfl, h2⟩, by rw [h1]; exact h⟩
  | succ c ih =>
    rintro v' n h ha ⟨w, x, r, h1, h2, h3⟩
    obtain ⟨w', y1, y2⟩ := ih h (fun i hi => ha i (by omega)) h1
    obtain ⟨u', z1, z2⟩ := y2.bp (by rw [h1.sta 0 7 (by omega)]; exact ha c (by omega)) h2
    exact ⟨u', ⟨w', x, r, y1, z1, h3⟩, z2⟩
theorem Ceq.n (h : Ceq v u) : nCl u = nCl v := by unfold nCl; rw [h.1.2.2]
theorem Ceq.que (w : WF v) (h : Ceq v u) {c : Nat} {a : Nat → Nat} (hq : Que v c a) : Que u c a := by
  have hn := w.nC
  have e := h.n
  unfold Que at hq ⊢
  rw [e]
  refine hq.congr (fun k hk => ?_) (fun k hk => (h.2.2 k (by omega)).1 2 (by decide))
  unfold sMk
  rw [(h.2.2 k (by omega)).1 5 (by decide)]
theorem Ceq.tr {x : Nat → Nat → Int} (h1 : Ceq v u) (h2 : Ceq u x) : Ceq v x := by
  obtain ⟨⟨a1, a2, a3⟩, b, c⟩ := h1
  obtain ⟨⟨d1, d2, d3⟩, e, f⟩ := h2
  refine ⟨⟨a1.trans d1, a2.trans d2, a3.trans d3⟩, fun j hj => (b j hj).trans (e j hj), fun k hk => ?_⟩
  obtain ⟨c1, c2, c3⟩ := c k hk
  obtain ⟨f1, f2, f3⟩ := f k (by rw [← a3]; exact hk)
  refine ⟨fun j hj => (c1 j hj).trans (f1 j hj), c2.trans f2, fun h5 => ?_⟩
  obtain ⟨y1, y2⟩ := c3 h5
  obtain ⟨z1, z2⟩ := f3 (by rw [← c1 5 (by decide)]; exact h5)
  exact ⟨y1.trans z1, y2.trans z2⟩
theorem Ceq.frm (h : Ceq v u) : Ceq (pF v) (pF u) := by
  obtain ⟨⟨a1, a2, a3⟩, b, c⟩ := h
  have q : ∀ (x : Nat → Nat → Int) o j, ¬ (o = 0 ∧ j = 0) → pF x o j = x o j := fun x o j h => pF_ne h
  refine ⟨⟨by rw [pF_0, pF_0, a1], by rw [q v _ _ (by omega), q u _ _ (by omega)]; exact a2, by rw [q v _ _ (by omega), q u _ _ (by omega)]; exact a3⟩, fun j hj => by rw [q v _ _ (by omega), q u _ _ (by omega)]; exact b j hj, fun k hk => ?_⟩
  rw [q v 0 7 (by omega)] at hk
  obtain ⟨c1, c2, c3⟩ := c k hk
  refine ⟨fun j hj => by rw [q v _ _ (by omega), q u _ _ (by omega)]; exact c1 j hj, by rw [q v _ _ (by omega), q u _ _ (by omega)]; exact c2, fun h5 => ?_⟩
  rw [q v _ _ (by omega)] at h5
  rw [q v _ _ (by omega), q u _ _ (by omega), q v _ 7 (by omega), q u _ 7 (by omega)]
  exact c3 h5
theorem Ceq.ps (w : WF v) : Ceq v (pS v) := by
  have q : ∀ o j, (o < 5 ∨ 17 ≤ o) → pS v o j = v o j := fun o j h => pS_ne _ o j w.nS.2 h
  exact ⟨⟨(q _ _ (by omega)).symm, (q _ _ (by omega)).symm, (q _ _ (by omega)).symm⟩, fun j hj => (q _ _ (by omega)).symm, fun k hk => ⟨fun j hj => (q _ _ (by omega)).symm, (q _ _ (by omega)).symm, fun _ => ⟨(q _ _ (by omega)).symm, (q _ _ (by omega)).symm⟩⟩⟩
theorem Ceq.pt {m : Nat} (w : WF v) : Ceq v (pT v m) := by
  have q := pT_ceq (z := v) (m := m) w
  exact ⟨⟨(q _ _ (by omega) (by omega)).symm, (q _ _ (by omega) (by omega)).symm, (q _ _ (by omega) (by omega)).symm⟩, fun j hj => (q _ _ (by omega) (by omega)).symm, fun k hk => ⟨fun j hj => (q _ _ (by omega) (by omega)).symm, (q _ _ (by omega) (by omega)).symm, fun _ => ⟨(q _ _ (by omega) (by omega)).symm, (q _ _ (by omega) (by omega)).symm⟩⟩⟩
theorem Ceq.pn (w : WF v) (h : Ceq v u) : Ceq (pN v) (pN u) := by
  have hn := w.nC
  have en := h.n
  obtain ⟨⟨a1, a2, a3⟩, b, c⟩ := h
  have q : ∀ (x : Nat → Nat → Int) o j, ¬ (25 ≤ o ∧ j = 5) → pN x o j = x o j := fun x o j h => pN_ne _ o j (by omega)
  refine ⟨⟨by rw [q v _ _ (by omega), q u _ _ (by omega)]; exact a1, by rw [q v _ _ (by omega), q u _ _ (by omega)]; exact a2, by rw [q v _ _ (by omega), q u _ _ (by omega)]; exact a3⟩, fun j hj => by rw [q v _ _ (by omega), q u _ _ (by omega)]; exact b j hj, fun k hk => ?_⟩
  rw [q v 0 7 (by omega)] at hk
  obtain ⟨c1, c2, c3⟩ := c k hk
  have hkn : k < nCl v := by omega
  have e5v : pN v (25 + k) 5 = if v (25 + k) 5 = 1 ∧ v (25 + k) 9 + v (25 + k) 4 ≤ v 0 0 then 2 else v (25 + k) 5 := pN_5 _ hkn
  have e5u : pN u (25 + k) 5 = if u (25 + k) 5 = 1 ∧ u (25 + k) 9 + u (25 + k) 4 ≤ u 0 0 then 2 else u (25 + k) 5 := pN_5 _ (by rw [en]; exact hkn)
  have e5 : pN v (25 + k) 5 = pN u (25 + k) 5 := by rw [e5v, e5u, c1 5 (by decide), c1 4 (by decide), c2, a1]
  refine ⟨fun j hj => ?_, by rw [q v _ _ (by omega), q u _ _ (by omega)]; exact c2, fun h5 => ?_⟩
  · by_cases ej : j = 5
    · rw [ej]; exact e5
    · rw [q v _ _ (by omega), q u _ _ (by omega)]
      exact c1 j hj
  · rw [q v _ _ (by omega), q u _ _ (by omega), q v _ 7 (by omega), q u _ 7 (by omega)]
    rw [e5v] at h5
    refine c3 ?_
    by_cases z : v (25 + k) 5 = 1 ∧ v (25 + k) 9 + v (25 + k) 4 ≤ v 0 0
    · exact z.1
    · rw [if_neg z] at h5
      exact h5
/-- the trial goes on by a frame, the exchange can follow -/
theorem trial_pss {c : Nat} {a : Nat → Nat} {u' : Nat → Nat → Int} {n : Int} (w : WF u) (g : GI u) (hf : u 0 0 < 9999) (wv : WF v) (h : Ceq u v) (hq : Que (pN (pF u)) c a) (hR : Run a c (pN (pF u)) u' n) : ∃ v', Pss v v' ∧ Ceq u' v' := by
  have wf := w.frm hf
  have hf' : v 0 0 < 9999 := by rw [← h.1.1]; exact hf
  have wvf := wv.frm hf'
  have c1 : Ceq (pN (pF u)) (pN (pS (pF v))) := Ceq.pn wf (h.frm.tr (Ceq.ps wvf))
  have wn := (pN_all wf g.frm).1
  have hq' := c1.que wn hq
  have hn := wn.nC
  obtain ⟨z, z1, z2⟩ := c1.run (fun i hi => by
    have := (hq.1 i hi).1
    omega) hR
  have wz : WF z := z1.wf (Leq.wf Leq.rf (by
    have := pS_wf wvf (nSt (pF v)) (Nat.le_refl _)
    exact (pN_good this (Ceq.gi (h.frm.tr (Ceq.ps wvf)) g.frm).1 (Ceq.gi (h.frm.tr (Ceq.ps wvf)) g.frm).2.2 _).1))
  exact ⟨pT z (nset (wre (pS (pF v))) (nCl v)), ⟨c, a, z, n, hq', z1, rfl⟩, z2.tr (Ceq.pt wz)⟩
end PU
section OPS
variable {B : Nat}
theorem m_wait {k : Nat} {K8 : Int → zH → Option (Int × zH)} : ∀ (r i f f8 : Nat) (g : zH) (v : Nat → Nat → Int), i + r = 201 → 1 ≤ i → r < f → r < f8 → CV g (B + 42) → g.2 B 1 = B + 42 → Good (vw g.1 (B + 42)) → Good v → Ceq (vw g.1 (B + 42)) v → (k : Int) < v 0 7 → v (25 + k) 5 ≠ 1 →
    ∃ x g', q_X7_framesToWait_L26 B (k : Int) (fun _ h7 => some (-1, h7)) f (i : Int) g = some (x, g') ∧ Frm (B + 42) g g' ∧ ∀ g8, MV g8 (B + 541) v → ∃ (n' : Int) (g8' : zH) (b : Int), q_X8_framesToWait_L31 (B + 541) (k : Int) K8 f8 ((i - 1 : Nat) : Int) g8 = K8 n' g8' ∧ zS4 B g8 g8' ∧ q_X8_isActive g8' (B + 541) (k : Int) = some b ∧ ((b = 1 ∧ x = n') ∨ (b = 0 ∧ x = -1)) := by
  intro r
  induction r with
  | zero =>
    intro i f f8 g v q1 q0 q2 q3 hc h1 hg hgv hq hk h5
    obtain ⟨f', rfl⟩ : ∃ f', f = f' + 1 := ⟨f - 1, by omega⟩
    obtain ⟨f8', rfl⟩ : ∃ f', f8 = f' + 1 := ⟨f8 - 1, by omega⟩
    have e : i = 201 := by omega
    subst e
    refine ⟨-1, g, ?_, Frm.rf, fun g8 hm => ⟨(200 : Nat), g8, 0, ?_, zS4.rf, ?_, Or.inr ⟨rfl, rfl⟩⟩⟩
    · rw [q_X7_framesToWait_L26]
      exact if_pos (by decide)
    · rw [q_X8_framesToWait_L31]
      exact if_pos (by decide)
    · rw [m_act hm hk, if_neg h5]
  | succ r ih =>
    intro i f f8 g v q1 q0 q2 q3 hc h1 hg hgv hq hk h5
    obtain ⟨f', rfl⟩ : ∃ f', f = f' + 1 := ⟨f - 1, by omega⟩
    obtain ⟨f8', rfl⟩ : ∃ f', f8 = f' + 1 := ⟨f8 - 1, by omega⟩
    have hii : i < 1000000 := by omega
    have hi1 : i - 1 < 1000000 := by omega
    have n200 : ¬ 200 < (i : Int) := by omega
    have n200' : ¬ 200 ≤ ((i - 1 : Nat) : Int) := by omega
    have e0 : vw g.1 (B + 42) 0 0 = v 0 0 := hq.1.1
    have hk16 : k < 16 := by have := hgv.1.nC; omega
    have hfr := hgv.1.1
    have ei : i - 1 + 1 = i := by omega
    by_cases hf : 9999 ≤ v 0 0
    · refine ⟨-1, g, ?_, Frm.rf, fun g8 hm => ⟨((i - 1 : Nat) : Int), g8, 0, ?_, zS4.rf, ?_, Or.inr ⟨rfl, rfl⟩⟩⟩
      · rw [q_X7_framesToWait_L26, if_neg n200, h1, a_0, e0, if_pos hf]
      · rw [q_X8_framesToWait_L31, if_neg n200', m_now hm, if_pos hf]
      · rw [m_act hm hk, if_neg h5]
    · have hf' : vw g.1 (B + 42) 0 0 < 9999 := by omega
      have wz : zw (v 0 0 + 1) = v 0 0 + 1 := zw_id ⟨by omega, by omega⟩
      have ev : vw (zput g (B + 42) 0 (v 0 0 + 1)).1 (B + 42) = pF (vw g.1 (B + 42)) := by
        rw [vw_put0, ← e0]
        rfl
      have hc0 : CV (zput g (B + 42) 0 (v 0 0 + 1)) (B + 42) := ⟨hc.1, by rw [ev]; exact hg.1.frm hf'⟩
      obtain ⟨c, a, hqu⟩ := Que.ex (pN (pF (vw g.1 (B + 42))))
      obtain ⟨g4, n, o1, o2, o3⟩ := e4_endAndServe hc0 (by rw [ev]; exact hg.2.frm) (c := c) (a := a) (by rw [ev]; exact hqu)
      rw [ev] at o2
      have o2' : Run a c (pN (pF (vw g.1 (B + 42)))) (vw g4.1 (B + 42)) n := o2
      obtain ⟨b1, b2, b3, b4⟩ := pN_all (hg.1.frm hf') hg.2.frm
      have hg4 := hqu.good b1 o2' b2 b3
      obtain ⟨v', s1, s2⟩ := trial_pss hg.1 hg.2 hf' hgv.1 hq hqu o2'
      obtain ⟨hgv', _⟩ := s1.good hgv (by omega)
      have hc4 : CV g4 (B + 42) := ⟨by rw [o3.1]; exact hc.1, hg4.1⟩
      have hF4 : Frm (B + 42) g g4 := (Frm.rf.put (o := 0) (by decide)).tr o3
      have r4 : g4.2 = g.2 := o3.1
      have e7 : vw g4.1 (B + 42) 0 7 = v 0 7 := by
        rw [o2'.sta 0 7 (by clear wz; omega)]
        have : pN (pF (vw g.1 (B + 42))) 0 7 = pF (vw g.1 (B + 42)) 0 7 := pN_ne _ _ _ (by clear wz; omega)
        rw [this, pF_ne (by clear wz; omega)]
        exact hq.1.2.2
      have hk' : (k : Int) < v' 0 7 := by rw [← s2.1.2.2, e7]; exact hk
      have e5 : vw g4.1 (B + 42) (25 + k) 5 = v' (25 + k) 5 := (s2.2.2 k (by rw [e7]; exact hk)).1 5 (by decide)
      have step8 : ∀ g8, MV g8 (B + 541) v → ∃ g9, q_X8_framesToWait_L31 (B + 541) (k : Int) K8 (f8' + 1) ((i - 1 : Nat) : Int) g8 = q_X8_framesToWait_L31 (B + 541) (k : Int) K8 f8' (i : Int) g9 ∧ MV g9 (B + 541) v' ∧ zS4 B g8 g9 := fun g8 hm => by
        obtain ⟨g9, t1, t2, t3⟩ := e8_passes hm hgv.2 (by clear wz; omega) s1
        refine ⟨g9, ?_, t2, t3⟩
        rw [q_X8_framesToWait_L31, if_neg n200', m_now hm, if_neg hf, m_act hm hk, if_neg h5, zbp_some, if_pos rfl, t1, zbd_some]
        simp only [zlet_b]
        rw [zw_s hi1, ei]
      have cls : q_X7_framesToWait_L26 B (k : Int) (fun _ h7 => some (-1, h7)) (f' + 1) (i : Int) g = if v' (25 + k) 5 = 1 then some ((i : Int), g4) else q_X7_framesToWait_L26 B (k : Int) (fun _ h7 => some (-1, h7)) f' ((i + 1 : Nat) : Int) g4 := by
        rw [q_X7_framesToWait_L26, if_neg n200, h1, a_0, e0, if_neg hf, wz]
        simp only [zlet_b]
        rw [zput_2, h1, o1, zbd_some, zgpos hk16, Int.toNat_natCast, r4, h1, hc.1.cls, hc.1.cl, a_c hk16, e5, zw_s hii]
      rw [cls]
      by_cases h51 : v' (25 + k) 5 = 1
      · rw [if_pos h51]
        refine ⟨(i : Int), g4, rfl, hF4, fun g8 hm => ?_⟩
        obtain ⟨g9, t1, t2, t3⟩ := step8 g8 hm
        obtain ⟨f9, rfl⟩ : ∃ f', f8' = f' + 1 := ⟨f8' - 1, by clear wz; omega⟩
        have ha : q_X8_isActive g9 (B + 541) (k : Int) = some 1 := by rw [m_act t2 hk', if_pos h51]
        refine ⟨(i : Int), g9, 1, ?_, t3, ha, Or.inl ⟨rfl, rfl⟩⟩
        rw [t1, q_X8_framesToWait_L31]
        by_cases z1 : 200 ≤ (i : Int)
        · rw [if_pos z1]
        · rw [if_neg z1]
          by_cases z2 : 9999 ≤ g9.1 (g9.2 (B + 541) 5) 0
          · rw [if_pos z2]
          · rw [if_neg z2, ha, zbp_some, if_neg one0]
      · rw [if_neg h51]
        obtain ⟨x, g', y1, y2, y3⟩ := ih (i + 1) f' f8' g4 v' (by clear wz; omega) (by clear wz; omega) (by clear wz; omega) (by clear wz; omega) hc4 (by rw [r4]; exact h1) hg4 hgv' s2 hk' h51
        refine ⟨x, g', y1, hF4.tr y2, fun g8 hm => ?_⟩
        obtain ⟨g9, t1, t2, t3⟩ := step8 g8 hm
        obtain ⟨n', g8', b, z1, z2, z3, z4⟩ := y3 g9 t2
        rw [Nat.add_sub_cancel] at z1
        exact ⟨n', g8', b, t1.trans z1, t3.tr z2, z3, z4⟩
theorem zInv.row {h h' : zH} (hI : zInv B h) (h2 : h'.2 = h.2) (ho : ∀ a j, ¬ zScrt B a j → a ≠ B + 541 + 4 → h'.1 a j = h.1 a j) (h4 : ∀ j, j < 597 → h'.1 (B + 541 + 4) j = h.1 (B + 541 + 4) j) : zInv B h' := by
  obtain ⟨y, xr', xx⟩ : ∃ y : zH, y.2 = h'.2 ∧ ∀ a j, y.1 a j = if a = B + 541 + 4 then h.1 a j else h'.1 a j := ⟨(fun a j => if a = B + 541 + 4 then h.1 a j else h'.1 a j, h'.2), rfl, fun _ _ => rfl⟩
  have hx : zSame B h y := ⟨xr'.trans h2, fun a j q => by
    rw [xx]
    by_cases e : a = B + 541 + 4
    · rw [if_pos e]
    · rw [if_neg e]; exact ho a j q e⟩
  have hIx := hI.same hx
  have xn : ∀ a j, a ≠ B + 541 + 4 → h'.1 a j = y.1 a j := fun a j e => by rw [xx, if_neg e]
  have x4 : ∀ j, j < 597 → h'.1 (B + 541 + 4) j = y.1 (B + 541 + 4) j := fun j hj => by rw [xx, if_pos rfl]; exact h4 j hj
  have xr : h'.2 = y.2 := xr'.symm
  have et : h'.1 (B + 541 + 2) = y.1 (B + 541 + 2) := funext fun j => xn _ _ (by omega)
  have ev : ∀ A, A + 41 ≤ B + 541 → vw h'.1 A = vw y.1 A := fun A hA => vw_ext fun o ho j => xn _ _ (by omega)
  refine zInv.mk' (by rw [xr]; exact hIx.1) ?_ (fun j hj => ?_) ?_ ?_ ?_ ?_ ?_
  · obtain ⟨σ, s1, s2, s3⟩ := hIx.prm
    exact ⟨σ, s1, s2, by rw [xr]; exact s3⟩
  · rw [xn _ _ (by omega)] at hj
    have hj10 : j < 10 := by have := hIx.2.2.1.1; omega
    obtain ⟨σ, s1, s2, s3⟩ := hIx.prm
    have := s1 j hj10
    have eh : HV B h' j = HV B y j := by
      unfold HV
      rw [xr, s3 j hj10]
      exact ev _ (by omega)
    obtain ⟨a, b⟩ := hIx.hv hj
    rw [eh, et]
    exact ⟨a, MR.ext a.1 b (fun i hi => xn _ _ (by omega))⟩
  · rw [xn (B + 85) _ (by omega), xn (B + 541) _ (by omega)]; exact hIx.2.2.1
  · rw [ev _ (by omega)]; exact hIx.2.2.2.1
  · rw [ev _ (by omega), et]; exact MR.ext hIx.wf hIx.2.2.2.2.1 (fun i hi => x4 i hi)
  · obtain ⟨f1, f2, f3⟩ := hIx.2.2.2.2.2.1
    rw [xn (B + 498) _ (by omega), xn (B + 541) _ (by omega)]
    refine ⟨f1, f2, fun i hi => ?_⟩
    rw [xn _ _ (by omega), xn (B + 499) _ (by omega)]
    exact f3 i hi
  · rw [xn (B + 497) _ (by omega), xn (B + 541) _ (by omega)]; exact hIx.2.2.2.2.2.2
theorem i_clyT {h : zH} (hI : zInv B h) : cly h.2 (B + 42) := by
  intro o ho j
  have := hI.1 (42 + o) (by omega) (by omega) j
  rw [gO_42 ho] at this
  rw [Nat.add_assoc, this]
  omega
theorem op_53 : zI_53 (zInv B) B (B + 541) (B + 552) := by
  intro h hI hG a1 r1
  have hw := hI.wf
  have hn := hw.nC
  have r1' : h.2 B 1 = B + 42 := hI.1 0 (by decide) (by decide) 1
  by_cases hx : 0 ≤ a1 ∧ a1 < vw h.1 (B + 1) 0 7
  · obtain ⟨k, rfl⟩ : ∃ k : Nat, a1 = (k : Int) := ⟨a1.toNat, by omega⟩
    have hk16 : k < 16 := by omega
    by_cases h5 : vw h.1 (B + 1) (25 + k) 5 = 0
    · obtain ⟨g, c1, c2, c3⟩ := e4_copy (i_clyT hI) hI.cv (Or.inr (by omega))
      have hgT := c2.good hI.2.2.2.1
      have hcT : CV g (B + 42) := ⟨by rw [c3.1]; exact i_clyT hI, hgT.1⟩
      obtain ⟨x, g1, w1, w2, w3⟩ := m_wait (B := B) (k := k) (K8 := fun x9 h10 => zbp (q_X8_isActive h10 (B + 541) (k : Int)) (fun x12 => zbd (q_X8_bringsOld h10 (B + 541)) (fun _ h13 => if x12 = 0 then (some ((-1), h13)) else (some (x9, h13))))) 200 1 zF zF g (vw h.1 (B + 1)) (by omega) (by omega) (by unfold zF; omega) (by unfold zF; omega) hcT (by rw [c3.1]; exact r1') hgT hI.2.2.2.1 c2.ceq.sym hx.2 (by omega)
      have hF := c3.tr w2
      have sT : zSame B h g1 := ⟨hF.1, fun a j q => hF.2 a j (by unfold zScrt at q; omega)⟩
      have s1 : zSame B h (zput (zput g1 (B + 552) 0 x) (B + 541) 0 0) := (sT.put sO).put sM0
      have hm1 : MV (zput g1 (B + 552) 0 x) (B + 541) (vw h.1 (B + 1)) := hI.mv.same (sT.put sO)
      have hm2 : MV (zput (zput g1 (B + 552) 0 x) (B + 541) 0 0) (B + 541) (vw h.1 (B + 1)) := hm1.p0
      generalize hy : zput (zput g1 (B + 552) 0 x) (B + 541) 0 0 = y at s1 hm2
      have y0 : y.1 (B + 541) 0 = 0 := by rw [← hy, zput_self]
      have yO : y.1 (B + 552) 0 = x := by rw [← hy, zput_ne (by omega), zput_self]
      have hk1 : ∀ q j, q ≠ B + 541 + 5 → (zcpy y (B + 541 + 4) (B + 541 + 5) 597).1 q j = y.1 q j := fun q j hq => zcpy_ne (Or.inl hq)
      have hk2 : ∀ j, j < 597 → (zcpy y (B + 541 + 4) (B + 541 + 5) 597).1 (B + 541 + 5) j = y.1 (B + 541 + 4) j := fun j hj => zcpy_at hj
      have hm3 : MV (zcpy y (B + 541 + 4) (B + 541 + 5) 597) (B + 541) (vw h.1 (B + 1)) := hm2.same (⟨rfl, fun a j q => hk1 a j (by unfold zScrt at q; omega)⟩)
      have kp := e8_keeps hm2.1
      have hkr : (zcpy y (B + 541 + 4) (B + 541 + 5) 597).2 = y.2 := rfl
      generalize zcpy y (B + 541 + 4) (B + 541 + 5) 597 = z at hk1 hk2 hm3 kp hkr
      obtain ⟨n', g8', b, t1, t2, t3, t4⟩ := w3 z hm3
      have hl8 : mly g8'.2 (B + 541) := by rw [t2.1]; exact hm3.1
      have br := e8_brings hl8
      have b1 : ∀ q j, q ≠ B + 541 + 4 → (zcpy g8' (B + 541 + 5) (B + 541 + 4) 597).1 q j = g8'.1 q j := fun q j hq => zcpy_ne (Or.inl hq)
      have b2 : ∀ j, j < 597 → (zcpy g8' (B + 541 + 5) (B + 541 + 4) 597).1 (B + 541 + 4) j = g8'.1 (B + 541 + 5) j := fun j hj => zcpy_at hj
      have b3 : (zcpy g8' (B + 541 + 5) (B + 541 + 4) 597).2 = g8'.2 := rfl
      generalize zcpy g8' (B + 541 + 5) (B + 541 + 4) 597 = e at br b1 b2 b3
      have res : q_X8_framesToWait (zput g1 (B + 552) 0 x) (B + 541) (k : Int) = some (x, e) := by
        unfold q_X8_framesToWait
        rw [e8_isCall hm1, if_pos hx, zbp_some, e8_checks (Or.inr rfl), zbd_some, if_neg one0, if_neg one0, hy, m_5 hm2 hx.2, zbp_some, if_pos h5, kp, zbd_some]
        have t1' := t1
        rw [show ((1 - 1 : Nat) : Int) = 0 from rfl] at t1'
        rw [t1', t3, zbp_some, br, zbd_some]
        rcases t4 with ⟨z1, z2⟩ | ⟨z1, z2⟩
        · rw [if_neg (by omega), z2]
        · rw [if_pos z1, z2]
      have e0 : e.1 (B + 541) 0 = 0 := by rw [b1 _ _ (by omega), t2.2 _ _ (by omega) (by omega) (by omega), hk1 _ _ (by omega), y0]
      have eO : e.1 (B + 552) 0 = x := by rw [b1 _ _ (by omega), t2.2 _ _ (by omega) (by omega) (by omega), hk1 _ _ (by omega), yO]
      refine ⟨e, Or.inl ⟨x, g1, ?_, res, by rw [e8_thr, e0], eO⟩, ?_⟩
      · unfold q_X7_framesToWait
        rw [e7_call hI hx.2, zbp_some, a_c hk16, if_pos h5, r1', hI.r0, c1, zbd_some]
        exact w1
      · refine hI.row (b3.trans (t2.1.trans (hkr.trans s1.1))) (fun a j q h4 => ?_) (fun j hj => ?_)
        · have hsc : (a < B + 541 + 7 ∨ B + 541 + 10 < a) ∧ (a ≠ B + 541 ∨ j < 22) ∨ (a = B + 541 ∧ 22 ≤ j) ∨ (B + 541 + 7 ≤ a ∧ a ≤ B + 541 + 10) := by omega
          unfold zScrt at q
          rw [b1 a j h4, t2.2 a j h4 (by omega) (by omega), hk1 a j (by omega), s1.2 a j (by unfold zScrt; omega)]
        · rw [b2 j hj, t2.2 _ _ (by omega) (by omega) (by omega), hk2 j hj, s1.2 _ _ (by unfold zScrt; omega)]
    · have s1 : zSame B h (zput (zput h (B + 552) 0 (-1)) (B + 541) 0 0) := (zSame.rf.put sO).put sM0
      have hm1 : MV (zput h (B + 552) 0 (-1)) (B + 541) (vw h.1 (B + 1)) := hI.mv.same (zSame.rf.put sO)
      refine ⟨zput (zput h (B + 552) 0 (-1)) (B + 541) 0 0, Or.inl ⟨-1, h, ?_, ?_, by rw [e8_thr, zput_self], by rw [zput_ne (by omega), zput_self]⟩, hI.same s1⟩
      · unfold q_X7_framesToWait
        rw [e7_call hI hx.2, zbp_some, a_c hk16, if_neg h5]
      · unfold q_X8_framesToWait
        rw [e8_isCall hm1, if_pos hx, zbp_some, e8_checks (Or.inr rfl), zbd_some, if_neg one0, if_neg one0, m_5 hm1.p0 hx.2, zbp_some, if_neg h5]
  · refine ⟨zput h (B + 541) 0 1, Or.inr ⟨(b_call hI).mpr hx, 0, ?_, by rw [e8_thr, zput_self]⟩, hI.same (zSame.rf.put sM0)⟩
    unfold q_X8_framesToWait
    rw [e8_isCall hI.mv, if_neg hx, zbp_some, e8_checks (Or.inl rfl), zbd_some, if_pos rfl, if_pos rfl]
end OPS
