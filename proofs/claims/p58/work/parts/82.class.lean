/-! What whole's parts 81 82 83 84 85 say of the class alone. -/
section PU
variable {v u : Nat → Nat → Int}
theorem Ceq.bp (h : Ceq v u) {k : Nat} (hk : (k : Int) < v 0 7) {v' : Nat → Nat → Int} {r : Int} (hB : BP v k v' r) : ∃ u', BP u k u' r ∧ Ceq v' u' := by
  have hf : ∀ c t, Fit v (fun _ => False) k c t ↔ Fit u (fun _ => False) k c t := fun c t => h.fit hk
  have h' := h
  obtain ⟨⟨a1, a2, a3⟩, b, cc⟩ := h
  rcases hB with ⟨c, s, q1, q2, q3⟩ | ⟨q1, q2, q3⟩
  · refine ⟨vpl u k c s, Or.inl ⟨c, s, ⟨⟨q1.1.1, by rw [← a2]; exact q1.1.2⟩, (hf c s).mp q1.2.1, fun c' t h0 h1 hF => q1.2.2 c' t h0 (by rw [a2]; exact h1) ((hf c' t).mpr hF)⟩, rfl, q3⟩, ?_⟩
    subst q2
    have k9 := (cc k hk).2.1
    refine ⟨⟨?_, ?_, ?_⟩, fun j hj => ?_, fun l hl => ?_⟩
    · rw [vpl_ne (by omega), vpl_ne (by omega)]; exact a1
    · rw [vpl_ne (by omega), vpl_ne (by omega)]; exact a2
    · rw [vpl_ne (by omega), vpl_ne (by omega)]; exact a3
    · rw [vpl_ne (by omega), vpl_ne (by omega)]; exact b j hj
    · rw [vpl_ne (by omega)] at hl
      by_cases e : l = k
      · subst e
        refine ⟨fun j hj => ?_, ?_, fun _ => ⟨by rw [vpl_6, vpl_6], by rw [vpl_7, vpl_7]⟩⟩
        · by_cases e5 : j = 5
          · rw [e5, vpl_5, vpl_5]
          · rw [vpl_ne (by omega), vpl_ne (by omega)]
            exact (cc l hl).1 j hj
        · rw [vpl_9, vpl_9, k9, a1]
      · rw [vpl_row e, vpl_row e]
        exact cc l hl
  · refine ⟨u, Or.inr ⟨fun c t h0 h1 hF => q1 c t h0 (by rw [a2]; exact h1) ((hf c t).mpr hF), rfl, q3⟩, ?_⟩
    rw [q2]
    exact h'
theorem Ceq.run {a : Nat → Nat} : ∀ {c v' n}, Ceq v u → (∀ i, i < c → ((a i : Nat) : Int) < v 0 7) → Run a c v v' n → ∃ u', Run a c u u' n ∧ Ceq v' u' := by
  intro c
  induction c with
  | zero =>
    rintro v' n h _ ⟨h1, h2⟩
    exact ⟨u, ⟨rfl, h2⟩, by rw [h1]; exact h⟩
  | succ c ih =>
    rintro v' n h ha ⟨w, x, r, h1, h2, h3⟩
    obtain ⟨w', y1, y2⟩ := ih h (fun i hi => ha i (by omega)) h1
    obtain ⟨u', z1, z2⟩ := y2.bp (by rw [h1.sta 0 7 (by omega)]; exact ha c (by omega)) h2
    exact ⟨u', ⟨w', x, r, y1, z1, h3⟩, z2⟩
theorem Ceq.n (h : Ceq v u) : nCl u = nCl v := by unfold nCl; rw [h.1.2.2]
theorem Ceq.que (w : WF v) (h : Ceq v u) {c : Nat} {a : Nat → Nat} (hq : Que v c a) : Que u c a := by
  have hn := w.nC
  have e := h.n
  unfold Que at hq ⊢
  rw [e]
  refine hq.congr (fun k hk => ?_) (fun k hk => (h.2.2 k (by omega)).1 2 (by decide))
  unfold sMk
  rw [(h.2.2 k (by omega)).1 5 (by decide)]
theorem Ceq.tr {x : Nat → Nat → Int} (h1 : Ceq v u) (h2 : Ceq u x) : Ceq v x := by
  obtain ⟨⟨a1, a2, a3⟩, b, c⟩ := h1
  obtain ⟨⟨d1, d2, d3⟩, e, f⟩ := h2
  refine ⟨⟨a1.trans d1, a2.trans d2, a3.trans d3⟩, fun j hj => (b j hj).trans (e j hj), fun k hk => ?_⟩
  obtain ⟨c1, c2, c3⟩ := c k hk
  obtain ⟨f1, f2, f3⟩ := f k (by rw [← a3]; exact hk)
  refine ⟨fun j hj => (c1 j hj).trans (f1 j hj), c2.trans f2, fun h5 => ?_⟩
  obtain ⟨y1, y2⟩ := c3 h5
  obtain ⟨z1, z2⟩ := f3 (by rw [← c1 5 (by decide)]; exact h5)
  exact ⟨y1.trans z1, y2.trans z2⟩
theorem Ceq.frm (h : Ceq v u) : Ceq (pF v) (pF u) := by
  obtain ⟨⟨a1, a2, a3⟩, b, c⟩ := h
  have q : ∀ (x : Nat → Nat → Int) o j, ¬ (o = 0 ∧ j = 0) → pF x o j = x o j := fun x o j h => pF_ne h
  refine ⟨⟨by rw [pF_0, pF_0, a1], by rw [q v _ _ (by omega), q u _ _ (by omega)]; exact a2, by rw [q v _ _ (by omega), q u _ _ (by omega)]; exact a3⟩, fun j hj => by rw [q v _ _ (by omega), q u _ _ (by omega)]; exact b j hj, fun k hk => ?_⟩
  rw [q v 0 7 (by omega)] at hk
  obtain ⟨c1, c2, c3⟩ := c k hk
  refine ⟨fun j hj => by rw [q v _ _ (by omega), q u _ _ (by omega)]; exact c1 j hj, by rw [q v _ _ (by omega), q u _ _ (by omega)]; exact c2, fun h5 => ?_⟩
  rw [q v _ _ (by omega)] at h5
  rw [q v _ _ (by omega), q u _ _ (by omega), q v _ 7 (by omega), q u _ 7 (by omega)]
  exact c3 h5
theorem Ceq.ps (w : WF v) : Ceq v (pS v) := by
  have q : ∀ o j, (o < 5 ∨ 17 ≤ o) → pS v o j = v o j := fun o j h => pS_ne _ o j w.nS.2 h
  exact ⟨⟨(q _ _ (by omega)).symm, (q _ _ (by omega)).symm, (q _ _ (by omega)).symm⟩, fun j hj => (q _ _ (by omega)).symm, fun k hk => ⟨fun j hj => (q _ _ (by omega)).symm, (q _ _ (by omega)).symm, fun _ => ⟨(q _ _ (by omega)).symm, (q _ _ (by omega)).symm⟩⟩⟩
theorem Ceq.pt {m : Nat} (w : WF v) : Ceq v (pT v m) := by
  have q := pT_ceq (z := v) (m := m) w
  exact ⟨⟨(q _ _ (by omega) (by omega)).symm, (q _ _ (by omega) (by omega)).symm, (q _ _ (by omega) (by omega)).symm⟩, fun j hj => (q _ _ (by omega) (by omega)).symm, fun k hk => ⟨fun j hj => (q _ _ (by omega) (by omega)).symm, (q _ _ (by omega) (by omega)).symm, fun _ => ⟨(q _ _ (by omega) (by omega)).symm, (q _ _ (by omega) (by omega)).symm⟩⟩⟩
theorem Ceq.pn (w : WF v) (h : Ceq v u) : Ceq (pN v) (pN u) := by
  have hn := w.nC
  have en := h.n
  obtain ⟨⟨a1, a2, a3⟩, b, c⟩ := h
  have q : ∀ (x : Nat → Nat → Int) o j, ¬ (25 ≤ o ∧ j = 5) → pN x o j = x o j := fun x o j h => pN_ne _ o j (by omega)
  refine ⟨⟨by rw [q v _ _ (by omega), q u _ _ (by omega)]; exact a1, by rw [q v _ _ (by omega), q u _ _ (by omega)]; exact a2, by rw [q v _ _ (by omega), q u _ _ (by omega)]; exact a3⟩, fun j hj => by rw [q v _ _ (by omega), q u _ _ (by omega)]; exact b j hj, fun k hk => ?_⟩
  rw [q v 0 7 (by omega)] at hk
  obtain ⟨c1, c2, c3⟩ := c k hk
  have hkn : k < nCl v := by omega
  have e5v : pN v (25 + k) 5 = if v (25 + k) 5 = 1 ∧ v (25 + k) 9 + v (25 + k) 4 ≤ v 0 0 then 2 else v (25 + k) 5 := pN_5 _ hkn
  have e5u : pN u (25 + k) 5 = if u (25 + k) 5 = 1 ∧ u (25 + k) 9 + u (25 + k) 4 ≤ u 0 0 then 2 else u (25 + k) 5 := pN_5 _ (by rw [en]; exact hkn)
  have e5 : pN v (25 + k) 5 = pN u (25 + k) 5 := by rw [e5v, e5u, c1 5 (by decide), c1 4 (by decide), c2, a1]
  refine ⟨fun j hj => ?_, by rw [q v _ _ (by omega), q u _ _ (by omega)]; exact c2, fun h5 => ?_⟩
  · by_cases ej : j = 5
    · rw [ej]; exact e5
    · rw [q v _ _ (by omega), q u _ _ (by omega)]
      exact c1 j hj
  · rw [q v _ _ (by omega), q u _ _ (by omega), q v _ 7 (by omega), q u _ 7 (by omega)]
    rw [e5v] at h5
    refine c3 ?_
    by_cases z : v (25 + k) 5 = 1 ∧ v (25 + k) 9 + v (25 + k) 4 ≤ v 0 0
    · exact z.1
    · rw [if_neg z] at h5
      exact h5
/-- the trial goes on by a frame, the exchange can follow -/
theorem trial_pss {c : Nat} {a : Nat → Nat} {u' : Nat → Nat → Int} {n : Int} (w : WF u) (g : GI u) (hf : u 0 0 < 9999) (wv : WF v) (h : Ceq u v) (hq : Que (pN (pF u)) c a) (hR : Run a c (pN (pF u)) u' n) : ∃ v', Pss v v' ∧ Ceq u' v' := by
  have wf := w.frm hf
  have hf' : v 0 0 < 9999 := by rw [← h.1.1]; exact hf
  have wvf := wv.frm hf'
  have c1 : Ceq (pN (pF u)) (pN (pS (pF v))) := Ceq.pn wf (h.frm.tr (Ceq.ps wvf))
  have wn := (pN_all wf g.frm).1
  have hq' := c1.que wn hq
  have hn := wn.nC
  obtain ⟨z, z1, z2⟩ := c1.run (fun i hi => by
    have := (hq.1 i hi).1
    omega) hR
  have wz : WF z := z1.wf (Leq.wf Leq.rf (by
    have := pS_wf wvf (nSt (pF v)) (Nat.le_refl _)
    exact (pN_good this (Ceq.gi (h.frm.tr (Ceq.ps wvf)) g.frm).1 (Ceq.gi (h.frm.tr (Ceq.ps wvf)) g.frm).2.2 _).1))
  exact ⟨pT z (nset (wre (pS (pF v))) (nCl v)), ⟨c, a, z, n, hq', z1, rfl⟩, z2.tr (Ceq.pt wz)⟩
end PU
section OPS
variable {B : Nat}
theorem i_clyT {h : zH} (hI : zInv B h) : cly h.2 (B + 42) := by
  intro o ho j
  have := hI.1 (42 + o) (by omega) (by omega) j
  rw [gO_42 ho] at this
  rw [Nat.add_assoc, this]
  omega
end OPS
def pW (m : Nat) (v : Nat → Nat → Int) (k : Nat) : Nat → Nat → Int := if m.testBit k = true then vup v (25 + k) 5 0 else v
theorem pW_ne {m : Nat} {v : Nat → Nat → Int} : ∀ (i o j : Nat), ¬ (25 ≤ o ∧ o < 25 + i ∧ j = 5) → zit (pW m) i v o j = v o j := by
  intro i
  induction i with
  | zero => intro o j _; rfl
  | succ i ih =>
    intro o j h
    rw [zit_s]
    unfold pW
    split
    · rw [vup_ne (by omega)]
      exact ih o j (by omega)
    · exact ih o j (by omega)
theorem pW_5 {m : Nat} {v : Nat → Nat → Int} {k : Nat} : ∀ (i : Nat), k < i → zit (pW m) i v (25 + k) 5 = if m.testBit k = true then 0 else v (25 + k) 5 := by
  intro i
  induction i with
  | zero => intro h; omega
  | succ i ih =>
    intro h
    rw [zit_s]
    by_cases e : k = i
    · subst e
      have e5 := pW_ne (m := m) (v := v) k (25 + k) 5 (by omega)
      generalize zit (pW m) k v = u at e5
      unfold pW
      split
      · exact vup_at
      · exact e5
    · have hk := ih (by omega)
      generalize zit (pW m) i v = u at hk
      unfold pW
      split
      · rw [vup_ne (by omega)]
        exact hk
      · exact hk
/-- as far as bursts go, the same but for where they lie -/
def Agr (v u : Nat → Nat → Int) : Prop := (∀ j, j < 3 → v 1 j = u 1 j) ∧ v 0 7 = u 0 7 ∧ ∀ k : Nat, (k : Int) < v 0 7 → ∀ j, j < 4 → v (25 + k) j = u (25 + k) j
theorem Agr.n {v u : Nat → Nat → Int} (h : Agr v u) : nCl u = nCl v := by unfold nCl; rw [h.2.1]
theorem Agr.sta {v u w : Nat → Nat → Int} (h : Agr v u) (hs : Sta u w) : Agr v w :=
  ⟨fun j hj => (h.1 j hj).trans (hs _ _ (by omega)).symm, h.2.1.trans (hs _ _ (by omega)).symm, fun k hk j hj => (h.2.2 k hk j hj).trans (hs _ _ (by omega)).symm⟩
theorem Agr.fl {v u : Nat → Nat → Int} (w : WF v) (wu : WF u) (h : Agr v u) {k : Nat} (hk : (k : Int) < v 0 7) {c t : Int} : FL v (layC u 0) (layS u 0) k c t ↔ Fit u (fun _ => False) k c t := by
  have hn := w.nC
  have e := h.n
  obtain ⟨a, b, cc⟩ := h
  have a0 := a 0 (by decide)
  have a1 := a 1 (by decide)
  have a2 := a 2 (by decide)
  refine Iff.trans ?_ ((Fit.lay wu (x := 0)).symm.trans fit_0)
  have k3 := cc k hk 3 (by decide)
  have k0 := cc k hk 0 (by decide)
  have k1 := cc k hk 1 (by decide)
  unfold FL FitR
  rw [e, a0, a1, a2, k3]
  refine and_congr_right (fun _ => and_congr_right (fun _ => ?_))
  refine forall_congr' (fun l => ?_)
  constructor
  · intro z hl y
    have hl7 : (l : Int) < v 0 7 := by omega
    refine z hl ?_
    obtain ⟨y1, y2, y3, y4⟩ := y
    exact ⟨y1, by rw [cc l hl7 3 (by decide), a1]; exact y2, by rw [k3, a1]; exact y3, by rw [cc l hl7 0 (by decide), cc l hl7 1 (by decide), k0, k1]; exact y4⟩
  · intro z hl y
    have hl7 : (l : Int) < v 0 7 := by omega
    refine z hl ?_
    obtain ⟨y1, y2, y3, y4⟩ := y
    exact ⟨y1, by rw [← cc l hl7 3 (by decide), ← a1]; exact y2, by rw [← k3, ← a1]; exact y3, by rw [← cc l hl7 0 (by decide), ← cc l hl7 1 (by decide), ← k0, ← k1]; exact y4⟩
theorem Run.rem {a : Nat → Nat} {v w : Nat → Nat → Int} {i : Nat} {x : Int} (hi : Run a i v w x) : ∀ {c u n}, Run a c v u n → i ≤ c → n ≤ x + ((c - i : Nat) : Int) := by
  intro c
  induction c with
  | zero =>
    intro u n h hc
    have e : i = 0 := by omega
    subst e
    have := (hi.uniq h).2
    omega
  | succ c ih =>
    intro u n h hc
    by_cases e : i = c + 1
    · subst e
      have := (hi.uniq h).2
      omega
    · obtain ⟨w', x', r, h1, h2, h3⟩ := h
      have := ih h1 (by omega)
      have := h2.r01
      omega
theorem Run.full {a : Nat → Nat} {v : Nat → Nat → Int} : ∀ {c u n}, Run a c v u n → n = (c : Int) → ∀ i, i < c → u (25 + a i) 5 = 1 := by
  intro c
  induction c with
  | zero => intro u n _ _ i hi; omega
  | succ c ih =>
    intro u n h hn i hi
    have hh := h
    obtain ⟨w, x, r, h1, h2, h3⟩ := h
    have hc := h1.cnt
    have hr := h2.r01
    have hx : x = (c : Int) := by omega
    have hr1 : r = 1 := by omega
    rcases h2 with ⟨cc, s, q1, q2, q3⟩ | ⟨q1, q2, q3⟩
    · rw [q2]
      by_cases e : a i = a c
      · rw [e]; exact vpl_5
      · rw [vpl_row e]
        by_cases ei : i = c
        · exact absurd (by rw [ei]) e
        · exact ih h1 hx i (by omega)
    · omega
section CL
variable {h : zH} {A : Nat}
theorem m_anew {n m : Nat} (hn16 : n ≤ 16) (hm : m < 65536) {K : Int → zH → Option (Int × zH)} : ∀ (r i f : Nat) (g : zH), i + r = n → r < f → cly g.2 A → g.1 A 7 = (n : Int) → vw g.1 A = zit (pW m) i (vw h.1 A) → Frm A h g →
    ∃ g', q_X4_assignAnew_L2 A (m : Int) K f (i : Int) g = K (n : Int) g' ∧ vw g'.1 A = zit (pW m) n (vw h.1 A) ∧ Frm A h g' := by
  intro r
  induction r with
  | zero =>
    intro i f g q1 q2 hl h7 hv hF
    obtain ⟨f', rfl⟩ : ∃ f', f = f' + 1 := ⟨f - 1, by omega⟩
    have e : i = n := by omega
    refine ⟨g, ?_, by rw [← e]; exact hv, hF⟩
    rw [q_X4_assignAnew_L2, h7, e, if_pos (Int.le_refl _)]
  | succ r ih =>
    intro i f g q1 q2 hl h7 hv hF
    obtain ⟨f', rfl⟩ : ∃ f', f = f' + 1 := ⟨f - 1, by omega⟩
    have hi16 : i < 16 := by omega
    have hii : i < 1000000 := by omega
    have hni : ¬ (n : Int) ≤ (i : Int) := by omega
    have e1 : zit (pW m) (i + 1) (vw h.1 A) = if m.testBit i = true then vup (vw g.1 A) (25 + i) 5 0 else vw g.1 A := by rw [zit_s, ← hv]; rfl
    rw [q_X4_assignAnew_L2, h7, if_neg hni, e_isIn hm hi16, zbp_some]
    simp only [zlet_b]
    rw [zgpos hi16, Int.toNat_natCast, hl.cls, hl.cl, zw_s hii]
    by_cases hb : m.testBit i = true
    · rw [if_pos hb, if_neg one0]
      refine ih (i + 1) f' _ (by omega) (by omega) hl (by rw [zput_ne (by omega)]; exact h7) ?_ (hF.put (by omega))
      rw [vw_put (by omega), e1, if_pos hb]
    · rw [if_neg hb, if_pos rfl]
      exact ih (i + 1) f' g (by omega) (by omega) hl h7 (by rw [e1, if_neg hb]) hF
theorem e4_anew (hl : cly h.2 A) {n m c : Nat} {a : Nat → Nat} (hn : vw h.1 A 0 7 = (n : Int)) (hn16 : n ≤ 16) (hm : m < 65536) (hw0 : WF (zit (pW m) n (vw h.1 A))) (hE : Enu (fun k => m.testBit k) (fun k => vw h.1 A (25 + k) 2) n c a) (hbc : sBC (m : Int) = (c : Int)) :
    ∃ h' x, q_X4_assignAnew h A (m : Int) = some (if x = (c : Int) then 1 else 0, h') ∧ Run a c (zit (pW m) n (vw h.1 A)) (vw h'.1 A) x ∧ Frm A h h' := by
  unfold q_X4_assignAnew
  obtain ⟨g, p1, p2, p3⟩ := m_anew (h := h) (A := A) hn16 hm (K := fun x5 h6 => zbd (q_X4_placeInOrder h6 A (m : Int)) (fun x7 h8 => zbp (q_J6_bitCount (m : Int)) (fun x9 => if x7 = x9 then (some (1, h8)) else (some (0, h8))))) n 0 zF h (Nat.zero_add _) (by unfold zF; omega) hl (by rw [a_0, hn]) rfl Frm.rf
  have p1' := p1
  rw [show ((0 : Nat) : Int) = 0 from rfl] at p1'
  rw [p1']
  have hcg : CV g A := ⟨by rw [p3.1]; exact hl, by rw [p2]; exact hw0⟩
  have e7 : vw g.1 A 0 7 = (n : Int) := by rw [p2, pW_ne _ _ _ (by omega)]; exact hn
  have en : nCl (vw g.1 A) = n := by unfold nCl; rw [e7, Int.toNat_natCast]
  have ep : (fun k => vw g.1 A (25 + k) 2) = fun k => vw h.1 A (25 + k) 2 := funext fun k => by rw [p2, pW_ne _ _ _ (by omega)]
  obtain ⟨h', x, o1, o2, o3⟩ := e4_order hcg (m := m) (c := c) (a := a) hm (by rw [en, ep]; exact hE) (fun i hi => by
    obtain ⟨y1, y2⟩ := hE.1 i hi
    have y2' : m.testBit (a i) = true := y2
    rw [p2, pW_5 n y1, if_pos y2']
    decide)
  unfold q_J6_bitCount
  rw [o1, zbd_some, zbp_some, hbc]
  refine ⟨h', x, ?_, by rw [← p2]; exact o2, p3.tr o3⟩
  by_cases q : x = (c : Int)
  · rw [if_pos q, if_pos q]
  · rw [if_neg q, if_neg q]
end CL
section OPS
variable {B : Nat}
end OPS
theorem noact_wf {v u : Nat → Nat → Int} {C0 : Int} (hw : WF (vup v 0 1 C0)) (hC : 1 ≤ u 0 1 ∧ u 0 1 ≤ 4) (he : ∀ o j, ¬ (o = 0 ∧ j = 1) → ¬ (25 ≤ o ∧ j = 5) → u o j = v o j) (h5 : ∀ k : Nat, (k : Int) < v 0 7 → u (25 + k) 5 = 0 ∨ u (25 + k) 5 = 2) : WF u := by
  have q : ∀ o j, ¬ (o = 0 ∧ j = 1) → vup v 0 1 C0 o j = v o j := fun o j h => vup_ne h
  have er : ∀ o, o ≠ 0 → vup v 0 1 C0 o = v o := fun o ho => funext fun j => q o j (fun z => ho z.1)
  have ur : ∀ o, o ≠ 0 → o < 25 → u o = v o := fun o h1 h2 => funext fun j => he o j (fun z => h1 z.1) (by omega)
  have hS := hw.nS
  have hR := hw.nR
  obtain ⟨a1, a2, a3, a4, a5, a6, a7, a8, a9⟩ := hw
  rw [q 0 0 (by omega)] at a1
  rw [q 0 3 (by omega)] at a3 hS
  rw [q 0 5 (by omega)] at a4 hR
  rw [q 0 7 (by omega)] at a5
  rw [q 0 3 (by omega)] at a7
  rw [q 0 5 (by omega)] at a8
  rw [q 0 7 (by omega)] at a9
  rw [er 1 (by omega)] at a6
  have u0 := he 0 0 (by omega) (by omega)
  have u3 := he 0 3 (by omega) (by omega)
  have u5 := he 0 5 (by omega) (by omega)
  have u7 := he 0 7 (by omega) (by omega)
  refine ⟨by rw [u0]; exact a1, hC, by rw [u3]; exact a3, by rw [u5]; exact a4, by rw [u7]; exact a5, by rw [ur 1 (by omega) (by omega)]; exact a6, fun s hs => ?_, fun r hr => ?_, fun k hk => ?_⟩
  · rw [u3] at hs
    have := a7 s hs
    unfold WFs at this ⊢
    rw [er (5 + 2 * s) (by omega), er (6 + 2 * s) (by omega), q 0 0 (by omega)] at this
    rw [ur (5 + 2 * s) (by omega) (by omega), ur (6 + 2 * s) (by omega) (by omega), u0]
    exact this
  · rw [u5] at hr
    have := a8 r hr
    unfold WFr at this ⊢
    rw [er (17 + r) (by omega), q 0 3 (by omega)] at this
    rw [ur (17 + r) (by omega) (by omega), u3]
    exact this
  · rw [u7] at hk
    have := a9 k hk
    unfold WFc at this ⊢
    rw [er (25 + k) (by omega), q 0 0 (by omega), q 0 3 (by omega)] at this
    obtain ⟨h0, h1, h2, h3, h4, h5', h6, h7, h8, h9, h10, h11⟩ := this
    have k5 := h5 k hk
    rw [u0, u3, he (25 + k) 0 (by omega) (by omega), he (25 + k) 1 (by omega) (by omega), he (25 + k) 2 (by omega) (by omega), he (25 + k) 3 (by omega) (by omega), he (25 + k) 4 (by omega) (by omega), he (25 + k) 8 (by omega) (by omega), he (25 + k) 9 (by omega) (by omega), he (25 + k) 10 (by omega) (by omega)]
    exact ⟨h0, h1, h2, h3, h4, h5', k5.elim (fun z => Or.inl z) (fun z => Or.inr (Or.inr z)), h7, h8, h9, trivial, fun z => by omega⟩
section OPS
variable {B : Nat}
end OPS
theorem BP.nine {v u : Nat → Nat → Int} {k l : Nat} {r : Int} (h : BP v k u r) (h9 : v (25 + l) 9 ≠ -1) : u (25 + l) 9 = v (25 + l) 9 := by
  rcases h with ⟨c, s, a1, a2, a3⟩ | ⟨a1, a2, a3⟩
  · rw [a2]
    by_cases e : l = k
    · subst e
      rw [vpl_9, if_neg h9]
    · rw [vpl_row e]
  · rw [a2]
theorem Run.nine {a : Nat → Nat} {v : Nat → Nat → Int} {l : Nat} : ∀ {c u n}, Run a c v u n → v (25 + l) 9 ≠ -1 → u (25 + l) 9 = v (25 + l) 9 := by
  intro c
  induction c with
  | zero => rintro u n ⟨h1, _⟩ _; rw [h1]
  | succ c ih =>
    rintro u n ⟨w, x, r, h1, h2, h3⟩ h9
    have e := ih h1 h9
    rw [h2.nine (by rw [e]; exact h9), e]
/-- row by row from one State to another -/
def mix (t u : Nat → Nat → Int) (i : Nat) : Nat → Nat → Int := fun o j => if 25 ≤ o ∧ o < 25 + i then u o j else t o j
theorem mix_lo {t u : Nat → Nat → Int} {i o j : Nat} (h : ¬ (25 ≤ o ∧ o < 25 + i)) : mix t u i o j = t o j := by unfold mix; rw [if_neg h]
theorem mix_hi {t u : Nat → Nat → Int} {i o j : Nat} (h : 25 ≤ o ∧ o < 25 + i) : mix t u i o j = u o j := by unfold mix; rw [if_pos h]
theorem mix_wf {t u : Nat → Nat → Int} (wt : WF t) (wu : WF u) (h : ∀ o j, o < 25 → u o j = t o j) (i : Nat) : WF (mix t u i) := by
  have e0 : mix t u i 0 = t 0 := funext fun j => mix_lo (by omega)
  have e1 : mix t u i 1 = t 1 := funext fun j => mix_lo (by omega)
  have hS := wt.nS
  have hR := wt.nR
  obtain ⟨a1, a2, a3, a4, a5, a6, a7, a8, a9⟩ := wt
  refine ⟨by rw [e0]; exact a1, by rw [e0]; exact a2, by rw [e0]; exact a3, by rw [e0]; exact a4, by rw [e0]; exact a5, by rw [e1]; exact a6, fun s hs => ?_, fun r hr => ?_, fun k hk => ?_⟩
  · rw [e0] at hs
    have e2 : mix t u i (5 + 2 * s) = t (5 + 2 * s) := funext fun j => mix_lo (by omega)
    have e3 : mix t u i (6 + 2 * s) = t (6 + 2 * s) := funext fun j => mix_lo (by omega)
    unfold WFs
    rw [e0, e2, e3]
    exact a7 s hs
  · rw [e0] at hr
    have e2 : mix t u i (17 + r) = t (17 + r) := funext fun j => mix_lo (by omega)
    unfold WFr
    rw [e0, e2]
    exact a8 r hr
  · rw [e0] at hk
    by_cases z : k < i
    · have e2 : mix t u i (25 + k) = u (25 + k) := funext fun j => mix_hi (by omega)
      have f0 : u 0 = t 0 := funext fun j => h 0 j (by omega)
      have f1 : u 1 = t 1 := funext fun j => h 1 j (by omega)
      have := wu.2.2.2.2.2.2.2.2 k (by rw [f0]; exact hk)
      unfold WFc at this ⊢
      rw [f0, f1] at this
      rw [e0, e1, e2]
      exact this
    · have e2 : mix t u i (25 + k) = t (25 + k) := funext fun j => mix_lo (by omega)
      unfold WFc
      rw [e0, e1, e2]
      exact a9 k hk
/-- how the active calls stand anew -/
def Anw (t u : Nat → Nat → Int) : Prop := (∀ o j, o < 25 → u o j = t o j) ∧ ∀ k, k < nCl t → (t (25 + k) 5 ≠ 1 → u (25 + k) = t (25 + k)) ∧ (t (25 + k) 5 = 1 → u (25 + k) 5 = 1 ∧ ∀ j, j ≠ 6 → j ≠ 7 → u (25 + k) j = t (25 + k) j)
section OPS
variable {B : Nat}
end OPS
section OPS
variable {B : Nat}
theorem m_moved {h : zH} (r0 : h.2 B 0 = B + 1) (r1 : h.2 B 1 = B + 42) (hc : CV h (B + 1)) (hl : cly h.2 (B + 42)) {K : Int → Int → zH → Option (Int × zH)} : q_X7_compact_L54 B K zF 0 0 h = K ((nct (fun k => decide (vw h.1 (B + 1) (25 + k) 5 = 1 ∧ ¬ (vw h.1 (B + 1) (25 + k) 6 = vw h.1 (B + 42) (25 + k) 6 ∧ vw h.1 (B + 1) (25 + k) 7 = vw h.1 (B + 42) (25 + k) 7))) (nCl (vw h.1 (B + 1))) : Nat) : Int) (nCl (vw h.1 (B + 1)) : Int) h := by
  have hn := hc.2.nC
  refine zctloop (L := fun f x i => q_X7_compact_L54 B K f x i h) (kf := fun x => K x (nCl (vw h.1 (B + 1)) : Int) h) (fun k => decide (vw h.1 (B + 1) (25 + k) 5 = 1 ∧ ¬ (vw h.1 (B + 1) (25 + k) 6 = vw h.1 (B + 42) (25 + k) 6 ∧ vw h.1 (B + 1) (25 + k) 7 = vw h.1 (B + 42) (25 + k) 7))) (by omega) (fun f i hi => ?_) (fun f => ?_)
  · have hi16 : i < 16 := by omega
    have hii : i < 1000000 := by omega
    have hni : ¬ (nCl (vw h.1 (B + 1)) : Int) ≤ (i : Int) := by omega
    have nle := nct_le (P := fun k => decide (vw h.1 (B + 1) (25 + k) 5 = 1 ∧ ¬ (vw h.1 (B + 1) (25 + k) 6 = vw h.1 (B + 42) (25 + k) 6 ∧ vw h.1 (B + 1) (25 + k) 7 = vw h.1 (B + 42) (25 + k) 7))) i
    show q_X7_compact_L54 B K (f + 1) _ (i : Int) h = _
    generalize nct (fun k => decide (vw h.1 (B + 1) (25 + k) 5 = 1 ∧ ¬ (vw h.1 (B + 1) (25 + k) 6 = vw h.1 (B + 42) (25 + k) 6 ∧ vw h.1 (B + 1) (25 + k) 7 = vw h.1 (B + 42) (25 + k) 7))) i = x at nle ⊢
    have w1 : zw ((x : Int) + 1) = ((x + 1 : Nat) : Int) := zw_s (by omega)
    rw [q_X7_compact_L54, r0, r1, a_n7 hc, if_neg hni]
    simp only [zlet_b, zgpos hi16, zdec]
    unfold q_X0_standsWhere
    rw [Int.toNat_natCast, a_call hc, hl.cls, hl.cl, a_c hi16, a_c hi16, a_c hi16, a_c hi16, a_c hi16, w1, zw_s hii]
    clear w1
    by_cases h5 : vw h.1 (B + 1) (25 + i) 5 = 1
    · rw [if_pos h5]
      by_cases h6 : vw h.1 (B + 1) (25 + i) 6 = vw h.1 (B + 42) (25 + i) 6
      · rw [if_pos h6]
        by_cases h7 : vw h.1 (B + 1) (25 + i) 7 = vw h.1 (B + 42) (25 + i) 7
        · rw [if_pos h7, zbp_some, if_neg one0, if_neg (fun z => z.2 ⟨h6, h7⟩)]
        · rw [if_neg h7, zbp_some, if_pos rfl, if_pos ⟨h5, fun z => h7 z.2⟩]
      · rw [if_neg h6, zbp_some, if_pos rfl, if_pos ⟨h5, fun z => h6 z.1⟩]
    · rw [if_neg h5, if_neg (fun z => h5 z.1)]
  · show q_X7_compact_L54 B K (f + 1) _ (nCl (vw h.1 (B + 1)) : Int) h = _
    rw [q_X7_compact_L54, r0, a_n7 hc, if_pos (Int.le_refl _)]
end OPS
