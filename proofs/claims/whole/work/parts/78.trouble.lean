/-! A frame passes: troubles are counted. -/
theorem sFade_congr {v u : Nat → Nat → Int} (w : WF v) (h5 : u 0 5 = v 0 5) (hr : ∀ r, r < 8 → ∀ j, u (17 + r) j = v (17 + r) j) (s f : Int) : sFade u s f = sFade v s f := by
  have hR := w.nR
  have en : nRn u = nRn v := by unfold nRn; rw [h5]
  unfold sFade
  rw [en]
  refine zit_congr _ (fun i hi x => ?_)
  rw [hr i (by omega), hr i (by omega), hr i (by omega), hr i (by omega)]
def pDg (D : Nat) (v : Nat → Nat → Int) (k : Nat) : Nat → Nat → Int := if D.testBit k = true then vup v (25 + k) 10 (v (25 + k) 10 + 1) else v
theorem pDg_ne {D : Nat} {v : Nat → Nat → Int} {k o j : Nat} (h : ¬ (o = 25 + k ∧ j = 10)) : pDg D v k o j = v o j := by
  unfold pDg
  split
  · exact vup_ne h
  · rfl
theorem pD_ne {D : Nat} {v : Nat → Nat → Int} : ∀ (i o j : Nat), ¬ (25 ≤ o ∧ o < 25 + i ∧ j = 10) → zit (pDg D) i v o j = v o j := by
  intro i
  induction i with
  | zero => intro o j _; rfl
  | succ i ih =>
    intro o j h
    rw [zit_s, pDg_ne (by omega)]
    exact ih o j (by omega)
theorem pD_n {D : Nat} {v : Nat → Nat → Int} {i : Nat} : nCl (zit (pDg D) i v) = nCl v ∧ nSt (zit (pDg D) i v) = nSt v := by
  unfold nCl nSt
  rw [pD_ne i 0 7 (by omega), pD_ne i 0 3 (by omega)]
  exact ⟨rfl, rfl⟩
theorem pD_s {D : Nat} {v : Nat → Nat → Int} {i : Nat} : zit (pDg D) (i + 1) v = if D.testBit i = true then vup (zit (pDg D) i v) (25 + i) 10 (v (25 + i) 10 + 1) else zit (pDg D) i v := by
  rw [zit_s, ← pD_ne (D := D) (v := v) i (25 + i) 10 (by omega)]
  rfl
theorem WF.deg {v : Nat → Nat → Int} (w : WF v) {k : Nat} {x : Int} (hx : 0 ≤ x ∧ x ≤ v 0 0) : WF (vup v (25 + k) 10 x) := by
  refine w.call (k := k) (fun o j h => vup_ne (by omega)) (fun hk => ?_)
  have hw := w.2.2.2.2.2.2.2.2 k hk
  have q : ∀ o j, ¬ (o = 25 + k ∧ j = 10) → vup v (25 + k) 10 x o j = v o j := fun o j h => vup_ne h
  obtain ⟨h0, h1, h2, h3, h4, h5, h6, h7, h8, h9, h10, h11⟩ := hw
  unfold WFc
  rw [vup_at, q 0 0 (by omega), q 0 1 (by omega), q 0 3 (by omega), q _ 0 (by omega), q _ 1 (by omega), q _ 2 (by omega), q _ 3 (by omega), q _ 4 (by omega), q _ 5 (by omega), q _ 6 (by omega), q _ 7 (by omega), q _ 8 (by omega), q _ 9 (by omega), q 1 0 (by omega), q 1 1 (by omega), q 1 2 (by omega)]
  exact ⟨h0, h1, h2, h3, h4, h5, h6, h7, h8, hx, h10, h11⟩
theorem MR.deg {v : Nat → Nat → Int} {N N' T : Nat → Int} {k : Nat} {x : Int} (m : MR v N T) (w : WF v) (hk : k < 16) (hN : ∀ i, i ≠ 405 + 12 * k + 11 → N' i = N i) (h5 : N' (405 + 12 * k + 11) = x) : MR (vup v (25 + k) 10 x) N' T := by
  refine m.call w hk (fun o j h => vup_ne (by omega)) (fun i hi => hN i (by omega)) (fun hk7 => ?_)
  have q : ∀ o j, ¬ (o = 25 + k ∧ j = 10) → vup v (25 + k) 10 x o j = v o j := fun o j h => vup_ne h
  have hp : ∀ j, j < 11 → N' (405 + 12 * k + j) = N (405 + 12 * k + j) := fun j hj => hN _ (by omega)
  obtain ⟨h0, h1, h2, h3, h4, h5', h6, h7, h8, h9⟩ := m.2.2.2.2.2.2.2.2 k hk7
  unfold MRc
  rw [vup_at, q _ 0 (by omega), q _ 1 (by omega), q _ 2 (by omega), q _ 3 (by omega), q _ 4 (by omega), q _ 5 (by omega), q _ 6 (by omega), q _ 7 (by omega), q _ 8 (by omega), q _ 9 (by omega), h5, hN 4 (by omega), hN (405 + 12 * k) (by omega), hp 1 (by omega), hp 2 (by omega), hp 3 (by omega), hp 4 (by omega), hp 5 (by omega), hp 6 (by omega), hp 7 (by omega), hp 8 (by omega), hp 9 (by omega), hp 10 (by omega)]
  exact ⟨h0, h1, h2, h3, h4, h5', h6, h7, rfl, h9⟩
/-- nobody counted in this frame -/
def Dlt (v : Nat → Nat → Int) : Prop := (∀ k : Nat, (k : Int) < v 0 7 → v (25 + k) 10 + 1 ≤ v 0 0) ∧ ∀ s : Nat, (s : Int) < v 0 3 → v (5 + 2 * s) 6 + 1 ≤ v 0 0
theorem pD_wf {D : Nat} {v : Nat → Nat → Int} (w : WF v) (hd : Dlt v) : ∀ i, i ≤ nCl v → WF (zit (pDg D) i v) := by
  have hn := w.nC
  intro i
  induction i with
  | zero => exact fun _ => w
  | succ i ih =>
    intro hi
    have wi := ih (by omega)
    have h10 := (w.2.2.2.2.2.2.2.2 i (by omega)).2.2.2.2.2.2.2.2.2.1
    have hdi := hd.1 i (by omega)
    rw [pD_s]
    split
    · refine wi.deg ⟨by omega, ?_⟩
      rw [pD_ne i 0 0 (by omega)]
      exact hdi
    · exact wi
/-- the senders of a set -/
def sSnd' (v : Nat → Nat → Int) (m n : Nat) : Nat := zit (fun (a : Nat) k => if m.testBit k = true then a ||| 2 ^ (v (25 + k) 0).toNat else a) n 0
theorem sSnd'_s {v : Nat → Nat → Int} {m n : Nat} : sSnd' v m (n + 1) = if m.testBit n = true then sSnd' v m n ||| 2 ^ (v (25 + n) 0).toNat else sSnd' v m n := rfl
theorem sSnd'_b {v : Nat → Nat → Int} (w : WF v) {m : Nat} : ∀ n, n ≤ nCl v → sSnd' v m n < 65536 := by
  have hn := w.nC
  have hS := w.nS
  intro n
  induction n with
  | zero => exact fun _ => Nat.zero_lt_succ _
  | succ n ih =>
    intro h
    have hi := ih (by omega)
    have h0 := (w.2.2.2.2.2.2.2.2 n (by omega)).1
    rw [sSnd'_s]
    split
    · refine Nat.or_lt_two_pow (n := 16) hi (Nat.pow_lt_pow_right (by decide) (by omega))
    · exact hi
def pFl (q : Nat) (v : Nat → Nat → Int) (s : Nat) : Nat → Nat → Int := if q.testBit s = true ∧ v 1 1 < 2 * zabs (v (6 + 2 * s) (v 0 0 % 64).toNat) then vup v (5 + 2 * s) 6 (v (5 + 2 * s) 6 + 1) else v
theorem pFl_ne {q : Nat} {v : Nat → Nat → Int} {s o j : Nat} (h : ¬ (o = 5 + 2 * s ∧ j = 6)) : pFl q v s o j = v o j := by
  unfold pFl
  split
  · exact vup_ne h
  · rfl
theorem pFs_ne {q : Nat} {v : Nat → Nat → Int} : ∀ (i o j : Nat), ¬ (5 ≤ o ∧ o < 5 + 2 * i ∧ j = 6) → zit (pFl q) i v o j = v o j := by
  intro i
  induction i with
  | zero => intro o j _; rfl
  | succ i ih =>
    intro o j h
    rw [zit_s, pFl_ne (by omega)]
    exact ih o j (by omega)
theorem WF.flt {v : Nat → Nat → Int} (w : WF v) {s : Nat} (hs6 : s < 6) {x : Int} (hx : 0 ≤ x ∧ x ≤ v 0 0) : WF (vup v (5 + 2 * s) 6 x) := by
  refine w.stn hs6 (fun o j h _ => vup_ne (fun z => h z.1)) (fun hs => ?_)
  obtain ⟨x1, x2, x3, x4, x5, x6⟩ := w.2.2.2.2.2.2.1 s hs
  unfold WFs
  rw [vup_at, vup_ne (j := 6) (i := 1) (by omega), vup_ne (j := 6) (i := 2) (by omega), vup_ne (j := 6) (i := 3) (by omega), vup_ne (j := 6) (i := 4) (by omega), vup_ne (j := 6) (i := 5) (by omega), vup_ne (j := 6) (i := 0) (by omega)]
  exact ⟨x1, x2, x3, x4, hx, fun j hj => by rw [vup_ne (by omega)]; exact x6 j hj⟩
theorem MR.flt {v : Nat → Nat → Int} {N N' T : Nat → Int} {s : Nat} {x : Int} (m : MR v N T) (w : WF v) (hs6 : s < 6) (hN : ∀ i, i ≠ 14 + s → N' i = N i) (h5 : N' (14 + s) = x) : MR (vup v (5 + 2 * s) 6 x) N' T := by
  refine m.stn w hs6 (fun o j h _ => vup_ne (fun z => h z.1)) (fun i _ h2 _ => hN i h2) (fun hs => ?_)
  obtain ⟨b1, b2, b3, b4, b5, b6, b7, b8⟩ := m.2.2.2.2.2.2.1 s hs
  unfold MRs
  rw [vup_at, vup_ne (j := 6) (i := 0) (by omega), vup_ne (j := 6) (i := 1) (by omega), vup_ne (j := 6) (i := 2) (by omega), vup_ne (j := 6) (i := 3) (by omega), vup_ne (j := 6) (i := 4) (by omega), vup_ne (j := 6) (i := 5) (by omega), h5, hN (8 + s) (by omega)]
  exact ⟨b1, b2, b3, b4, b5, b6, rfl, fun j hj => by rw [hN _ (by omega), vup_ne (by omega)]; exact b8 j hj⟩
theorem pFs_wf {q : Nat} {v : Nat → Nat → Int} (w : WF v) (hd : ∀ s : Nat, (s : Int) < v 0 3 → v (5 + 2 * s) 6 + 1 ≤ v 0 0) : ∀ i, i ≤ nSt v → WF (zit (pFl q) i v) := by
  have hS := w.nS
  intro i
  induction i with
  | zero => exact fun _ => w
  | succ i ih =>
    intro hi
    have wi := ih (by omega)
    have h6 := (w.2.2.2.2.2.2.1 i (by omega)).2.2.2.2.1
    have hdi := hd i (by omega)
    have e6 : zit (pFl q) i v (5 + 2 * i) 6 = v (5 + 2 * i) 6 := pFs_ne i _ _ (by omega)
    have e0 : zit (pFl q) i v 0 0 = v 0 0 := pFs_ne i _ _ (by omega)
    rw [zit_s]
    generalize zit (pFl q) i v = u at wi e6 e0
    unfold pFl
    split
    · exact wi.flt (by omega) ⟨by omega, by omega⟩
    · exact wi
/-- the troubles of a frame: m the calls that go on -/
def pT (v : Nat → Nat → Int) (m : Nat) : Nat → Nat → Int := zit (pFl (sSnd' v m (nCl v))) (nSt v) (zit (pDg (sDeg v (fun k => m.testBit k))) (nCl v) v)
theorem z_bit1 {m k : Nat} (hm : m < 65536) (hk : k < 16) : zand (zshr (m : Int) (k : Int)) 1 = 1 ↔ m.testBit k = true := by
  have e : zand (zshr (m : Int) (k : Int)) 1 = ((m >>> k &&& 1 : Nat) : Int) := by
    rw [zshr_nat (by omega) (by omega)]
    exact zand_nat (n := 1) (Nat.lt_of_le_of_lt (Nat.shiftRight_le _ _) (by omega)) (by decide)
  have hb : m >>> k &&& 1 = 0 ∨ m >>> k &&& 1 = 1 := by rw [Nat.and_one_is_mod]; omega
  have z := z_bit hm hk
  rw [e] at z ⊢
  rcases hb with hb | hb
  · rw [hb] at z ⊢
    exact ⟨fun y => absurd y (by decide), fun y => absurd y (z.mp rfl)⟩
  · rw [hb] at z ⊢
    refine ⟨fun _ => ?_, fun _ => rfl⟩
    refine Classical.byContradiction fun y => ?_
    exact absurd (z.mpr y) (by decide)
section CL
variable {h : zH} {A : Nat}
theorem m_ct11 (hc : CV h A) (hd : Dlt (vw h.1 A)) {m D : Nat} (hm : m < 65536) (hD : D < 65536) {K : Int → Int → zH → Option (Unit × zH)} : ∀ (r i f : Nat) (g : zH), i + r = nCl (vw h.1 A) → r < f → vw g.1 A = zit (pDg D) i (vw h.1 A) → Frm A h g →
    ∃ g', q_X4_countTroubles_L11 A (m : Int) (D : Int) K f ((sSnd' (vw h.1 A) m i : Nat) : Int) (i : Int) g = K ((sSnd' (vw h.1 A) m (nCl (vw h.1 A)) : Nat) : Int) (nCl (vw h.1 A) : Int) g' ∧ vw g'.1 A = zit (pDg D) (nCl (vw h.1 A)) (vw h.1 A) ∧ Frm A h g' := by
  have w := hc.2
  have hn := w.nC
  have hS := w.nS
  intro r
  induction r with
  | zero =>
    intro i f g q1 q2 hv hF
    obtain ⟨f', rfl⟩ : ∃ f', f = f' + 1 := ⟨f - 1, by omega⟩
    have e : i = nCl (vw h.1 A) := by omega
    have hcg : CV g A := ⟨by rw [hF.1]; exact hc.1, by rw [hv]; exact pD_wf w hd i (by omega)⟩
    have en : nCl (vw g.1 A) = nCl (vw h.1 A) := by rw [hv]; exact pD_n.1
    refine ⟨g, ?_, by rw [← e]; exact hv, hF⟩
    rw [q_X4_countTroubles_L11, a_n7 hcg, en, e, if_pos (Int.le_refl _)]
  | succ r ih =>
    intro i f g q1 q2 hv hF
    obtain ⟨f', rfl⟩ : ∃ f', f = f' + 1 := ⟨f - 1, by omega⟩
    have hcg : CV g A := ⟨by rw [hF.1]; exact hc.1, by rw [hv]; exact pD_wf w hd i (by omega)⟩
    have en : nCl (vw g.1 A) = nCl (vw h.1 A) := by rw [hv]; exact pD_n.1
    have hi16 : i < 16 := by omega
    have hii : i < 1000000 := by omega
    have hni : ¬ (nCl (vw h.1 A) : Int) ≤ (i : Int) := by omega
    have e0 : g.1 (A + (25 + i)) 0 = vw h.1 A (25 + i) 0 := by rw [a_c hi16, hv]; exact pD_ne i _ _ (by omega)
    have e10 : g.1 (A + (25 + i)) 10 = vw h.1 A (25 + i) 10 := by rw [a_c hi16, hv]; exact pD_ne i _ _ (by omega)
    have hw := w.2.2.2.2.2.2.2.2 i (by omega)
    have hw0 := hw.1
    have hw10 := hw.2.2.2.2.2.2.2.2.2.1
    have hfr := w.1
    obtain ⟨s, hs⟩ : ∃ s : Nat, vw h.1 A (25 + i) 0 = (s : Int) := ⟨(vw h.1 A (25 + i) 0).toNat, by omega⟩
    have hs16 : s < 16 := by omega
    have hsb := sSnd'_b w (m := m) i (by omega)
    have hss := sSnd'_s (v := vw h.1 A) (m := m) (n := i)
    rw [hs, Int.toNat_natCast] at hss
    have wz : zw (vw h.1 A (25 + i) 10 + 1) = vw h.1 A (25 + i) 10 + 1 := zw_id ⟨by omega, by omega⟩
    rw [q_X4_countTroubles_L11, a_n7 hcg, en, if_neg hni, e_isIn hm hi16, zbp_some]
    simp only [zlet_b]
    rw [e_isIn hD hi16]
    simp only [zbp_some, zgpos hi16]
    rw [Int.toNat_natCast, a_call hcg, e0, e10, wz, hs, zor_set hsb hs16, zw_s hii]
    clear wz
    have nx : ∀ (x : Nat) (g2 : zH), x = sSnd' (vw h.1 A) m (i + 1) → vw g2.1 A = zit (pDg D) (i + 1) (vw h.1 A) → Frm A h g2 → ∃ g', q_X4_countTroubles_L11 A (m : Int) (D : Int) K f' (x : Int) ((i + 1 : Nat) : Int) g2 = K ((sSnd' (vw h.1 A) m (nCl (vw h.1 A)) : Nat) : Int) (nCl (vw h.1 A) : Int) g' ∧ vw g'.1 A = zit (pDg D) (nCl (vw h.1 A)) (vw h.1 A) ∧ Frm A h g' := fun x g2 hx hv2 hF2 => by
      rw [hx]
      exact ih (i + 1) f' g2 (by omega) (by omega) hv2 hF2
    have v0 : ¬ D.testBit i = true → vw g.1 A = zit (pDg D) (i + 1) (vw h.1 A) := fun z => by rw [pD_s, if_neg z]; exact hv
    have v1 : D.testBit i = true → vw (zput g (A + (25 + i)) 10 (vw h.1 A (25 + i) 10 + 1)).1 A = zit (pDg D) (i + 1) (vw h.1 A) := fun z => by rw [pD_s, if_pos z, vw_put (by omega), hv]
    by_cases hmi : m.testBit i = true
    · rw [if_pos hmi] at hss
      rw [if_pos hmi, if_neg one0]
      by_cases hDi : D.testBit i = true
      · rw [if_pos hDi, if_neg one0]
        exact nx _ _ hss.symm (v1 hDi) (hF.put (by omega))
      · rw [if_neg hDi, if_pos rfl]
        exact nx _ _ hss.symm (v0 hDi) hF
    · rw [if_neg hmi] at hss
      rw [if_neg hmi, if_pos rfl]
      by_cases hDi : D.testBit i = true
      · rw [if_pos hDi, if_neg one0]
        exact nx _ _ hss.symm (v1 hDi) (hF.put (by omega))
      · rw [if_neg hDi, if_pos rfl]
        exact nx _ _ hss.symm (v0 hDi) hF
theorem m_ct78 (hc : CV h A) (hd : ∀ s : Nat, (s : Int) < vw h.1 A 0 3 → vw h.1 A (5 + 2 * s) 6 + 1 ≤ vw h.1 A 0 0) {q : Nat} (hq : q < 65536) {K : Int → zH → Option (Unit × zH)} : ∀ (r i f : Nat) (g : zH), i + r = nSt (vw h.1 A) → r < f → vw g.1 A = zit (pFl q) i (vw h.1 A) → Frm A h g →
    ∃ g', q_X4_countTroubles_L78 A (q : Int) K f (i : Int) g = K (nSt (vw h.1 A) : Int) g' ∧ vw g'.1 A = zit (pFl q) (nSt (vw h.1 A)) (vw h.1 A) ∧ Frm A h g' := by
  have w := hc.2
  have hS := w.nS
  intro r
  induction r with
  | zero =>
    intro i f g q1 q2 hv hF
    obtain ⟨f', rfl⟩ : ∃ f', f = f' + 1 := ⟨f - 1, by omega⟩
    have e : i = nSt (vw h.1 A) := by omega
    have hcg : CV g A := ⟨by rw [hF.1]; exact hc.1, by rw [hv]; exact pFs_wf w hd i (by omega)⟩
    have en : nSt (vw g.1 A) = nSt (vw h.1 A) := by rw [hv]; unfold nSt; rw [pFs_ne i 0 3 (by omega)]
    refine ⟨g, ?_, by rw [← e]; exact hv, hF⟩
    rw [q_X4_countTroubles_L78, a_n3 hcg, en, e, if_pos (Int.le_refl _)]
  | succ r ih =>
    intro i f g q1 q2 hv hF
    obtain ⟨f', rfl⟩ : ∃ f', f = f' + 1 := ⟨f - 1, by omega⟩
    have hcg : CV g A := ⟨by rw [hF.1]; exact hc.1, by rw [hv]; exact pFs_wf w hd i (by omega)⟩
    have en : nSt (vw g.1 A) = nSt (vw h.1 A) := by rw [hv]; unfold nSt; rw [pFs_ne i 0 3 (by omega)]
    have hi6 : i < 6 := by omega
    have hi16 : i < 16 := by omega
    have hii : i < 1000000 := by omega
    have hni : ¬ (nSt (vw h.1 A) : Int) ≤ (i : Int) := by omega
    have hn1 : zit (pFl q) (i + 1) (vw h.1 A) = pFl q (vw g.1 A) i := by rw [zit_s, hv]
    have hs : (i : Int) < vw g.1 A 0 3 := by rw [hcg.2.nS.1, en]; omega
    have hws := hcg.2.2.2.2.2.2.2.1 i hs
    have hfr := hcg.2.1
    have heb := hws.2.2.2.2.2 (vw g.1 A 0 0 % 64).toNat (by omega)
    have h6 := hws.2.2.2.2.1
    have wz : zw (vw g.1 A (5 + 2 * i) 6 + 1) = vw g.1 A (5 + 2 * i) 6 + 1 := zw_id ⟨by omega, by omega⟩
    rw [q_X4_countTroubles_L78, a_n3 hcg, en, if_neg hni, e_isIn hq hi16, zbp_some]
    simp only [zlet_b]
    unfold q_X5_isOutOfTime
    simp only [zgpos hi6]
    rw [Int.toNat_natCast, a_stn hcg, a_0, a_set hcg, e5_err hcg hi6 hfr.1 (by omega), zbp_some, abs2 heb, a_s hi6, wz, zw_s hii]
    clear wz
    by_cases hb : q.testBit i = true
    · rw [if_pos hb, if_neg one0]
      by_cases hl : 2 * zabs (vw g.1 A (6 + 2 * i) (vw g.1 A 0 0 % 64).toNat) ≤ vw g.1 A 1 1
      · rw [if_pos hl, zbp_some, if_pos rfl]
        refine ih (i + 1) f' g (by omega) (by omega) ?_ hF
        rw [hn1]
        unfold pFl
        rw [if_neg (fun z => by have := z.2; omega)]
      · rw [if_neg hl, zbp_some, if_neg one0]
        refine ih (i + 1) f' _ (by omega) (by omega) ?_ (hF.put (by omega))
        rw [hn1, vw_put (by omega)]
        unfold pFl
        rw [if_pos ⟨hb, by omega⟩]
    · rw [if_neg hb, if_pos rfl]
      refine ih (i + 1) f' g (by omega) (by omega) ?_ hF
      rw [hn1]
      unfold pFl
      rw [if_neg (fun z => hb z.1)]
theorem pD_dlt {D : Nat} {v : Nat → Nat → Int} (hd : Dlt v) {i : Nat} : ∀ s : Nat, (s : Int) < zit (pDg D) i v 0 3 → zit (pDg D) i v (5 + 2 * s) 6 + 1 ≤ zit (pDg D) i v 0 0 := by
  intro s hs
  rw [pD_ne i 0 3 (by omega)] at hs
  rw [pD_ne i _ 6 (by omega), pD_ne i 0 0 (by omega)]
  exact hd.2 s hs
end CL
