/-! A frame passes, whole. -/
theorem sMarg_pD {D : Nat} {v : Nat → Nat → Int} (w : WF v) {i k : Nat} {p f : Int} : sMarg (zit (pDg D) i v) k p f = sMarg v k p f := by
  unfold sMarg
  have e := sFade_congr (u := zit (pDg D) i v) w (pD_ne i 0 5 (by omega)) (fun r hr j => pD_ne i _ j (by omega))
  rw [e, e, pD_ne i _ 0 (by omega), pD_ne i _ 1 (by omega), pD_ne i 1 4 (by omega)]
section CL
variable {h : zH} {A : Nat}
theorem e4_trouble (hc : CV h A) (hd : Dlt (vw h.1 A)) {m : Nat} (hm : m < 65536) : ∃ h', q_X4_countTroubles h A (m : Int) = some ((), h') ∧ vw h'.1 A = pT (vw h.1 A) m ∧ Frm A h h' := by
  have w := hc.2
  have hn := w.nC
  have hS := w.nS
  unfold q_X4_countTroubles
  rw [e4_degAmong hc hm, zbp_some]
  have hD : sDeg (vw h.1 A) (fun k => m.testBit k) < 65536 := nset_16 hn.2
  obtain ⟨g, p1, p2, p3⟩ := m_ct11 hc hd hm hD (K := fun x12 _ h14 => q_X4_countTroubles_L78 A x12 (fun _ h22 => some ((), h22)) zF 0 h14) (nCl (vw h.1 A)) 0 zF h (Nat.zero_add _) (by unfold zF; omega) rfl Frm.rf
  have p1' := p1
  rw [show ((0 : Nat) : Int) = 0 from rfl, show ((sSnd' (vw h.1 A) m 0 : Nat) : Int) = 0 from rfl] at p1'
  rw [p1']
  have wg : WF (vw g.1 A) := by rw [p2]; exact pD_wf w hd _ (Nat.le_refl _)
  have hcg : CV g A := ⟨by rw [p3.1]; exact hc.1, wg⟩
  have en : nSt (vw g.1 A) = nSt (vw h.1 A) := by rw [p2]; exact pD_n.2
  obtain ⟨g', o1, o2, o3⟩ := m_ct78 hcg (by rw [p2]; exact pD_dlt hd) (q := sSnd' (vw h.1 A) m (nCl (vw h.1 A))) (sSnd'_b w _ (Nat.le_refl _)) (K := fun _ h22 => some ((), h22)) (nSt (vw g.1 A)) 0 zF g (Nat.zero_add _) (by unfold zF; omega) rfl Frm.rf
  have o1' := o1
  rw [show ((0 : Nat) : Int) = 0 from rfl] at o1'
  refine ⟨g', o1', ?_, p3.tr o3⟩
  rw [o2, en, p2]
  rfl
end CL
section OPS
variable {B : Nat}
theorem m_r137 {h : zH} {v : Nat → Nat → Int} (hm : MV h (B + 541) v) (hd : Dlt v) {m : Nat} (hm16 : m < 65536) {K : Int → Int → zH → Option (Unit × zH)} : ∀ (r i f : Nat) (g : zH), i + r = nCl v → r < f → MV g (B + 541) (zit (pDg (sDeg v (fun k => m.testBit k))) i v) → zNw B h g →
    ∃ g', q_X8_passes_L137 (B + 541) (m : Int) K f ((sSnd' v m i : Nat) : Int) (i : Int) g = K ((sSnd' v m (nCl v) : Nat) : Int) (nCl v : Int) g' ∧ MV g' (B + 541) (zit (pDg (sDeg v (fun k => m.testBit k))) (nCl v) v) ∧ zNw B h g' := by
  have w := hm.2.1
  have hn := w.nC
  have hS := w.nS
  intro r
  induction r with
  | zero =>
    intro i f g q1 q2 hg hF
    obtain ⟨f', rfl⟩ : ∃ f', f = f' + 1 := ⟨f - 1, by omega⟩
    have e : i = nCl v := by omega
    refine ⟨g, ?_, by rw [← e]; exact hg, hF⟩
    rw [q_X8_passes_L137, m_n7 hg, pD_n.1, e, if_pos (Int.le_refl _)]
  | succ r ih =>
    intro i f g q1 q2 hg hF
    obtain ⟨f', rfl⟩ : ∃ f', f = f' + 1 := ⟨f - 1, by omega⟩
    have hi16 : i < 16 := by omega
    have hii : i < 1000000 := by omega
    have hni : ¬ (nCl v : Int) ≤ (i : Int) := by omega
    have hgn : g.1 (g.2 (B + 541) 5) 404 = (nCl v : Int) := by rw [m_n7 hg, pD_n.1]
    have hps := pD_s (D := sDeg v (fun k => m.testBit k)) (v := v) (i := i)
    have hDb : (sDeg v (fun k => m.testBit k)).testBit i = (m.testBit i && decide (sMarg v i (v (5 + 2 * (v (25 + i) 0).toNat) 5) (v 0 0) < 0)) := by
      unfold sDeg
      rw [nset_bit, decide_eq_true (show i < nCl v by omega), Bool.true_and]
    have e7 : zit (pDg (sDeg v (fun k => m.testBit k))) i v 0 7 = v 0 7 := pD_ne i 0 7 (by omega)
    have e0 : zit (pDg (sDeg v (fun k => m.testBit k))) i v (25 + i) 0 = v (25 + i) 0 := pD_ne i _ _ (by omega)
    have e10 : zit (pDg (sDeg v (fun k => m.testBit k))) i v (25 + i) 10 = v (25 + i) 10 := pD_ne i _ _ (by omega)
    have hi7 : (i : Int) < zit (pDg (sDeg v (fun k => m.testBit k))) i v 0 7 := by rw [e7]; omega
    have hmg := e8_marginNow hg hi7
    rw [sMarg_pD w, e0, pD_ne i _ 5 (by omega), pD_ne i 0 0 (by omega)] at hmg
    have hw := w.2.2.2.2.2.2.2.2 i (by omega)
    have hw0 := hw.1
    have hw10 := hw.2.2.2.2.2.2.2.2.2.1
    have hfr := w.1
    have hdi := hd.1 i (by omega)
    have h0 := m_0 hg hi7
    have h11 := m_11 hg hi7
    rw [e0] at h0
    rw [e10] at h11
    have wi := pD_wf (D := sDeg v (fun k => m.testBit k)) w hd i (by omega)
    have u00 : zit (pDg (sDeg v (fun k => m.testBit k))) i v 0 0 = v 0 0 := pD_ne i 0 0 (by omega)
    generalize zit (pDg (sDeg v (fun k => m.testBit k))) i v = u at hg hps e0 e10 e7 hi7 h0 h11 wi u00
    obtain ⟨s, hs⟩ : ∃ s : Nat, v (25 + i) 0 = (s : Int) := ⟨(v (25 + i) 0).toNat, by omega⟩
    have hs16 : s < 16 := by omega
    have hsb := sSnd'_b w (m := m) i (by omega)
    have hss := sSnd'_s (v := v) (m := m) (n := i)
    rw [hs, Int.toNat_natCast] at hss
    have nx : ∀ (x : Nat) (g2 : zH), x = sSnd' v m (i + 1) → MV g2 (B + 541) (zit (pDg (sDeg v (fun k => m.testBit k))) (i + 1) v) → zNw B h g2 → ∃ g', q_X8_passes_L137 (B + 541) (m : Int) K f' (x : Int) ((i + 1 : Nat) : Int) g2 = K ((sSnd' v m (nCl v) : Nat) : Int) (nCl v : Int) g' ∧ MV g' (B + 541) (zit (pDg (sDeg v (fun k => m.testBit k))) (nCl v) v) ∧ zNw B h g' := fun x g2 hx hv2 hF2 => by
      rw [hx]
      exact ih (i + 1) f' g2 (by omega) (by omega) hv2 hF2
    rw [q_X8_passes_L137, hgn, if_neg hni]
    simp only [zlet_b]
    rw [zw_s hii]
    by_cases hmi : m.testBit i = true
    · rw [if_pos hmi] at hss
      rw [if_neg (fun z => (z_bit hm16 hi16).mp z hmi), hmg, zbp_some]
      by_cases hg0 : 0 ≤ sMarg v i (v (5 + 2 * (v (25 + i) 0).toNat) 5) (v 0 0)
      · rw [if_pos hg0, h0, zbp_some, hs, zor_set hsb hs16]
        refine nx _ _ hss.symm ?_ hF
        rw [hps, hDb, hmi, if_neg (by simp; omega)]
        exact hg
      · have wz : zw (v (25 + i) 10 + 1) = v (25 + i) 10 + 1 := zw_id ⟨by omega, by omega⟩
        have F1 : zNw B g (zput g (B + 541 + 4) (405 + 12 * i + 11) (v (25 + i) 10 + 1)) := zNw.rf.put
        have hm1 : MV (zput g (B + 541 + 4) (405 + 12 * i + 11) (v (25 + i) 10 + 1)) (B + 541) (vup u (25 + i) 10 (v (25 + i) 10 + 1)) := by
          clear wz
          refine F1.mv hg (wi.deg ⟨by omega, by omega⟩) (hg.2.2.deg wi hi16 (fun j hj => zput_ne (fun z => hj z.2)) zput_self)
        have h0' := m_0 hm1 (n := i) (by rw [vup_ne (by clear wz; omega)]; exact hi7)
        rw [vup_ne (by clear wz; omega), e0] at h0'
        rw [if_neg hg0, h11, zbp_some, wz, e8_put hg.1 hi16 (j := 11) (J := 11) (by decide) rfl, zbd_some, h0', zbp_some, hs, zor_set hsb hs16]
        refine nx _ _ hss.symm ?_ (hF.tr F1)
        rw [hps, hDb, hmi, if_pos (by clear wz; simp; omega)]
        exact hm1
    · rw [if_neg hmi] at hss
      rw [if_pos ((z_bit hm16 hi16).mpr hmi)]
      refine nx _ _ hss.symm ?_ hF
      rw [hps, hDb, if_neg (by rw [Bool.and_eq_true]; exact fun z => hmi z.1)]
      exact hg
theorem m_r212 {h : zH} {v : Nat → Nat → Int} (hm : MV h (B + 541) v) (hd : ∀ s : Nat, (s : Int) < v 0 3 → v (5 + 2 * s) 6 + 1 ≤ v 0 0) {q : Nat} (hq : q < 65536) {K : Int → zH → Option (Unit × zH)} : ∀ (r i f : Nat) (g : zH), i + r = nSt v → r < f → MV g (B + 541) (zit (pFl q) i v) → zNw B h g →
    ∃ g', q_X8_passes_L212 (B + 541) (q : Int) K f (i : Int) g = K (nSt v : Int) g' ∧ MV g' (B + 541) (zit (pFl q) (nSt v) v) ∧ zNw B h g' := by
  have w := hm.2.1
  have hS := w.nS
  intro r
  induction r with
  | zero =>
    intro i f g q1 q2 hg hF
    obtain ⟨f', rfl⟩ : ∃ f', f = f' + 1 := ⟨f - 1, by omega⟩
    have e : i = nSt v := by omega
    have en : nSt (zit (pFl q) i v) = nSt v := by unfold nSt; rw [pFs_ne i 0 3 (by omega)]
    refine ⟨g, ?_, by rw [← e]; exact hg, hF⟩
    rw [q_X8_passes_L212, m_n3 hg, en, e, if_pos (Int.le_refl _)]
  | succ r ih =>
    intro i f g q1 q2 hg hF
    obtain ⟨f', rfl⟩ : ∃ f', f = f' + 1 := ⟨f - 1, by omega⟩
    have hi6 : i < 6 := by omega
    have hi16 : i < 16 := by omega
    have hii : i < 1000000 := by omega
    have hni : ¬ (nSt v : Int) ≤ (i : Int) := by omega
    have en : nSt (zit (pFl q) i v) = nSt v := by unfold nSt; rw [pFs_ne i 0 3 (by omega)]
    have e3 : zit (pFl q) i v 0 3 = v 0 3 := pFs_ne i 0 3 (by omega)
    have e0 : zit (pFl q) i v 0 0 = v 0 0 := pFs_ne i 0 0 (by omega)
    have e6 : zit (pFl q) i v (5 + 2 * i) 6 = v (5 + 2 * i) 6 := pFs_ne i _ _ (by omega)
    have hn1 : zit (pFl q) (i + 1) v = pFl q (zit (pFl q) i v) i := zit_s
    have wi := pFs_wf (q := q) w hd i (by omega)
    have hgn := m_n3 hg
    rw [en] at hgn
    have hdi := hd i (by omega)
    have hf6 := (w.2.2.2.2.2.2.1 i (by omega)).2.2.2.2.1
    generalize zit (pFl q) i v = u at hg en e3 e0 e6 hn1 wi
    have hs : (i : Int) < u 0 3 := by omega
    have hws := wi.2.2.2.2.2.2.1 i hs
    have hfr := wi.1
    have hj64 : (u 0 0 % 64).toNat < 64 := by omega
    have heb := hws.2.2.2.2.2 (u 0 0 % 64).toNat hj64
    have ms := hg.2.2.2.2.2.2.2.2.1 i hs
    have m14 : g.1 (g.2 (B + 541) 5) (14 + i) = u (5 + 2 * i) 6 := by rw [hg.1.now]; exact ms.2.2.2.2.2.2.1
    have mer : g.1 (g.2 (B + 541) 5) (20 + 64 * i + (u 0 0 % 64).toNat) = u (6 + 2 * i) (u 0 0 % 64).toNat := by rw [hg.1.now]; exact ms.2.2.2.2.2.2.2 _ hj64
    have mgu : g.1 (g.2 (B + 541) 5) 2 = u 1 1 := m_set hg (j := 1) (by decide)
    have k14 : 14 + i < 597 := by omega
    have kpl : 20 + 64 * i + (u 0 0 % 64).toNat < 597 := by omega
    have hpl := e8_place (h := g) (M := B + 541) (t := u 0 0) hi6 (by omega)
    have late : q_X8_isLate g (B + 541) (i : Int) = some (if 2 * zabs (u (6 + 2 * i) (u 0 0 % 64).toNat) ≤ u 1 1 then 0 else 1) := by
      unfold q_X8_isLate
      rw [m_now hg, hpl, zbp_some, zgpos kpl, Int.toNat_natCast, mer, mgu, abs2 heb]
      split <;> rfl
    have F0 : zNw B g (zput g (B + 541 + 4) (14 + i) (u (5 + 2 * i) 6)) := zNw.rf.put
    have hm0 : MV (zput g (B + 541 + 4) (14 + i) (u (5 + 2 * i) 6)) (B + 541) u := F0.mv hg wi (MR.ext wi hg.2.2 (fun j _ => by
      by_cases ej : j = 14 + i
      · rw [ej, zput_self, ← m14, hg.1.now]
      · rw [zput_ne (fun z => ej z.2)]))
    have F1 : zNw B g (zput g (B + 541 + 4) (14 + i) (u (5 + 2 * i) 6 + 1)) := zNw.rf.put
    have hm1 : MV (zput g (B + 541 + 4) (14 + i) (u (5 + 2 * i) 6 + 1)) (B + 541) (vup u (5 + 2 * i) 6 (u (5 + 2 * i) 6 + 1)) := F1.mv hg (wi.flt hi6 ⟨by omega, by omega⟩) (hg.2.2.flt wi hi6 (fun j hj => zput_ne (fun z => hj z.2)) zput_self)
    have w0 : zw (u (5 + 2 * i) 6 + 0) = u (5 + 2 * i) 6 := zw_0 ⟨by omega, by omega⟩
    have w1 : zw (u (5 + 2 * i) 6 + 1) = u (5 + 2 * i) 6 + 1 := by clear w0; exact zw_id ⟨by omega, by omega⟩
    have w14 : zw (14 + (i : Int)) = ((14 + i : Nat) : Int) := zw_c (c := 14) (Nat.lt_trans k14 (by decide))
    rw [q_X8_passes_L212, hgn, if_neg hni]
    simp only [zlet_b]
    rw [w14]
    simp only [zgpos k14]
    rw [late, Int.toNat_natCast, m14, w0, w1, hg.1.now, zw_s hii]
    clear w0 w1 w14
    have nx : ∀ (g2 : zH), MV g2 (B + 541) (pFl q u i) → zNw B g g2 → ∃ g', q_X8_passes_L212 (B + 541) (q : Int) K f' ((i + 1 : Nat) : Int) g2 = K (nSt v : Int) g' ∧ MV g' (B + 541) (zit (pFl q) (nSt v) v) ∧ zNw B h g' := fun g2 h2 f2 => ih (i + 1) f' g2 (by omega) (by omega) (by rw [hn1]; exact h2) (hF.tr f2)
    by_cases hb : q.testBit i = true
    · rw [if_pos ((z_bit1 hq hi16).mpr hb), zbp_some]
      by_cases hl : 2 * zabs (u (6 + 2 * i) (u 0 0 % 64).toNat) ≤ u 1 1
      · rw [if_pos hl, if_pos rfl]
        refine nx _ ?_ F0
        unfold pFl
        rw [if_neg (fun z => by have := z.2; omega)]
        exact hm0
      · rw [if_neg hl, if_neg one0]
        refine nx _ ?_ F1
        unfold pFl
        rw [if_pos ⟨hb, by omega⟩]
        exact hm1
    · rw [if_neg (fun z => hb ((z_bit1 hq hi16).mp z))]
      refine nx _ ?_ F0
      unfold pFl
      rw [if_neg (fun z => hb z.1)]
      exact hm0
end OPS
