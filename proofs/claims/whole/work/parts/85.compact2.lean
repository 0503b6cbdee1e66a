/-! Compacting: both sides. -/
section OPS
variable {B : Nat}
theorem m_moved {h : zH} (r0 : h.2 B 0 = B + 1) (r1 : h.2 B 1 = B + 42) (hc : CV h (B + 1)) (hl : cly h.2 (B + 42)) {K : Int → Int → zH → Option (Int × zH)} : q_X7_compact_L54 B K zF 0 0 h = K ((nct (fun k => decide (vw h.1 (B + 1) (25 + k) 5 = 1 ∧ ¬ (vw h.1 (B + 1) (25 + k) 6 = vw h.1 (B + 42) (25 + k) 6 ∧ vw h.1 (B + 1) (25 + k) 7 = vw h.1 (B + 42) (25 + k) 7))) (nCl (vw h.1 (B + 1))) : Nat) : Int) (nCl (vw h.1 (B + 1)) : Int) h := by
  have hn := hc.2.nC
  refine zctloop (L := fun f x i => q_X7_compact_L54 B K f x i h) (kf := fun x => K x (nCl (vw h.1 (B + 1)) : Int) h) (fun k => decide (vw h.1 (B + 1) (25 + k) 5 = 1 ∧ ¬ (vw h.1 (B + 1) (25 + k) 6 = vw h.1 (B + 42) (25 + k) 6 ∧ vw h.1 (B + 1) (25 + k) 7 = vw h.1 (B + 42) (25 + k) 7))) (by omega) (fun f i hi => ?_) (fun f => ?_)
  · have hi16 : i < 16 := by omega
    have hii : i < 1000000 := by omega
    have hni : ¬ (nCl (vw h.1 (B + 1)) : Int) ≤ (i : Int) := by omega
    have nle := nct_le (P := fun k => decide (vw h.1 (B + 1) (25 + k) 5 = 1 ∧ ¬ (vw h.1 (B + 1) (25 + k) 6 = vw h.1 (B + 42) (25 + k) 6 ∧ vw h.1 (B + 1) (25 + k) 7 = vw h.1 (B + 42) (25 + k) 7))) i
    show q_X7_compact_L54 B K (f + 1) _ (i : Int) h = _
    generalize nct (fun k => decide (vw h.1 (B + 1) (25 + k) 5 = 1 ∧ ¬ (vw h.1 (B + 1) (25 + k) 6 = vw h.1 (B + 42) (25 + k) 6 ∧ vw h.1 (B + 1) (25 + k) 7 = vw h.1 (B + 42) (25 + k) 7))) i = x at nle ⊢
    have w1 : zw ((x : Int) + 1) = ((x + 1 : Nat) : Int) := zw_s (by omega)
    rw [q_X7_compact_L54, r0, r1, a_n7 hc, if_neg hni]
    simp only [zlet_b, zgpos hi16, zdec]
    unfold q_X0_standsWhere
    rw [Int.toNat_natCast, a_call hc, hl.cls, hl.cl, a_c hi16, a_c hi16, a_c hi16, a_c hi16, a_c hi16, w1, zw_s hii]
    clear w1
    by_cases h5 : vw h.1 (B + 1) (25 + i) 5 = 1
    · rw [if_pos h5]
      by_cases h6 : vw h.1 (B + 1) (25 + i) 6 = vw h.1 (B + 42) (25 + i) 6
      · rw [if_pos h6]
        by_cases h7 : vw h.1 (B + 1) (25 + i) 7 = vw h.1 (B + 42) (25 + i) 7
        · rw [if_pos h7, zbp_some, if_neg one0, if_neg (fun z => z.2 ⟨h6, h7⟩)]
        · rw [if_neg h7, zbp_some, if_pos rfl, if_pos ⟨h5, fun z => h7 z.2⟩]
      · rw [if_neg h6, zbp_some, if_pos rfl, if_pos ⟨h5, fun z => h6 z.1⟩]
    · rw [if_neg h5, if_neg (fun z => h5 z.1)]
  · show q_X7_compact_L54 B K (f + 1) _ (nCl (vw h.1 (B + 1)) : Int) h = _
    rw [q_X7_compact_L54, r0, a_n7 hc, if_pos (Int.le_refl _)]
theorem op_42 : zI_42 (zInv B) B (B + 541) (B + 552) := by
  intro h hI hG
  have hw := hI.wf
  have hcv := hI.cv
  have hn := hw.nC
  have hC4 := hw.2.1
  have r1 : h.2 B 1 = B + 42 := hI.1 0 (by decide) (by decide) 1
  obtain ⟨C, hC⟩ : ∃ C : Nat, vw h.1 (B + 1) 0 1 = (C : Int) := ⟨(vw h.1 (B + 1) 0 1).toNat, by omega⟩
  have hm16 : sIn (vw h.1 (B + 1)) 1 < 65536 := nset_16 hn.2
  have hmk : ∀ k, k < nCl (vw h.1 (B + 1)) → decide (vw h.1 (B + 1) (25 + k) 5 = 1) = sMk (vw h.1 (B + 1)) 2 k := fun k hk => sIn_mk hw 1 (by decide) k hk
  have hmb : ∀ k, k < nCl (vw h.1 (B + 1)) → (sIn (vw h.1 (B + 1)) 1).testBit k = sMk (vw h.1 (B + 1)) 2 k := fun k hk => by
    unfold sIn
    rw [nset_bit, decide_eq_true hk, Bool.true_and]
    exact hmk k hk
  have hmt : ∀ k, k < nCl (vw h.1 (B + 1)) → ((sIn (vw h.1 (B + 1)) 1).testBit k = true ↔ vw h.1 (B + 1) (25 + k) 5 = 1) := fun k hk => by
    rw [hmb k hk, ← hmk k hk, zdec]
  obtain ⟨c, a, hE⟩ := Enu.ex (sMk (vw h.1 (B + 1)) 2) (fun k => vw h.1 (B + 1) (25 + k) 2) (nCl (vw h.1 (B + 1)))
  have hbc : sBC ((sIn (vw h.1 (B + 1)) 1 : Nat) : Int) = (c : Int) := by
    unfold sIn
    rw [sBC_nset hn.2, hE.2.2.2]
    exact congrArg (fun x : Nat => (x : Int)) (nct_congr _ hmk)
  obtain ⟨g, c1, c2, c3⟩ := e4_copy (i_clyT hI) hcv (Or.inr (by omega))
  generalize htt : vw g.1 (B + 42) = t at c2
  have wt := c2.wf hw
  have ent : nCl t = nCl (vw h.1 (B + 1)) := c2.ceq.n
  have tc : ∀ k, k < nCl (vw h.1 (B + 1)) → ∀ j, j < 11 → vw h.1 (B + 1) (25 + k) j = t (25 + k) j := fun k hk j hj => c2.2.2.2.2 k (by omega) j hj
  have t7 : t 0 7 = (nCl (vw h.1 (B + 1)) : Int) := by rw [← c2.1.2.2.2.2]; exact hn.1
  generalize hmm : sIn (vw h.1 (B + 1)) 1 = m at hm16 hmb hmt hbc
  have w0ne : ∀ o j, ¬ (25 ≤ o ∧ j = 5) → zit (pW m) (nCl (vw h.1 (B + 1))) t o j = t o j := fun o j z => pW_ne _ _ _ (by omega)
  have w05 : ∀ k, k < nCl (vw h.1 (B + 1)) → zit (pW m) (nCl (vw h.1 (B + 1))) t (25 + k) 5 = if m.testBit k = true then 0 else t (25 + k) 5 := fun k hk => pW_5 _ hk
  have w0s : ∀ k, k < nCl (vw h.1 (B + 1)) → zit (pW m) (nCl (vw h.1 (B + 1))) t (25 + k) 5 = 0 ∨ zit (pW m) (nCl (vw h.1 (B + 1))) t (25 + k) 5 = 2 := fun k hk => by
    rw [w05 k hk]
    by_cases z : m.testBit k = true
    · rw [if_pos z]; exact Or.inl rfl
    · rw [if_neg z, ← tc k hk 5 (by decide)]
      have hst := (hw.2.2.2.2.2.2.2.2 k (by omega)).2.2.2.2.2.2.1
      have : vw h.1 (B + 1) (25 + k) 5 ≠ 1 := fun y => z ((hmt k hk).mpr y)
      omega
  have w01 : zit (pW m) (nCl (vw h.1 (B + 1))) t 0 1 = (C : Int) := by rw [w0ne 0 1 (by omega), ← c2.1.2.1, hC]
  have hw0 : WF (zit (pW m) (nCl (vw h.1 (B + 1))) t) := noact_wf (v := t) (C0 := t 0 1) (by rw [vup_id rfl]; exact wt) (by rw [w01]; omega) (fun o j _ z2 => w0ne o j z2) (fun k hk => w0s k (by omega))
  have hEc : Enu (fun k => m.testBit k) (fun k => vw g.1 (B + 42) (25 + k) 2) (nCl (vw h.1 (B + 1))) c a := hE.congr (fun k hk => (hmb k hk).symm) (fun k hk => by rw [htt]; exact tc k hk 2 (by decide))
  obtain ⟨h4, x, o1, o2, o3⟩ := e4_anew (h := g) (A := B + 42) (by rw [c3.1]; exact i_clyT hI) (n := nCl (vw h.1 (B + 1))) (m := m) (c := c) (a := a) (by rw [htt]; exact t7) hn.2 hm16 (by rw [htt]; exact hw0) hEc hbc
  rw [htt] at o2
  generalize hw0g : zit (pW m) (nCl (vw h.1 (B + 1))) t = w0 at o2 hw0 w0ne w05 w0s w01
  have hA0 : Agr (vw h.1 (B + 1)) w0 := ⟨fun j hj => by rw [w0ne _ _ (by omega)]; exact c2.2.1 j (by omega), by rw [w0ne _ _ (by omega)]; exact c2.1.2.2.2.2, fun k hk j hj => by rw [w0ne _ _ (by omega)]; exact tc k (by omega) j (by omega)⟩
  have hF4 : Frm (B + 42) h h4 := c3.tr o3
  have s4 : zSame B h h4 := ⟨hF4.1, fun a j q => hF4.2 a j (by unfold zScrt at q; omega)⟩
  have ref : ∀ y, MV y (B + 541) (vw h.1 (B + 1)) → ∃ r' y2, q_X8_findsAll y (B + 541) 2 (y.1 (y.2 (B + 541) 3) 64) = some (r', y2) ∧ zSame B y y2 ∧ ((r' = 1 ∧ x = (c : Int) ∧ ∀ l, l < nCl (vw h.1 (B + 1)) → y2.1 (B + 541 + 8) l = layC (vw h4.1 (B + 42)) 0 l ∧ y2.1 (B + 541 + 9) l = layS (vw h4.1 (B + 42)) 0 l) ∨ (r' = 0 ∧ x ≠ (c : Int))) := fun y hmy => by
    have e64 : y.1 (y.2 (B + 541) 3) 64 = (C : Int) := by rw [hmy.1.told, hmy.2.2.2.1, hC]
    rw [e64]
    exact e8_findsAll hmy (mask := 2) (by decide) hw0 hA0 w01 (fun k hk => by have := w0s k hk; omega) hE o2
  have cls : ∀ R, (if x = (c : Int) then zbp (q_X4_callsIn h4 (B + 42) 0) (fun x5 => zbd (q_X4_placeInOrder h4 (B + 42) x5) (fun x6 h7 => q_X7_compact_L54 B (fun x13 x14 h15 => zbd (q_X1_keep h15 (h15.2 B 3) (h15.2 B 0)) (fun _ h17 => zbd (q_X4_copyFrom h17 (h17.2 B 0) (h17.2 B 1)) (fun _ h18 => some (x13, h18)))) zF 0 0 h7)) else some (-3, h4)) = R → q_X7_compact h B = R := fun R hR => by
    unfold q_X7_compact
    rw [hI.r0, e4_callsIn hcv 1, zbp_some, hmm, r1, c1, zbd_some, c3.1, r1, o1, zbd_some]
    have r41 : h4.2 B 1 = B + 42 := by rw [hF4.1]; exact r1
    rw [r41]
    by_cases q : x = (c : Int)
    · rw [if_pos q, if_neg one0]
      rw [if_pos q] at hR
      exact hR
    · rw [if_neg q, if_pos rfl]
      rw [if_neg q] at hR
      exact hR
  by_cases hx : x = (c : Int)
  · have wu : WF (vw h4.1 (B + 42)) := o2.wf hw0
    have hc4 : CV h4 (B + 42) := ⟨by rw [hF4.1]; exact i_clyT hI, wu⟩
    have hinj : ∀ i j, i < c → j < c → a i = a j → i = j := fun i j z1 z2 e => hE.inj z1 z2 e
    have hAn : Anw t (vw h4.1 (B + 42)) := by
      refine ⟨fun o j ho => by rw [o2.sta o j (by omega), w0ne o j (by omega)], fun k hk => ⟨fun h5 => ?_, fun h5 => ?_⟩⟩
      · rw [ent] at hk
        have hnm : ¬ m.testBit k = true := fun z => h5 (by rw [← tc k hk 5 (by decide)]; exact (hmt k hk).mp z)
        funext j
        rw [o2.rest (fun i hi e => hnm (by rw [hmb k hk, ← e]; exact (hE.1 i hi).2))]
        by_cases e5 : j = 5
        · rw [e5, w05 k hk, if_neg hnm]
        · exact w0ne _ _ (by omega)
      · rw [ent] at hk
        have hmi : m.testBit k = true := (hmt k hk).mpr (by rw [tc k hk 5 (by decide)]; exact h5)
        obtain ⟨i, i1, i2⟩ := hE.2.1 k hk (by rw [← hmb k hk]; exact hmi)
        have u5 := o2.full hx i i1
        rw [i2] at u5
        refine ⟨u5, fun j h6 h7 => ?_⟩
        by_cases e5 : j = 5
        · rw [e5, u5, h5]
        · by_cases e9 : j = 9
          · have t9 := (wt.act (k := k) (by omega) h5).1
            rw [e9, o2.nine (by rw [w0ne _ _ (by omega)]; omega), w0ne _ _ (by omega)]
          · rw [o2.sta _ _ (by omega), w0ne _ _ (by omega)]
    have hsu : zSep (vw h4.1 (B + 42)) := o2.sep (fun k l hk _ _ k5 _ _ => by
      have := w0s k (by rw [← hA0.2.1] at hk; omega)
      omega) hinj (fun i hi => by have := w0s (a i) (hE.1 i hi).1; omega)
    have u7 : vw h4.1 (B + 42) 0 7 = (nCl (vw h.1 (B + 1)) : Int) := by rw [hAn.1 0 7 (by omega)]; exact t7
    have hwu : zWt (vw h4.1 (B + 42)) := fun k hk k5 => by
      rw [u7] at hk
      have hkn : k < nCl (vw h.1 (B + 1)) := by omega
      have t5 : t (25 + k) 5 ≠ 1 := fun z => by
        have := ((hAn.2 k (by rw [ent]; exact hkn)).2 z).1
        omega
      have er := (hAn.2 k (by rw [ent]; exact hkn)).1 t5
      rw [er] at k5 ⊢
      rw [← tc k hkn 5 (by decide)] at k5
      rw [← tc k hkn 9 (by decide)]
      exact hI.2.2.2.1.2.2.2 k (by omega) k5
    obtain ⟨c', a', hq⟩ := Que.ex (vw h4.1 (B + 42))
    obtain ⟨mm, h7, n2, z1, z2, z3, z4⟩ := e4_serve hc4 hq
    have hgz := hq.good wu z3 hsu hwu
    have hF7 : Frm (B + 42) h h7 := hF4.tr z4
    have s7 : zSame B h h7 := ⟨hF7.1, fun a j q => hF7.2 a j (by unfold zScrt at q; omega)⟩
    have hI7 := hI.same s7
    have ev7 : vw h7.1 (B + 1) = vw h.1 (B + 1) := zS_cur s7
    obtain ⟨np, sh, hkn⟩ := KNum.ex hI7.2.2.1.1
    obtain ⟨g1, k1, k2⟩ := e1_keep hI7 hkn
    obtain ⟨kc1, kc2, kc3, kc4, kc5⟩ := kpt_cur hI7 k2
    have ez : vw g1.1 (B + 42) = vw h7.1 (B + 42) := vw_ext fun o ho j => k2.2.2.2.2.2 _ _ (by omega) (by omega)
    have hcz : CV g1 (B + 42) := ⟨fun o ho j => by rw [k2.2.1 _ _ (by omega)]; exact i_clyT hI7 o ho j, by rw [ez]; exact hgz.1⟩
    obtain ⟨h18, d1, d2, d3⟩ := e4_copy kc1.1 hcz (Or.inl (by omega))
    rw [ez] at d2
    have hgood : Good (vw h18.1 (B + 1)) := d2.good hgz
    have hc1 : ∀ q j, ¬ (B + 1 ≤ q ∧ q < B + 42) → ¬ zScrt B q j → h18.1 q j = g1.1 q j := fun q j hq _ => d3.2 q j (by omega)
    have hc2 : h18.2 = g1.2 := d3.1
    have hx0 : zSame B h18 (zput h18 (B + 541) 0 0) := zSame.rf.put sM0
    have hmy := chg_x hI7 k2 hc2 hc1 hx0
    rw [ev7] at hmy
    obtain ⟨r', y2, f1, f2, f3⟩ := ref _ hmy
    have hr1 : r' = 1 ∧ ∀ l, l < nCl (vw h.1 (B + 1)) → y2.1 (B + 541 + 8) l = layC (vw h4.1 (B + 42)) 0 l ∧ y2.1 (B + 541 + 9) l = layS (vw h4.1 (B + 42)) 0 l := by
      rcases f3 with ⟨q1, _, q3⟩ | ⟨_, q2⟩
      · exact ⟨q1, q3⟩
      · exact absurd hx q2
    obtain ⟨g8, p1, p2, p3, p4, p5⟩ := chg_op hI7 hkn k2 hc2 hc1 (hx0.tr f2)
    rw [ev7] at p2
    have em0 : mix t (vw h4.1 (B + 42)) 0 = t := by
      funext o j
      exact mix_lo (by omega)
    have hm8 : MVt g8 (B + 541) (mix t (vw h4.1 (B + 42)) 0) (g8.1 (B + 541 + 2)) := by
      rw [em0]
      exact ⟨p2.1, wt, c2.mr p2.2.2⟩
    obtain ⟨g9, b1, b2, b3⟩ := m_compact (B := B) wt wu hAn (K := fun x21 _ h23 => zbd (q_X8_serves h23 (B + 541)) (fun x24 h25 => some (x21, h25))) (nCl t) 0 zF g8 (Nat.zero_add _) (by rw [ent]; unfold zF; omega) hm8 (fun l hl => by
      rw [p3 _ _ (by omega) (by omega), p3 _ _ (by omega) (by omega)]
      exact hr1.2 l (by rw [← ent]; exact hl))
    have b1' := b1
    rw [show ((0 : Nat) : Int) = 0 from rfl, show ((nct (fun k => decide (t (25 + k) 5 = 1 ∧ ¬ (t (25 + k) 6 = vw h4.1 (B + 42) (25 + k) 6 ∧ t (25 + k) 7 = vw h4.1 (B + 42) (25 + k) 7))) 0 : Nat) : Int) = 0 from rfl] at b1'
    have hleq : Leq (mix t (vw h4.1 (B + 42)) (nCl t)) (vw h4.1 (B + 42)) := by
      have lo : ∀ o j, o < 25 → mix t (vw h4.1 (B + 42)) (nCl t) o j = vw h4.1 (B + 42) o j := fun o j ho => by rw [mix_lo (by omega), hAn.1 o j ho]
      have wS := wt.nS
      have wR := wt.nR
      have e3 : mix t (vw h4.1 (B + 42)) (nCl t) 0 3 = t 0 3 := mix_lo (by omega)
      have e5 : mix t (vw h4.1 (B + 42)) (nCl t) 0 5 = t 0 5 := mix_lo (by omega)
      have e7 : mix t (vw h4.1 (B + 42)) (nCl t) 0 7 = t 0 7 := mix_lo (by omega)
      refine ⟨⟨lo _ _ (by omega), lo _ _ (by omega), lo _ _ (by omega), lo _ _ (by omega), lo _ _ (by omega)⟩, fun j _ => lo _ _ (by omega), fun s hs => ?_, fun r hr j _ => ?_, fun k hk j _ => ?_⟩
      · rw [e3] at hs
        exact ⟨fun j _ => lo _ _ (by omega), fun j _ => lo _ _ (by omega)⟩
      · rw [e5] at hr
        exact lo _ _ (by omega)
      · rw [e7, t7] at hk
        exact mix_hi (by rw [ent]; omega)
    have hm9 : MV g9 (B + 541) (vw h4.1 (B + 42)) := ⟨b2.1, wu, by rw [b3.told]; exact hleq.mr b2.2.2⟩
    obtain ⟨h2, e1, e2, e3⟩ := e8_serves hm9 hwu hq z3
    have hm2 : MV h2 (B + 541) (vw h18.1 (B + 1)) := ⟨e2.1, hgood.1, d2.mr e2.2.2⟩
    have hnct : nct (fun k => decide (vw h7.1 (B + 1) (25 + k) 5 = 1 ∧ ¬ (vw h7.1 (B + 1) (25 + k) 6 = vw h7.1 (B + 42) (25 + k) 6 ∧ vw h7.1 (B + 1) (25 + k) 7 = vw h7.1 (B + 42) (25 + k) 7))) (nCl (vw h7.1 (B + 1))) = nct (fun k => decide (t (25 + k) 5 = 1 ∧ ¬ (t (25 + k) 6 = vw h4.1 (B + 42) (25 + k) 6 ∧ t (25 + k) 7 = vw h4.1 (B + 42) (25 + k) 7))) (nCl t) := by
      rw [ev7, ent]
      refine nct_congr _ (fun k hk => decide_eq_decide.mpr ?_)
      rw [tc k hk 5 (by decide), tc k hk 6 (by decide), tc k hk 7 (by decide)]
      refine and_congr_right (fun h5 => ?_)
      have u5 := ((hAn.2 k (by rw [ent]; exact hk)).2 h5).1
      have ezr := z3.rest (k := k) (fun i hi e => by
        have := (hq.w wu i hi).2
        rw [e] at this
        omega)
      rw [ezr 6, ezr 7]
    refine ⟨h2, ⟨((nct (fun k => decide (t (25 + k) 5 = 1 ∧ ¬ (t (25 + k) 6 = vw h4.1 (B + 42) (25 + k) 6 ∧ t (25 + k) 7 = vw h4.1 (B + 42) (25 + k) 7))) (nCl t) : Nat) : Int), h18, cls _ ?_, ?_⟩, p5 h2 (b3.s4.tr e3) hgood hm2⟩
    · rw [if_pos hx, z1, zbp_some, z2, zbd_some, m_moved hI7.r0 (by rw [hF7.1]; exact r1) hI7.cv (i_clyT hI7), hI7.r3, hI7.r0, k1, zbd_some, kc3, kc4, d1, zbd_some, hnct]
    · unfold q_X8_compact
      simp only [zlet_b]
      rw [f1, zbd_some, hr1.1, if_neg one0, p1, zbd_some, b1', e1, zbd_some]
  · have s0 : zSame B h (zput h4 (B + 541) 0 0) := s4.put sM0
    obtain ⟨r', y2, f1, f2, f3⟩ := ref _ (hI.mv.same s0)
    have hr0 : r' = 0 := by
      rcases f3 with ⟨_, q2, _⟩ | ⟨q1, _⟩
      · exact absurd q2 hx
      · exact q1
    refine ⟨y2, ⟨-3, h4, cls _ (by rw [if_neg hx]), ?_⟩, hI.same (s0.tr f2)⟩
    unfold q_X8_compact
    simp only [zlet_b]
    rw [f1, zbd_some, hr0, if_pos rfl]
end OPS
