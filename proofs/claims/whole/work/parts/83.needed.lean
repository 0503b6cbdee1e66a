/-! How many carriers are needed. -/
theorem noact_wf {v u : Nat → Nat → Int} {C0 : Int} (hw : WF (vup v 0 1 C0)) (hC : 1 ≤ u 0 1 ∧ u 0 1 ≤ 4) (he : ∀ o j, ¬ (o = 0 ∧ j = 1) → ¬ (25 ≤ o ∧ j = 5) → u o j = v o j) (h5 : ∀ k : Nat, (k : Int) < v 0 7 → u (25 + k) 5 = 0 ∨ u (25 + k) 5 = 2) : WF u := by
  have q : ∀ o j, ¬ (o = 0 ∧ j = 1) → vup v 0 1 C0 o j = v o j := fun o j h => vup_ne h
  have er : ∀ o, o ≠ 0 → vup v 0 1 C0 o = v o := fun o ho => funext fun j => q o j (fun z => ho z.1)
  have ur : ∀ o, o ≠ 0 → o < 25 → u o = v o := fun o h1 h2 => funext fun j => he o j (fun z => h1 z.1) (by omega)
  have hS := hw.nS
  have hR := hw.nR
  obtain ⟨a1, a2, a3, a4, a5, a6, a7, a8, a9⟩ := hw
  rw [q 0 0 (by omega)] at a1
  rw [q 0 3 (by omega)] at a3 hS
  rw [q 0 5 (by omega)] at a4 hR
  rw [q 0 7 (by omega)] at a5
  rw [q 0 3 (by omega)] at a7
  rw [q 0 5 (by omega)] at a8
  rw [q 0 7 (by omega)] at a9
  rw [er 1 (by omega)] at a6
  have u0 := he 0 0 (by omega) (by omega)
  have u3 := he 0 3 (by omega) (by omega)
  have u5 := he 0 5 (by omega) (by omega)
  have u7 := he 0 7 (by omega) (by omega)
  refine ⟨by rw [u0]; exact a1, hC, by rw [u3]; exact a3, by rw [u5]; exact a4, by rw [u7]; exact a5, by rw [ur 1 (by omega) (by omega)]; exact a6, fun s hs => ?_, fun r hr => ?_, fun k hk => ?_⟩
  · rw [u3] at hs
    have := a7 s hs
    unfold WFs at this ⊢
    rw [er (5 + 2 * s) (by omega), er (6 + 2 * s) (by omega), q 0 0 (by omega)] at this
    rw [ur (5 + 2 * s) (by omega) (by omega), ur (6 + 2 * s) (by omega) (by omega), u0]
    exact this
  · rw [u5] at hr
    have := a8 r hr
    unfold WFr at this ⊢
    rw [er (17 + r) (by omega), q 0 3 (by omega)] at this
    rw [ur (17 + r) (by omega) (by omega), u3]
    exact this
  · rw [u7] at hk
    have := a9 k hk
    unfold WFc at this ⊢
    rw [er (25 + k) (by omega), q 0 0 (by omega), q 0 3 (by omega)] at this
    obtain ⟨h0, h1, h2, h3, h4, h5', h6, h7, h8, h9, h10, h11⟩ := this
    have k5 := h5 k hk
    rw [u0, u3, he (25 + k) 0 (by omega) (by omega), he (25 + k) 1 (by omega) (by omega), he (25 + k) 2 (by omega) (by omega), he (25 + k) 3 (by omega) (by omega), he (25 + k) 4 (by omega) (by omega), he (25 + k) 8 (by omega) (by omega), he (25 + k) 9 (by omega) (by omega), he (25 + k) 10 (by omega) (by omega)]
    exact ⟨h0, h1, h2, h3, h4, h5', k5.elim (fun z => Or.inl z) (fun z => Or.inr (Or.inr z)), h7, h8, h9, trivial, fun z => by omega⟩
section OPS
variable {B : Nat}
theorem m_needed {v : Nat → Nat → Int} (w : WF v) {m c : Nat} {a : Nat → Nat} (hm : m < 65536) (hb : ∀ k, k < nCl v → (m.testBit k = sMk v 3 k)) (hbc : sBC (m : Int) = (c : Int)) (hE : Enu (sMk v 3) (fun k => v (25 + k) 2) (nCl v) c a) : ∀ (r i f f8 : Nat) (g : zH) (C0 : Int), i + r = 5 → 1 ≤ i → r < f → r < f8 → cly g.2 (B + 42) → g.2 B 1 = B + 42 → WF (vup (vw g.1 (B + 42)) 0 1 C0) → Agr v (vw g.1 (B + 42)) → (∀ k, k < nCl v → v (25 + k) 5 = 2 → vw g.1 (B + 42) (25 + k) 5 = 2) →
    ∃ x g', q_X7_carriersNeeded_L31 B (m : Int) (fun _ h10 => some (-1, h10)) f (i : Int) g = some (x, g') ∧ Frm (B + 42) g g' ∧ ∀ g8, MV g8 (B + 541) v → ∃ g8', q_X8_carriersNeeded_L7 (B + 541) (fun _ h6 => some (-1, h6)) f8 (i : Int) g8 = some (x, g8') ∧ zSame B g8 g8' := by
  have hn := w.nC
  intro r
  induction r with
  | zero =>
    intro i f f8 g C0 q1 q0 q2 q3 hl h1 hw hA h2
    obtain ⟨f', rfl⟩ : ∃ f', f = f' + 1 := ⟨f - 1, by omega⟩
    obtain ⟨f8', rfl⟩ : ∃ f', f8 = f' + 1 := ⟨f8 - 1, by omega⟩
    have e : i = 5 := by omega
    subst e
    refine ⟨-1, g, ?_, Frm.rf, fun g8 hm8 => ⟨g8, ?_, zSame.rf⟩⟩
    · rw [q_X7_carriersNeeded_L31]
      exact if_pos (by decide)
    · rw [q_X8_carriersNeeded_L7]
      exact if_pos (by decide)
  | succ r ih =>
    intro i f f8 g C0 q1 q0 q2 q3 hl h1 hw hA h2
    obtain ⟨f', rfl⟩ : ∃ f', f = f' + 1 := ⟨f - 1, by omega⟩
    obtain ⟨f8', rfl⟩ : ∃ f', f8 = f' + 1 := ⟨f8 - 1, by omega⟩
    have n4 : ¬ 4 < (i : Int) := by omega
    have hii : i < 1000000 := by omega
    have ev : vw (zput g (B + 42) 1 (i : Int)).1 (B + 42) = vup (vw g.1 (B + 42)) 0 1 (i : Int) := vw_put0
    generalize ht : vw g.1 (B + 42) = t at hw hA h2 ev
    have tn : vup t 0 1 (i : Int) 0 7 = (nCl v : Int) := by rw [vup_ne (by omega), ← hA.2.1, hn.1]
    have h3 : ∀ k, k < nCl v → ¬ sMk v 3 k = true → v (25 + k) 5 = 2 := fun k hk hs => by
      have hst := (w.2.2.2.2.2.2.2.2 k (by omega)).2.2.2.2.2.2.1
      unfold sMk at hs
      rcases hst with z | z | z
      · rw [z] at hs
        exact absurd (by decide) hs
      · rw [z] at hs
        exact absurd (by decide) hs
      · exact z
    have w0ne : ∀ o j, ¬ (25 ≤ o ∧ j = 5) → zit (pW m) (nCl v) (vup t 0 1 (i : Int)) o j = vup t 0 1 (i : Int) o j := fun o j h => pW_ne _ _ _ (by omega)
    have w05 : ∀ k, k < nCl v → zit (pW m) (nCl v) (vup t 0 1 (i : Int)) (25 + k) 5 = 0 ∨ zit (pW m) (nCl v) (vup t 0 1 (i : Int)) (25 + k) 5 = 2 := fun k hk => by
      rw [pW_5 _ hk]
      by_cases z : m.testBit k = true
      · rw [if_pos z]; exact Or.inl rfl
      · rw [if_neg z, vup_ne (by omega)]
        refine Or.inr (h2 k hk (h3 k hk ?_))
        rw [← hb k hk]
        exact z
    have w01 : zit (pW m) (nCl v) (vup t 0 1 (i : Int)) 0 1 = (i : Int) := by rw [w0ne 0 1 (by omega), vup_at]
    have hw0 : WF (zit (pW m) (nCl v) (vup t 0 1 (i : Int))) := noact_wf hw (by rw [w01]; omega) (fun o j z1 z2 => by rw [w0ne o j z2, vup_ne z1]) (fun k hk => w05 k (by rw [← hA.2.1] at hk; omega))
    have hEc : Enu (fun k => m.testBit k) (fun k => vw (zput g (B + 42) 1 (i : Int)).1 (B + 42) (25 + k) 2) (nCl v) c a := hE.congr (fun k hk => (hb k hk).symm) (fun k hk => by
      rw [ev, vup_ne (by omega)]
      exact hA.2.2 k (by omega) 2 (by decide))
    obtain ⟨h7, x, o1, o2, o3⟩ := e4_anew (h := zput g (B + 42) 1 (i : Int)) (A := B + 42) hl (n := nCl v) (m := m) (c := c) (a := a) (by rw [ev]; exact tn) hn.2 hm (by rw [ev]; exact hw0) hEc hbc
    rw [ev] at o2
    have hA0 : Agr v (zit (pW m) (nCl v) (vup t 0 1 (i : Int))) := ⟨fun j hj => by rw [w0ne _ _ (by omega), vup_ne (by omega)]; exact hA.1 j hj, by rw [w0ne _ _ (by omega), vup_ne (by omega)]; exact hA.2.1, fun k hk j hj => by rw [w0ne _ _ (by omega), vup_ne (by omega)]; exact hA.2.2 k hk j hj⟩
    have hF : Frm (B + 42) g h7 := (Frm.rf.put (o := 0) (by decide)).tr o3
    have ref : ∀ g8, MV g8 (B + 541) v → ∃ r' g9, q_X8_findsAll g8 (B + 541) 3 (i : Int) = some (r', g9) ∧ zSame B g8 g9 ∧ ((r' = 1 ∧ x = (c : Int)) ∨ (r' = 0 ∧ x ≠ (c : Int))) := fun g8 hm8 => by
      obtain ⟨r', g9, y1, y2, y3⟩ := e8_findsAll hm8 (mask := 3) (by decide) hw0 hA0 w01 (fun k hk => by have := w05 k hk; omega) hE o2
      refine ⟨r', g9, y1, y2, ?_⟩
      rcases y3 with ⟨z1, z2, _⟩ | ⟨z1, z2⟩
      · exact Or.inl ⟨z1, z2⟩
      · exact Or.inr ⟨z1, z2⟩
    by_cases hx : x = (c : Int)
    · refine ⟨(i : Int), h7, ?_, hF, fun g8 hm8 => ?_⟩
      · rw [q_X7_carriersNeeded_L31, if_neg n4, h1]
        simp only [zlet_b]
        rw [zput_2, h1, o1, zbd_some, if_pos hx, if_neg one0]
      · obtain ⟨r', g9, y1, y2, y3⟩ := ref g8 hm8
        refine ⟨g9, ?_, y2⟩
        rw [q_X8_carriersNeeded_L7, if_neg n4, y1, zbd_some]
        rcases y3 with ⟨z1, _⟩ | ⟨_, z2⟩
        · rw [if_neg (by omega)]
        · exact absurd hx z2
    · have hw7 : WF (vw h7.1 (B + 42)) := o2.wf hw0
      obtain ⟨x', g', p1, p2, p3⟩ := ih (i + 1) f' f8' h7 (vw h7.1 (B + 42) 0 1) (by omega) (by omega) (by omega) (by omega) (by rw [hF.1]; exact hl) (by rw [hF.1]; exact h1) (by rw [vup_id rfl]; exact hw7) (hA0.sta o2.sta) (fun k hk hk2 => by
        have hnm : ¬ sMk v 3 k = true := by
          unfold sMk
          rw [hk2]
          decide
        rw [o2.rest (fun j hj e => hnm (by rw [← e]; exact (hE.1 j hj).2)), pW_5 _ hk, if_neg (by rw [hb k hk]; exact hnm), vup_ne (by omega)]
        exact h2 k hk hk2)
      refine ⟨x', g', ?_, hF.tr p2, fun g8 hm8 => ?_⟩
      · rw [q_X7_carriersNeeded_L31, if_neg n4, h1]
        simp only [zlet_b]
        rw [zput_2, h1, o1, zbd_some, if_neg hx, if_pos rfl, zw_s hii]
        exact p1
      · obtain ⟨r', g9, y1, y2, y3⟩ := ref g8 hm8
        obtain ⟨g8', z1, z2⟩ := p3 g9 (hm8.same y2)
        refine ⟨g8', ?_, y2.tr z2⟩
        rw [q_X8_carriersNeeded_L7, if_neg n4, y1, zbd_some]
        simp only [zlet_b]
        rcases y3 with ⟨_, z4⟩ | ⟨z3, _⟩
        · exact absurd z4 hx
        · rw [if_pos z3, zw_s hii]
          exact z1
theorem op_35 : zI_35 (zInv B) B (B + 541) (B + 552) := by
  intro h hI hG
  have hw := hI.wf
  have hcv := hI.cv
  have hn := hw.nC
  have r1 : h.2 B 1 = B + 42 := hI.1 0 (by decide) (by decide) 1
  have hs0 : sIn (vw h.1 (B + 1)) 0 < 65536 := nset_16 hn.2
  have hs1 : sIn (vw h.1 (B + 1)) 1 < 65536 := nset_16 hn.2
  have hmo : sIn (vw h.1 (B + 1)) 0 ||| sIn (vw h.1 (B + 1)) 1 < 65536 := Nat.or_lt_two_pow (n := 16) hs0 hs1
  have hb : ∀ k, k < nCl (vw h.1 (B + 1)) → ((sIn (vw h.1 (B + 1)) 0 ||| sIn (vw h.1 (B + 1)) 1).testBit k = sMk (vw h.1 (B + 1)) 3 k) := fun k hk => by
    have hst := (hw.2.2.2.2.2.2.2.2 k (by omega)).2.2.2.2.2.2.1
    rw [Nat.testBit_or]
    unfold sIn sMk
    rw [nset_bit, nset_bit, decide_eq_true hk, Bool.true_and, Bool.true_and]
    rcases hst with z | z | z <;> rw [z] <;> decide
  have hset : sIn (vw h.1 (B + 1)) 0 ||| sIn (vw h.1 (B + 1)) 1 = nset (sMk (vw h.1 (B + 1)) 3) (nCl (vw h.1 (B + 1))) := by
    refine Nat.eq_of_testBit_eq (fun k => ?_)
    by_cases hk : k < nCl (vw h.1 (B + 1))
    · rw [hb k hk, nset_bit, decide_eq_true hk, Bool.true_and]
    · rw [Nat.testBit_or]
      unfold sIn
      rw [nset_bit, nset_bit, nset_bit, decide_eq_false hk, Bool.false_and, Bool.false_and, Bool.false_and]
      rfl
  obtain ⟨c, a, hE⟩ := Enu.ex (sMk (vw h.1 (B + 1)) 3) (fun k => vw h.1 (B + 1) (25 + k) 2) (nCl (vw h.1 (B + 1)))
  have hbc : sBC ((sIn (vw h.1 (B + 1)) 0 ||| sIn (vw h.1 (B + 1)) 1 : Nat) : Int) = (c : Int) := by rw [hset, sBC_nset hn.2, hE.2.2.2]
  obtain ⟨g, c1, c2, c3⟩ := e4_copy (i_clyT hI) hcv (Or.inr (by omega))
  have hgT := c2.wf hw
  have hAg : Agr (vw h.1 (B + 1)) (vw g.1 (B + 42)) := by
    obtain ⟨⟨a1, a2, a3, a4, a5⟩, b, cc, d, e⟩ := c2
    exact ⟨fun j hj => b j (by omega), a5, fun k hk j hj => e k hk j (by omega)⟩
  obtain ⟨x, g1, p1, p2, p3⟩ := m_needed (B := B) hw hmo hb hbc hE 4 1 zF zF g (vw g.1 (B + 42) 0 1) (by omega) (by omega) (by unfold zF; omega) (by unfold zF; omega) (by rw [c3.1]; exact i_clyT hI) (by rw [c3.1]; exact r1) (by rw [vup_id rfl]; exact hgT) hAg (fun k hk hk2 => by rw [← c2.2.2.2.2 k (by omega) 5 (by decide)]; exact hk2)
  have hF := c3.tr p2
  have sT : zSame B h g1 := ⟨hF.1, fun a j q => hF.2 a j (by unfold zScrt at q; omega)⟩
  have s1 : zSame B h (zput g1 (B + 541) 0 0) := sT.put sM0
  obtain ⟨h2, y1, y2⟩ := p3 _ (hI.mv.same s1)
  refine ⟨h2, ⟨x, g1, ?_, y1⟩, hI.same (s1.tr y2)⟩
  unfold q_X7_carriersNeeded
  simp only [zlet_b]
  rw [hI.r0, e4_callsIn hcv 0, zbp_some, e4_callsIn hcv 1, zbp_some, zor_nat hs0 hs1, r1, c1, zbd_some]
  exact p1
end OPS
