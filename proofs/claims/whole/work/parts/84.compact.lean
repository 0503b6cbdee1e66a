/-! Compacting. -/
theorem BP.nine {v u : Nat → Nat → Int} {k l : Nat} {r : Int} (h : BP v k u r) (h9 : v (25 + l) 9 ≠ -1) : u (25 + l) 9 = v (25 + l) 9 := by
  rcases h with ⟨c, s, a1, a2, a3⟩ | ⟨a1, a2, a3⟩
  · rw [a2]
    by_cases e : l = k
    · subst e
      rw [vpl_9, if_neg h9]
    · rw [vpl_row e]
  · rw [a2]
theorem Run.nine {a : Nat → Nat} {v : Nat → Nat → Int} {l : Nat} : ∀ {c u n}, Run a c v u n → v (25 + l) 9 ≠ -1 → u (25 + l) 9 = v (25 + l) 9 := by
  intro c
  induction c with
  | zero => rintro u n ⟨h1, _⟩ _; rw [h1]
  | succ c ih =>
    rintro u n ⟨w, x, r, h1, h2, h3⟩ h9
    have e := ih h1 h9
    rw [h2.nine (by rw [e]; exact h9), e]
/-- row by row from one State to another -/
def mix (t u : Nat → Nat → Int) (i : Nat) : Nat → Nat → Int := fun o j => if 25 ≤ o ∧ o < 25 + i then u o j else t o j
theorem mix_lo {t u : Nat → Nat → Int} {i o j : Nat} (h : ¬ (25 ≤ o ∧ o < 25 + i)) : mix t u i o j = t o j := by unfold mix; rw [if_neg h]
theorem mix_hi {t u : Nat → Nat → Int} {i o j : Nat} (h : 25 ≤ o ∧ o < 25 + i) : mix t u i o j = u o j := by unfold mix; rw [if_pos h]
theorem mix_wf {t u : Nat → Nat → Int} (wt : WF t) (wu : WF u) (h : ∀ o j, o < 25 → u o j = t o j) (i : Nat) : WF (mix t u i) := by
  have e0 : mix t u i 0 = t 0 := funext fun j => mix_lo (by omega)
  have e1 : mix t u i 1 = t 1 := funext fun j => mix_lo (by omega)
  have hS := wt.nS
  have hR := wt.nR
  obtain ⟨a1, a2, a3, a4, a5, a6, a7, a8, a9⟩ := wt
  refine ⟨by rw [e0]; exact a1, by rw [e0]; exact a2, by rw [e0]; exact a3, by rw [e0]; exact a4, by rw [e0]; exact a5, by rw [e1]; exact a6, fun s hs => ?_, fun r hr => ?_, fun k hk => ?_⟩
  · rw [e0] at hs
    have e2 : mix t u i (5 + 2 * s) = t (5 + 2 * s) := funext fun j => mix_lo (by omega)
    have e3 : mix t u i (6 + 2 * s) = t (6 + 2 * s) := funext fun j => mix_lo (by omega)
    unfold WFs
    rw [e0, e2, e3]
    exact a7 s hs
  · rw [e0] at hr
    have e2 : mix t u i (17 + r) = t (17 + r) := funext fun j => mix_lo (by omega)
    unfold WFr
    rw [e0, e2]
    exact a8 r hr
  · rw [e0] at hk
    by_cases z : k < i
    · have e2 : mix t u i (25 + k) = u (25 + k) := funext fun j => mix_hi (by omega)
      have f0 : u 0 = t 0 := funext fun j => h 0 j (by omega)
      have f1 : u 1 = t 1 := funext fun j => h 1 j (by omega)
      have := wu.2.2.2.2.2.2.2.2 k (by rw [f0]; exact hk)
      unfold WFc at this ⊢
      rw [f0, f1] at this
      rw [e0, e1, e2]
      exact this
    · have e2 : mix t u i (25 + k) = t (25 + k) := funext fun j => mix_lo (by omega)
      unfold WFc
      rw [e0, e1, e2]
      exact a9 k hk
/-- how the active calls stand anew -/
def Anw (t u : Nat → Nat → Int) : Prop := (∀ o j, o < 25 → u o j = t o j) ∧ ∀ k, k < nCl t → (t (25 + k) 5 ≠ 1 → u (25 + k) = t (25 + k)) ∧ (t (25 + k) 5 = 1 → u (25 + k) 5 = 1 ∧ ∀ j, j ≠ 6 → j ≠ 7 → u (25 + k) j = t (25 + k) j)
section OPS
variable {B : Nat}
theorem m_compact {t u : Nat → Nat → Int} {T0 : Nat → Int} (wt : WF t) (wu : WF u) (hA : Anw t u) {K : Int → Int → zH → Option (Int × zH)} : ∀ (r i f : Nat) (g : zH), i + r = nCl t → r < f → MVt g (B + 541) (mix t u i) T0 → (∀ l, l < nCl t → g.1 (B + 541 + 8) l = layC u 0 l ∧ g.1 (B + 541 + 9) l = layS u 0 l) →
    ∃ g', q_X8_compact_L31 (B + 541) K f ((nct (fun k => decide (t (25 + k) 5 = 1 ∧ ¬ (t (25 + k) 6 = u (25 + k) 6 ∧ t (25 + k) 7 = u (25 + k) 7))) i : Nat) : Int) (i : Int) g = K ((nct (fun k => decide (t (25 + k) 5 = 1 ∧ ¬ (t (25 + k) 6 = u (25 + k) 6 ∧ t (25 + k) 7 = u (25 + k) 7))) (nCl t) : Nat) : Int) (nCl t : Int) g' ∧ MVt g' (B + 541) (mix t u (nCl t)) T0 ∧ zNw B g g' := by
  have hn := wt.nC
  intro r
  induction r with
  | zero =>
    intro i f g q1 q2 hm hr
    obtain ⟨f', rfl⟩ : ∃ f', f = f' + 1 := ⟨f - 1, by omega⟩
    have e : i = nCl t := by omega
    subst e
    refine ⟨g, ?_, hm, zNw.rf⟩
    have en : nCl (mix t u (nCl t)) = nCl t := by
      have e7 : mix t u (nCl t) 0 7 = t 0 7 := mix_lo (by omega)
      rw [show nCl (mix t u (nCl t)) = (mix t u (nCl t) 0 7).toNat from rfl, e7]
      rfl
    rw [q_X8_compact_L31, m_n7 hm, en, if_pos (Int.le_refl _)]
  | succ r ih =>
    intro i f g q1 q2 hm hr
    obtain ⟨f', rfl⟩ : ∃ f', f = f' + 1 := ⟨f - 1, by omega⟩
    have hi16 : i < 16 := by omega
    have hii : i < 1000000 := by omega
    have hni : ¬ (nCl t : Int) ≤ (i : Int) := by omega
    have e7 : mix t u i 0 7 = t 0 7 := mix_lo (by omega)
    have en : nCl (mix t u i) = nCl t := by
      rw [show nCl (mix t u i) = (mix t u i 0 7).toNat from rfl, e7]
      rfl
    have hi7 : (i : Int) < mix t u i 0 7 := by rw [e7]; omega
    have ro : ∀ j, mix t u i (25 + i) j = t (25 + i) j := fun j => mix_lo (by omega)
    have hac := m_act hm hi7
    rw [ro] at hac
    have e23 : g.2 (B + 541) 23 = B + 541 + 8 := hm.1 23
    have e24 : g.2 (B + 541) 24 = B + 541 + 9 := hm.1 24
    have ncs := nct_s (P := fun k => decide (t (25 + k) 5 = 1 ∧ ¬ (t (25 + k) 6 = u (25 + k) 6 ∧ t (25 + k) 7 = u (25 + k) 7))) (n := i)
    have nle := nct_le (P := fun k => decide (t (25 + k) 5 = 1 ∧ ¬ (t (25 + k) 6 = u (25 + k) 6 ∧ t (25 + k) 7 = u (25 + k) 7))) i
    have mne : ∀ o j, o ≠ 25 + i → mix t u (i + 1) o j = mix t u i o j := fun o j ho => by
      unfold mix
      by_cases z : 25 ≤ o ∧ o < 25 + i
      · rw [if_pos z, if_pos (by omega)]
      · rw [if_neg z, if_neg (by omega)]
    have mro : ∀ j, mix t u (i + 1) (25 + i) j = u (25 + i) j := fun j => mix_hi (by omega)
    generalize hP : (fun k => decide (t (25 + k) 5 = 1 ∧ ¬ (t (25 + k) 6 = u (25 + k) 6 ∧ t (25 + k) 7 = u (25 + k) 7))) = P at ih ncs nle ⊢
    have hPi : P i = decide (t (25 + i) 5 = 1 ∧ ¬ (t (25 + i) 6 = u (25 + i) 6 ∧ t (25 + i) 7 = u (25 + i) 7)) := by rw [← hP]
    rw [q_X8_compact_L31, m_n7 hm, en, if_neg hni, hac, zbp_some]
    simp only [zlet_b, zgpos hi16]
    rw [zw_s hii]
    by_cases h5 : t (25 + i) 5 = 1
    · obtain ⟨u5, uo⟩ := (hA.2 i (by omega)).2 h5
      have lc : layC u 0 i = u (25 + i) 6 := by unfold layC; rw [if_pos ⟨u5, by rw [awy_0]; decide⟩]
      have ls : layS u 0 i = u (25 + i) 7 := by unfold layS; rw [if_pos ⟨u5, by rw [awy_0]; decide⟩]
      obtain ⟨r8, r9⟩ := hr i (by omega)
      rw [lc] at r8
      rw [ls] at r9
      have m6 := m_6 hm hi7 (by rw [ro]; exact h5)
      have m7 := m_7 hm hi7 (by rw [ro]; exact h5)
      rw [ro] at m6 m7
      have g9' : (zput g (B + 541 + 4) (405 + 12 * i + 6) (u (25 + i) 6)).1 (B + 541 + 9) i = u (25 + i) 7 := by rw [zput_ne (by omega), r9]
      have F1 : zNw B g (zput (zput g (B + 541 + 4) (405 + 12 * i + 6) (u (25 + i) 6)) (B + 541 + 4) (405 + 12 * i + 7) (u (25 + i) 7)) := (zNw.rf.put).put
      have hm' : MVt (zput (zput g (B + 541 + 4) (405 + 12 * i + 6) (u (25 + i) 6)) (B + 541 + 4) (405 + 12 * i + 7) (u (25 + i) 7)) (B + 541) (mix t u (i + 1)) T0 := by
        refine ⟨hm.1, mix_wf wt wu hA.1 _, hm.2.2.call (mix_wf wt wu hA.1 _) hi16 mne (fun j hj => by rw [zput_ne (by omega), zput_ne (by omega)]) (fun _ => ?_)⟩
        obtain ⟨c0, c1, c2, c3, c4, c5, c6, c7, c8, c9⟩ := m_c hm hi7
        obtain ⟨d6, d7, d8⟩ := c9 (by rw [ro]; exact h5)
        unfold MRc
        rw [ro] at c0 c1 c2 c3 c4 c5 c6 c7 c8
        rw [ro, ro] at d8
        have qo : ∀ j, j ≠ 405 + 12 * i + 6 → j ≠ 405 + 12 * i + 7 → (zput (zput g (B + 541 + 4) (405 + 12 * i + 6) (u (25 + i) 6)) (B + 541 + 4) (405 + 12 * i + 7) (u (25 + i) 7)).1 (B + 541 + 4) j = g.1 (B + 541 + 4) j := fun j z1 z2 => by rw [zput_ne (by omega), zput_ne (by omega)]
        rw [mro, mro, mro, mro, mro, mro, mro, mro, mro, mro, mro, uo 0 (by omega) (by omega), uo 1 (by omega) (by omega), uo 2 (by omega) (by omega), uo 3 (by omega) (by omega), uo 4 (by omega) (by omega), uo 8 (by omega) (by omega), uo 9 (by omega) (by omega), uo 10 (by omega) (by omega), qo 4 (by omega) (by omega), qo (405 + 12 * i) (by omega) (by omega), qo _ (by omega) (by omega), qo (405 + 12 * i + 2) (by omega) (by omega), qo (405 + 12 * i + 3) (by omega) (by omega), qo (405 + 12 * i + 4) (by omega) (by omega), qo (405 + 12 * i + 5) (by omega) (by omega), qo (405 + 12 * i + 9) (by omega) (by omega), qo (405 + 12 * i + 10) (by omega) (by omega), qo (405 + 12 * i + 11) (by omega) (by omega), qo (405 + 12 * i + 8) (by omega) (by omega), uo 5 (by omega) (by omega)]
        refine ⟨c0, c1, c2, c3, c4, c5, c6, c7, c8, fun _ => ⟨?_, ?_, d8⟩⟩
        · rw [zput_ne (by omega), zput_self]
        · rw [zput_self]
      obtain ⟨g', p1, p2, p3⟩ := ih (i + 1) f' _ (by omega) (by omega) hm' (fun l hl => by rw [zput_ne (by omega), zput_ne (by omega), zput_ne (by omega), zput_ne (by omega)]; exact hr l hl)
      have go : ∀ y : Int, y = ((nct P (i + 1) : Nat) : Int) → zbd (q_X8_put g (B + 541) (i : Int) 6 (u (25 + i) 6)) (fun _ h8 => zbd (q_X8_put h8 (B + 541) (i : Int) 7 (h8.1 (h8.2 (B + 541) 24) i)) (fun _ h9 => q_X8_compact_L31 (B + 541) K f' y ((i + 1 : Nat) : Int) h9)) = K ((nct P (nCl t) : Nat) : Int) (nCl t : Int) g' := fun y hy => by
        rw [e8_put hm.1 hi16 (j := 6) (J := 6) (by decide) rfl, zbd_some, zput_2, e24, g9', e8_put (h := zput g (B + 541 + 4) (405 + 12 * i + 6) (u (25 + i) 6)) hm.1 hi16 (j := 7) (J := 7) (by decide) rfl, zbd_some, hy]
        exact p1
      refine ⟨g', ?_, p2, F1.tr p3⟩
      rw [if_neg (show ¬ (if t (25 + i) 5 = 1 then (1 : Int) else 0) = 0 by rw [if_pos h5]; decide), m6, zbp_some, e23, Int.toNat_natCast, r8]
      have w1 : zw (((nct P i : Nat) : Int) + 1) = ((nct P i + 1 : Nat) : Int) := zw_s (by omega)
      have w0 : zw (((nct P i : Nat) : Int) + 0) = ((nct P i : Nat) : Int) := by clear w1; exact zw_0 ⟨by omega, by omega⟩
      by_cases q6 : t (25 + i) 6 = u (25 + i) 6
      · rw [if_pos q6, m7, zbp_some, e24, r9]
        by_cases q7 : t (25 + i) 7 = u (25 + i) 7
        · rw [if_pos q7, w0]
          rw [if_neg (by rw [zdec]; exact fun z => z.2 ⟨q6, q7⟩)] at ncs
          exact go _ (by rw [ncs])
        · rw [if_neg q7, w1]
          rw [if_pos (by rw [zdec]; exact ⟨h5, fun z => q7 z.2⟩)] at ncs
          exact go _ (by rw [ncs])
      · rw [if_neg q6, w1]
        rw [if_pos (by rw [zdec]; exact ⟨h5, fun z => q6 z.1⟩)] at ncs
        exact go _ (by rw [ncs])
    · have hrow := (hA.2 i (by omega)).1 h5
      have emix : mix t u (i + 1) = mix t u i := by
        funext o j
        by_cases eo : o = 25 + i
        · rw [eo, mro, hrow, ro]
        · exact mne o j eo
      rw [if_neg (by rw [zdec]; exact fun z => h5 z.1)] at ncs
      obtain ⟨g', p1, p2, p3⟩ := ih (i + 1) f' g (by omega) (by omega) (by rw [emix]; exact hm) hr
      rw [if_pos (show (if t (25 + i) 5 = 1 then (1 : Int) else 0) = 0 by rw [if_neg h5])]
      rw [ncs] at p1
      exact ⟨g', p1, p2, p3⟩
end OPS
