/-! A text, statement by statement. -/
section OPS
variable {B : Nat} {t : Nat → Int} {len : Nat}
theorem j_any {h g : zH} (hB : LB B t len h g) (h0 : h.1 (B + 497) 3 = 0) (hk : h.1 (B + 498) 4 ≠ 0) : ∃ h' g', (∀ (k : Int → zH → Option (Int × zH)) (n : Nat) (i : Nat), i < 1000 → q_X2_readText_L37 (B + 497) k (n + 1) (i : Int) h = q_X2_readText_L37 (B + 497) k n ((i + 1 : Nat) : Int) h') ∧ q_X8_readStatement g (B + 541) = some ((), g') ∧ PSt B t len h g h' g' := by
  have J0 := hB.1.mode h0
  have hC := hB.1.1
  obtain ⟨s, x, κ, tk⟩ := J0.2.2.2.1
  have hk1 := kr_i κ tk.2.2.2.1
  have hsx := tk.2.2.1
  have k4 : h.1 (B + 498) 4 = (κ : Int) := tk.1.2.1
  have k12 : g.1 (B + 541) 12 = kr κ := tk.2.1.2.2
  have r0 := hC.2.2.2.1
  obtain ⟨w, hw, rs⟩ : ∃ w : Int, (∀ n : Nat, n < 12 → q_X6_isWord h (B + 498) n = some (if w = (n : Int) then 1 else 0)) ∧ q_X8_readStatement g (B + 541) = q_X8_readStatement_J15 g (B + 541) w := by
    have hwd : ∀ n : Nat, n < 12 → q_X6_isWord h (B + 498) n = some (if h.1 (B + 498) 4 = 1 ∧ Mtb t s x n = true then 1 else 0) := fun n hn => e6_isWord hC.1 hC.2.1 tk.1.2.2 tk.1.1 hsx.1 hsx.2 hn
    by_cases q : κ = 1
    · refine ⟨wdx t s x, fun n hn => ?_, ?_⟩
      · rw [hwd n hn]
        by_cases e : wdx t s x = (n : Int)
        · rw [if_pos e, if_pos ⟨by rw [k4, q]; rfl, (wdx_iff hn).mpr e⟩]
        · rw [if_neg e, if_neg (fun z => e ((wdx_iff hn).mp z.2))]
      · unfold q_X8_readStatement
        rw [if_pos (by rw [k12]; exact hk1.2.1.mpr q), tk.2.2.2.2.2.1 q]
    · refine ⟨-1, fun n hn => ?_, ?_⟩
      · rw [hwd n hn, if_neg (fun z => q (by have := z.1; omega)), if_neg (by omega)]
      · unfold q_X8_readStatement
        rw [if_neg (by rw [k12]; exact fun z => q (hk1.2.1.mp z))]
  have step : ∀ (k : Int → zH → Option (Int × zH)) (n i : Nat), i < 1000 → q_X2_readText_L37 (B + 497) k (n + 1) (i : Int) h = zbp (q_X6_isWord h (B + 498) 0) (fun x7 => if x7 = 0 then (zbp (q_X6_isWord h (B + 498) 1) (fun x8 => if x8 = 0 then (zbp (q_X6_isWord h (B + 498) 2) (fun x9 => if x9 = 0 then (zbp (q_X6_isWord h (B + 498) 3) (fun x10 => if x10 = 0 then (zbp (q_X6_isWord h (B + 498) 4) (fun x11 => if x11 = 0 then (zbd (q_X2_fail h (B + 497) ((-11))) (fun _ h12 => q_X2_readText_L37 (B + 497) k n ((i + 1 : Nat) : Int) h12)) else (zbd (q_X2_readSet h (B + 497)) (fun _ h14 => q_X2_readText_L37 (B + 497) k n ((i + 1 : Nat) : Int) h14)))) else (zbd (q_X2_readCall h (B + 497)) (fun _ h16 => q_X2_readText_L37 (B + 497) k n ((i + 1 : Nat) : Int) h16)))) else (zbd (q_X2_readRain h (B + 497)) (fun _ h18 => q_X2_readText_L37 (B + 497) k n ((i + 1 : Nat) : Int) h18)))) else (zbd (q_X2_readStation h (B + 497)) (fun _ h20 => q_X2_readText_L37 (B + 497) k n ((i + 1 : Nat) : Int) h20)))) else (zbd (q_X2_readCarriers h (B + 497)) (fun _ h22 => q_X2_readText_L37 (B + 497) k n ((i + 1 : Nat) : Int) h22))) := fun k n i hi => by
    have hn : ¬ (1000 : Int) ≤ (i : Int) := by omega
    rw [q_X2_readText_L37, if_neg hn, if_pos h0, r0, if_neg hk]
    simp only [zlet_b]
    rw [zw_s (by omega)]
  have w0 := hw 0 (by decide)
  have w1 := hw 1 (by decide)
  have w2 := hw 2 (by decide)
  have w3 := hw 3 (by decide)
  have w4 := hw 4 (by decide)
  rw [show ((0 : Nat) : Int) = 0 from rfl] at w0
  rw [show ((1 : Nat) : Int) = 1 from rfl] at w1
  rw [show ((2 : Nat) : Int) = 2 from rfl] at w2
  rw [show ((3 : Nat) : Int) = 3 from rfl] at w3
  rw [show ((4 : Nat) : Int) = 4 from rfl] at w4
  rw [rs]
  clear hw rs
  by_cases c0 : w = 0
  · obtain ⟨h', g', p1, p2, p3⟩ := j_carriers hB h0 hk
    subst c0
    refine ⟨h', g', fun k n i hi => ?_, p2, p3⟩
    rw [step k n i hi, w0, if_pos rfl, zbp_some, if_neg one0, p1, zbd_some]
  rw [if_neg c0] at w0
  by_cases c1 : w = 1
  · obtain ⟨h', g', p1, p2, p3⟩ := j_stn hB h0 hk
    subst c1
    refine ⟨h', g', fun k n i hi => ?_, p2, p3⟩
    rw [step k n i hi, w0, zbp_some, if_pos rfl, w1, if_pos rfl, zbp_some, if_neg one0, p1, zbd_some]
  rw [if_neg c1] at w1
  by_cases c2 : w = 2
  · obtain ⟨h', g', p1, p2, p3⟩ := j_rain hB h0 hk
    subst c2
    refine ⟨h', g', fun k n i hi => ?_, p2, p3⟩
    rw [step k n i hi, w0, zbp_some, if_pos rfl, w1, zbp_some, if_pos rfl, w2, if_pos rfl, zbp_some, if_neg one0, p1, zbd_some]
  rw [if_neg c2] at w2
  by_cases c3 : w = 3
  · obtain ⟨h', g', p1, p2, p3⟩ := j_call hB h0 hk
    subst c3
    refine ⟨h', g', fun k n i hi => ?_, p2, p3⟩
    rw [step k n i hi, w0, zbp_some, if_pos rfl, w1, zbp_some, if_pos rfl, w2, zbp_some, if_pos rfl, w3, if_pos rfl, zbp_some, if_neg one0, p1, zbd_some]
  rw [if_neg c3] at w3
  by_cases c4 : w = 4
  · obtain ⟨h', g', p1, p2, p3⟩ := j_set hB h0 hk
    subst c4
    refine ⟨h', g', fun k n i hi => ?_, p2, p3⟩
    rw [step k n i hi, w0, zbp_some, if_pos rfl, w1, zbp_some, if_pos rfl, w2, zbp_some, if_pos rfl, w3, zbp_some, if_pos rfl, w4, if_pos rfl, zbp_some, if_neg one0, p1, zbd_some]
  rw [if_neg c4] at w4
  obtain ⟨h1, g1, f1, f2, f3, f4, f5, f6⟩ := m_bad hB.1 (c := -11) (by decide)
  obtain ⟨g', p1, p2, p3, p4⟩ := j_tailE f4 f3
  refine ⟨h1, g', fun k n i hi => ?_, ?_, ⟨p2, f5.w, f6.w.tr p3, by rw [p4, f6.2 _ _ (by omega)], fun z => absurd z f3⟩⟩
  · rw [step k n i hi, w0, zbp_some, if_pos rfl, w1, zbp_some, if_pos rfl, w2, zbp_some, if_pos rfl, w3, zbp_some, if_pos rfl, w4, zbp_some, if_pos rfl, f1, zbd_some]
  · unfold q_X8_readStatement_J15
    rw [if_neg c0, if_neg c1, if_neg c2, if_neg c3, if_neg c4, f2, zbd_some]
    exact p1
theorem m_rdLoop {kk : zH → Option (Int × zH)} : ∀ (r i f f2 : Nat) (h g : zH), i + r = 1000 → r < f → r < f2 → LB B t len h g → g.1 (B + 541) 18 = (i : Int) → (h.1 (B + 497) 3 = 0 → (i : Int) ≤ h.1 (B + 498) 5) →
    ∃ (h' g' : zH) (j : Nat), (∀ k : Int → zH → Option (Int × zH), q_X2_readText_L37 (B + 497) k f (i : Int) h = k (j : Int) h') ∧ q_X8_load_L47 (B + 541) kk f2 g = kk g' ∧ LB B t len h' g' ∧ FcW B h h' ∧ FrW B g g' ∧ g'.1 (B + 541) 18 = (j : Int) := by
  intro r
  induction r with
  | zero =>
    intro i f f2 h g h1 hf hf2 hB h18 hs
    obtain ⟨f', rfl⟩ : ∃ f', f = f' + 1 := ⟨f - 1, by omega⟩
    obtain ⟨f2', rfl⟩ : ∃ f2', f2 = f2' + 1 := ⟨f2 - 1, by omega⟩
    obtain rfl : i = 1000 := by omega
    refine ⟨h, g, 1000, fun k => ?_, ?_, hB, FcW.rf, FrW.rf, h18⟩
    · rw [q_X2_readText_L37]
      exact if_pos (by decide)
    · rw [q_X8_load_L47]
      by_cases z : h.1 (B + 497) 3 = 0
      · have J0 := hB.1.mode z
        obtain ⟨s, x, κ, tk⟩ := J0.2.2.2.1
        have hs0 := hs z
        have s5 := tk.1.2.2
        have sx := tk.2.2.1
        have kx := tk.2.2.2.2.1
        have hb := hB.1.1.1.1
        have κ0 : κ = 0 := by
          by_cases e : κ = 0
          · exact e
          · have := kx e
            omega
        have e12 : g.1 (B + 541) 12 = 4 := by rw [tk.2.1.2.2]; exact (kr_i κ tk.2.2.2.1).2.2.2.2.mpr κ0
        rw [if_pos J0.2.1, if_pos e12]
      · rw [if_neg (fun y => z (hB.1.e0.mpr y))]
  | succ r ih =>
    intro i f f2 h g h1 hf hf2 hB h18 hs
    obtain ⟨f', rfl⟩ : ∃ f', f = f' + 1 := ⟨f - 1, by omega⟩
    obtain ⟨f2', rfl⟩ : ∃ f2', f2 = f2' + 1 := ⟨f2 - 1, by omega⟩
    have hn : ¬ (1000 : Int) ≤ (i : Int) := by omega
    by_cases z : h.1 (B + 497) 3 = 0
    · have J0 := hB.1.mode z
      obtain ⟨s, x, κ, tk⟩ := J0.2.2.2.1
      have k4 : h.1 (B + 498) 4 = (κ : Int) := tk.1.2.1
      have k12 : g.1 (B + 541) 12 = kr κ := tk.2.1.2.2
      have r0 := hB.1.1.2.2.2.1
      have hk4 := (kr_i κ tk.2.2.2.1).2.2.2.2
      by_cases e : κ = 0
      · refine ⟨h, g, i, fun k => ?_, ?_, hB, FcW.rf, FrW.rf, h18⟩
        · rw [q_X2_readText_L37, if_neg hn, if_pos z, r0, if_pos (by rw [k4, e]; rfl)]
        · rw [q_X8_load_L47, if_pos J0.2.1, if_pos (by rw [k12]; exact hk4.mpr e)]
      · obtain ⟨h2, g2, p1, p2, p3, p4, p5, p6, p7⟩ := j_any hB z (by rw [k4]; omega)
        have hs0 := hs z
        obtain ⟨h', g', j, q1, q2, q3, q4, q5, q6⟩ := ih (i + 1) f' f2' h2 g2 (by omega) (by omega) (by omega) p3 (by rw [p6, h18, zw_s (by omega)]) (fun y => by
          have := (p7 y).2
          omega)
        refine ⟨h', g', j, fun k => ?_, ?_, q3, p4.tr q4, p5.tr q5, q6⟩
        · rw [p1 k f' i (by omega)]
          exact q1 k
        · rw [q_X8_load_L47, if_pos J0.2.1, if_neg (by rw [k12]; exact fun y => e (hk4.mp y)), p2, zbd_some]
          exact q2
    · refine ⟨h, g, i, fun k => ?_, ?_, hB, FcW.rf, FrW.rf, h18⟩
      · rw [q_X2_readText_L37, if_neg hn, if_neg z]
      · rw [q_X8_load_L47, if_neg (fun y => z (hB.1.e0.mpr y))]
end OPS
