/-! Feeding. -/
theorem zand_b (y : Int) : zand (zi2b y) 255 = zand y 255 := by
  unfold zand zi2b
  rw [zi_of]
  have e : ((zi y).toInt8.toInt32 &&& zi 255) = (zi y &&& zi 255) := by
    apply Int32.toBitVec_inj.mp
    rw [Int32.toBitVec_and, Int32.toBitVec_and, Int8.toBitVec_toInt32, Int32.toBitVec_toInt8]
    have e255 : (zi 255).toBitVec = 255#32 := by decide
    rw [e255]
    refine BitVec.eq_of_getLsbD_eq (fun i hi => ?_)
    rw [BitVec.getLsbD_and, BitVec.getLsbD_and]
    by_cases h : i < 8
    · rw [BitVec.getLsbD_signExtend, BitVec.getLsbD_signExtend]
      simp [h, hi]
    · have z : ∀ i, i < 32 → ¬ i < 8 → (255#32).getLsbD i = false := by decide
      rw [z i hi h, Bool.and_false, Bool.and_false]
  rw [e]
theorem m_word {K : Nat} {w : Int} {n0 : Nat} (hn : n0 + 4 ≤ 1000) : ∀ (r i f : Nat) (h : zH), i + r = 4 → r < f → h.2 K 1 = K + 1 → h.1 K 0 = ((n0 + i : Nat) : Int) →
    ∃ h', q_X6_appendWord_L3 K w (fun _ h5 => some ((), h5)) f (24 - 8 * (i : Int)) h = some ((), h') ∧ h'.2 = h.2 ∧ h'.1 K 0 = ((n0 + 4 : Nat) : Int) ∧ (∀ j, i ≤ j → j < 4 → h'.1 (K + 1) (n0 + j) = zi2b (zshr w (24 - 8 * (j : Int)))) ∧ ∀ q j, ¬ (q = K ∧ j = 0) → ¬ (q = K + 1 ∧ n0 + i ≤ j ∧ j < n0 + 4) → h'.1 q j = h.1 q j := by
  intro r
  induction r with
  | zero =>
    intro i f h q1 q2 h1 h0
    obtain ⟨f', rfl⟩ : ∃ f', f = f' + 1 := ⟨f - 1, by omega⟩
    have e : i = 4 := by omega
    subst e
    refine ⟨h, ?_, rfl, h0, fun j z1 z2 => by omega, fun _ _ _ _ => rfl⟩
    rw [q_X6_appendWord_L3, if_pos (by omega)]
  | succ r ih =>
    intro i f h q1 q2 h1 h0
    obtain ⟨f', rfl⟩ : ∃ f', f = f' + 1 := ⟨f - 1, by omega⟩
    have hlt : n0 + i < 1000 := by omega
    have wz : zw (((n0 + i : Nat) : Int) + 1) = ((n0 + (i + 1) : Nat) : Int) := by rw [zw_s (by omega)]; rfl
    have w8 : zw (24 - 8 * (i : Int) + (-8)) = 24 - 8 * ((i + 1 : Nat) : Int) := by clear wz; rw [zw_id ⟨by omega, by omega⟩]; omega
    have hp : (zput h (K + 1) (n0 + i) (zi2b (zshr w (24 - 8 * (i : Int))))).1 K 0 = ((n0 + i : Nat) : Int) := by rw [zput_ne (by clear wz w8; omega), h0]
    obtain ⟨h', p1, p2, p3, p4, p5⟩ := ih (i + 1) f' (zput (zput h (K + 1) (n0 + i) (zi2b (zshr w (24 - 8 * (i : Int))))) K 0 ((n0 + (i + 1) : Nat) : Int)) (by clear wz w8; omega) (by clear wz w8; omega) h1 zput_self
    refine ⟨h', ?_, p2, p3, fun j z1 z2 => ?_, fun q j z1 z2 => ?_⟩
    · rw [q_X6_appendWord_L3, if_neg (by clear wz w8; omega), h0, if_neg (by clear wz w8; omega), zgpos hlt, Int.toNat_natCast, h1]
      simp only [zlet_b]
      rw [hp, wz, w8]
      exact p1
    · by_cases e : j = i
      · subst e
        rw [p5 _ _ (by clear wz w8; omega) (by clear wz w8; omega), zput_ne (by clear wz w8; omega), zput_self]
      · exact p4 j (by clear wz w8; omega) z2
    · rw [p5 q j z1 (by clear wz w8; omega), zput_ne z1, zput_ne (by clear wz w8; omega)]
theorem e6_word {h : zH} {K : Nat} {w : Int} {n0 : Nat} (hn : n0 + 4 ≤ 1000) (h1 : h.2 K 1 = K + 1) (h0 : h.1 K 0 = (n0 : Int)) : ∃ h', q_X6_appendWord h K w = some ((), h') ∧ h'.2 = h.2 ∧ h'.1 K 0 = ((n0 + 4 : Nat) : Int) ∧ (∀ j, j < 4 → h'.1 (K + 1) (n0 + j) = zi2b (zshr w (24 - 8 * (j : Int)))) ∧ ∀ q j, ¬ (q = K ∧ j = 0) → ¬ (q = K + 1 ∧ n0 ≤ j ∧ j < n0 + 4) → h'.1 q j = h.1 q j := by
  obtain ⟨h', p1, p2, p3, p4, p5⟩ := m_word (K := K) (w := w) hn 4 0 zF h (by omega) (by unfold zF; omega) h1 h0
  exact ⟨h', p1, p2, p3, fun j hj => p4 j (Nat.zero_le _) hj, p5⟩
/-- which word a byte is of -/
def fdw (a1 a2 a3 a4 a5 : Int) (i : Nat) : Int := if 4 ≤ i then (if 8 ≤ i then (if 12 ≤ i then (if 16 ≤ i then a5 else a4) else a3) else a2) else a1
theorem m_feed {M : Nat} {a1 a2 a3 a4 a5 : Int} {n0 : Nat} (hn : n0 + 20 ≤ 1000) {K : Int → zH → Option (Int × zH)} : ∀ (r i f : Nat) (g : zH), i + r = 20 → r < f → g.2 M 1 = M + 1 → g.1 M 2 = (n0 : Int) →
    ∃ g', q_X8_feed_L24 M a1 a2 a3 a4 a5 K f (i : Int) g = K (20 : Nat) g' ∧ g'.2 = g.2 ∧ (∀ j, i ≤ j → j < 20 → g'.1 (M + 1) (n0 + j) = zand (zshr (fdw a1 a2 a3 a4 a5 j) (24 - 8 * ((j % 4 : Nat) : Int))) 255) ∧ ∀ q j, ¬ (q = M + 1 ∧ n0 + i ≤ j ∧ j < n0 + 20) → g'.1 q j = g.1 q j := by
  intro r
  induction r with
  | zero =>
    intro i f g q1 q2 h1 h0
    obtain ⟨f', rfl⟩ : ∃ f', f = f' + 1 := ⟨f - 1, by omega⟩
    have e : i = 20 := by omega
    subst e
    refine ⟨g, ?_, rfl, fun j z1 z2 => by omega, fun _ _ _ => rfl⟩
    rw [q_X8_feed_L24]
    exact if_pos (by decide)
  | succ r ih =>
    intro i f g q1 q2 h1 h0
    obtain ⟨f', rfl⟩ : ∃ f', f = f' + 1 := ⟨f - 1, by omega⟩
    have hlt : n0 + i < 1000 := by omega
    have hii : i < 1000000 := by omega
    have hni : ¬ (20 : Int) ≤ (i : Int) := by omega
    have c4 : (4 : Int) ≤ (i : Int) ↔ 4 ≤ i := by omega
    have c8 : (8 : Int) ≤ (i : Int) ↔ 8 ≤ i := by omega
    have c12 : (12 : Int) ≤ (i : Int) ↔ 12 ≤ i := by omega
    have c16 : (16 : Int) ≤ (i : Int) ↔ 16 ≤ i := by omega
    have et : (i : Int).tmod 4 = ((i % 4 : Nat) : Int) := by
      rw [Int.tmod_eq_emod_of_nonneg (by omega)]
      omega
    have h4 : i % 4 < 4 := Nat.mod_lt _ (by decide)
    have w1 : zw (8 * ((i % 4 : Nat) : Int)) = 8 * ((i % 4 : Nat) : Int) := zw_id ⟨by omega, by omega⟩
    have w2 : zw (24 - 8 * ((i % 4 : Nat) : Int)) = 24 - 8 * ((i % 4 : Nat) : Int) := by clear w1; exact zw_id ⟨by omega, by omega⟩
    have w3 : zw ((n0 : Int) + (i : Int)) = ((n0 + i : Nat) : Int) := by clear w1 w2; exact zw_c (by omega)
    obtain ⟨g', p1, p2, p3, p4⟩ := ih (i + 1) f' (zput g (M + 1) (n0 + i) (zand (zshr (fdw a1 a2 a3 a4 a5 i) (24 - 8 * ((i % 4 : Nat) : Int))) 255)) (by clear w1 w2 w3; omega) (by clear w1 w2 w3; omega) h1 (by rw [zput_ne (by clear w1 w2 w3; omega)]; exact h0)
    have key : q_X8_feed_L24 M a1 a2 a3 a4 a5 K (f' + 1) (i : Int) g = q_X8_feed_L24 M a1 a2 a3 a4 a5 K f' ((i + 1 : Nat) : Int) (zput g (M + 1) (n0 + i) (zand (zshr (fdw a1 a2 a3 a4 a5 i) (24 - 8 * ((i % 4 : Nat) : Int))) 255)) := by
      rw [q_X8_feed_L24, if_neg hni]
      simp only [zlet_b]
      have z4 : ∀ (γ : Type) (E : Option γ), zgz 4 E = E := fun _ _ => zgz_pos (by decide)
      simp only [z4, et, w1, w2, h0, w3, zgpos hlt, Int.toNat_natCast, h1, zw_s hii]
      unfold fdw
      by_cases d4 : 4 ≤ i
      · rw [if_pos (c4.mpr d4), if_pos d4]
        by_cases d8 : 8 ≤ i
        · rw [if_pos (c8.mpr d8), if_pos d8]
          by_cases d12 : 12 ≤ i
          · rw [if_pos (c12.mpr d12), if_pos d12]
            by_cases d16 : 16 ≤ i
            · rw [if_pos (c16.mpr d16), if_pos d16]
            · rw [if_neg (fun z => d16 (c16.mp z)), if_neg d16]
          · rw [if_neg (fun z => d12 (c12.mp z)), if_neg d12]
        · rw [if_neg (fun z => d8 (c8.mp z)), if_neg d8]
      · rw [if_neg (fun z => d4 (c4.mp z)), if_neg d4]
    clear w1 w2 w3
    refine ⟨g', key.trans p1, p2, fun j z1 z2 => ?_, fun q j z1 => ?_⟩
    · by_cases e : j = i
      · subst e
        rw [p4 _ _ (by omega), zput_self]
      · exact p3 j (by omega) z2
    · rw [p4 q j (by omega), zput_ne (by omega)]
section OPS
variable {B : Nat}
theorem op_0 : zI_0 (zInv B) B (B + 541) (B + 552) := by
  intro h hI hG a1 a2 a3 a4 a5 r1 r2 r3 r4 r5
  have hcnt := hI.2.2.2.2.2.1
  have k0 : h.2 (B + 497) 0 = B + 498 := hI.1 497 (by decide) (by decide) 0
  have k1 : h.2 (B + 498) 1 = B + 499 := hI.1 498 (by decide) (by decide) 1
  have m1 : h.2 (B + 541) 1 = B + 541 + 1 := hI.mly 1
  obtain ⟨n, hn⟩ : ∃ n : Nat, h.1 (B + 498) 0 = (n : Int) := ⟨(h.1 (B + 498) 0).toNat, by omega⟩
  have hn1 : n ≤ 1000 := by omega
  have wz : zw ((n : Int) + 20) = (n : Int) + 20 := zw_id ⟨by omega, by omega⟩
  have b2 : h.1 (B + 541) 2 = (n : Int) := by rw [hcnt.2.1, hn]
  by_cases hf : (n : Int) + 20 ≤ 1000
  · have hf' : n + 20 ≤ 1000 := by clear wz; omega
    obtain ⟨h1, p1, p2, p3, p4, p5⟩ := e6_word (h := h) (K := B + 498) (w := a1) (n0 := n) (by clear wz; omega) k1 hn
    obtain ⟨h2, q1, q2, q3, q4, q5⟩ := e6_word (h := h1) (K := B + 498) (w := a2) (n0 := n + 4) (by clear wz; omega) (by rw [p2]; exact k1) p3
    obtain ⟨h3, s1, s2, s3, s4, s5⟩ := e6_word (h := h2) (K := B + 498) (w := a3) (n0 := n + 4 + 4) (by clear wz; omega) (by rw [q2, p2]; exact k1) q3
    obtain ⟨h4, t1, t2, t3, t4, t5⟩ := e6_word (h := h3) (K := B + 498) (w := a4) (n0 := n + 4 + 4 + 4) (by clear wz; omega) (by rw [s2, q2, p2]; exact k1) s3
    obtain ⟨h5, u1, u2, u3, u4, u5⟩ := e6_word (h := h4) (K := B + 498) (w := a5) (n0 := n + 4 + 4 + 4 + 4) (by clear wz; omega) (by rw [t2, s2, q2, p2]; exact k1) t3
    have hr : h5.2 = h.2 := u2.trans (t2.trans (s2.trans (q2.trans p2)))
    have out : ∀ q j, ¬ (q = B + 498 ∧ j = 0) → ¬ (q = B + 499 ∧ n ≤ j ∧ j < n + 20) → h5.1 q j = h.1 q j := fun q j z1 z2 => by
      clear wz
      rw [u5 q j z1 (by omega), t5 q j z1 (by omega), s5 q j z1 (by omega), q5 q j z1 (by omega), p5 q j z1 (by omega)]
    have txt : ∀ j, j < 20 → h5.1 (B + 499) (n + j) = zi2b (zshr (fdw a1 a2 a3 a4 a5 j) (24 - 8 * ((j % 4 : Nat) : Int))) := fun j hj => by
      clear wz
      unfold fdw
      by_cases d4 : 4 ≤ j
      · rw [if_pos d4]
        by_cases d8 : 8 ≤ j
        · rw [if_pos d8]
          by_cases d12 : 12 ≤ j
          · rw [if_pos d12]
            by_cases d16 : 16 ≤ j
            · rw [if_pos d16]
              have := u4 (j - 16) (by omega)
              rw [show n + 4 + 4 + 4 + 4 + (j - 16) = n + j by omega, show j - 16 = j % 4 by omega] at this
              exact this
            · rw [if_neg d16, u5 _ _ (by omega) (by omega)]
              have := t4 (j - 12) (by omega)
              rw [show n + 4 + 4 + 4 + (j - 12) = n + j by omega, show j - 12 = j % 4 by omega] at this
              exact this
          · rw [if_neg d12, u5 _ _ (by omega) (by omega), t5 _ _ (by omega) (by omega)]
            have := s4 (j - 8) (by omega)
            rw [show n + 4 + 4 + (j - 8) = n + j by omega, show j - 8 = j % 4 by omega] at this
            exact this
        · rw [if_neg d8, u5 _ _ (by omega) (by omega), t5 _ _ (by omega) (by omega), s5 _ _ (by omega) (by omega)]
          have := q4 (j - 4) (by omega)
          rw [show n + 4 + (j - 4) = n + j by omega, show j - 4 = j % 4 by omega] at this
          exact this
      · rw [if_neg d4, u5 _ _ (by omega) (by omega), t5 _ _ (by omega) (by omega), s5 _ _ (by omega) (by omega), q5 _ _ (by omega) (by omega)]
        have := p4 j (by omega)
        rw [show j % 4 = j by omega]
        exact this
    obtain ⟨g, y1, y2, y3, y4⟩ := m_feed (M := B + 541) (a1 := a1) (a2 := a2) (a3 := a3) (a4 := a4) (a5 := a5) (n0 := n) hf' (K := fun x12 h13 => some ((zput h13 (B + 541) 2 (zw (h13.1 (B + 541) 2 + 20))).1 (B + 541) 2, zput h13 (B + 541) 2 (zw (h13.1 (B + 541) 2 + 20)))) 20 0 zF (zput h5 (B + 541) 0 0) (by clear wz; omega) (by unfold zF; clear wz; omega) (by rw [zput_2, hr]; exact m1) (by rw [zput_ne (by clear wz; omega), out _ _ (by clear wz; omega) (by clear wz; omega)]; exact b2)
    have y1' := y1
    rw [show ((0 : Nat) : Int) = 0 from rfl] at y1'
    have g2 : g.1 (B + 541) 2 = (n : Int) := by rw [y4 _ _ (by clear wz; omega), zput_ne (by clear wz; omega), out _ _ (by clear wz; omega) (by clear wz; omega), b2]
    have e5 : h5.1 (B + 498) 0 = (n : Int) + 20 := by clear wz; rw [u3]; omega
    refine ⟨zput g (B + 541) 2 ((n : Int) + 20), ⟨(n : Int) + 20, h5, ?_, ?_⟩, ?_⟩
    · unfold q_X7_feed q_X2_append
      rw [hI.r4, k0, hn, wz, if_pos hf, p1, zbd_some, p2, k0, q1, zbd_some, q2, p2, k0, s1, zbd_some, s2, q2, p2, k0, t1, zbd_some, t2, s2, q2, p2, k0, u1, zbd_some, hr, k0, e5, zbd_some]
    · unfold q_X8_feed
      simp only [zlet_b]
      have e2 : (zput h5 (B + 541) 0 0).1 (B + 541) 2 = (n : Int) := by rw [zput_ne (by clear wz; omega), out _ _ (by clear wz; omega) (by clear wz; omega), b2]
      rw [e2, wz, if_pos hf, y1', g2, wz, zput_self]
    · clear wz
      have cc : ∀ q j, ¬ (q = B + 498 ∧ j = 0) → ¬ (q = B + 499 ∧ n ≤ j) → ¬ (q = B + 541 ∧ (j = 0 ∨ j = 2)) → ¬ (q = B + 541 + 1 ∧ n ≤ j) → (zput g (B + 541) 2 ((n : Int) + 20)).1 q j = h.1 q j := fun q j z1 z2 z3 z4 => by
        rw [zput_ne (by omega), y4 _ _ (by omega), zput_ne (by omega), out _ _ (by omega) (by omega)]
      have rr : (zput g (B + 541) 2 ((n : Int) + 20)).2 = h.2 := y2.trans hr
      have et : (zput g (B + 541) 2 ((n : Int) + 20)).1 (B + 541 + 2) = h.1 (B + 541 + 2) := funext fun j => cc _ _ (by omega) (by omega) (by omega) (by omega)
      have e4 : (zput g (B + 541) 2 ((n : Int) + 20)).1 (B + 541 + 4) = h.1 (B + 541 + 4) := funext fun j => cc _ _ (by omega) (by omega) (by omega) (by omega)
      have e6 : (zput g (B + 541) 2 ((n : Int) + 20)).1 (B + 541 + 6) = h.1 (B + 541 + 6) := funext fun j => cc _ _ (by omega) (by omega) (by omega) (by omega)
      have ecur : vw (zput g (B + 541) 2 ((n : Int) + 20)).1 (B + 1) = vw h.1 (B + 1) := vw_ext fun o ho i => cc _ _ (by omega) (by omega) (by omega) (by omega)
      have e85 : (zput g (B + 541) 2 ((n : Int) + 20)).1 (B + 85) 0 = h.1 (B + 85) 0 := cc _ _ (by omega) (by omega) (by omega) (by omega)
      have e98 : (zput g (B + 541) 2 ((n : Int) + 20)).1 (B + 498) 0 = (n : Int) + 20 := by rw [zput_ne (by omega), y4 _ _ (by omega), zput_ne (by omega), e5]
      refine zInv.mk' (by rw [rr]; exact hI.1) ?_ (fun j hj => ?_) ?_ (by rw [ecur]; exact hI.2.2.2.1) (by rw [ecur, e4, et]; exact hI.2.2.2.2.1) ⟨⟨by rw [e98]; omega, by rw [e98]; omega⟩, by rw [e98, zput_self], fun i hi => ?_⟩ ?_
      · obtain ⟨σ, x1, x2, x3⟩ := hI.prm
        exact ⟨σ, x1, x2, by rw [rr]; exact x3⟩
      · rw [e85] at hj
        obtain ⟨σ, x1, x2, x3⟩ := hI.prm
        have hj10 : j < 10 := by have := hI.2.2.1.1; omega
        have := x1 j hj10
        have eh : HV B (zput g (B + 541) 2 ((n : Int) + 20)) j = HV B h j := by
          unfold HV
          rw [rr, x3 j hj10]
          exact vw_ext fun o ho i => cc _ _ (by omega) (by omega) (by omega) (by omega)
        rw [eh, et, e6]
        exact hI.hv hj
      · rw [e85, cc (B + 541) 8 (by omega) (by omega) (by omega) (by omega)]
        exact hI.2.2.1
      · rw [e98] at hi
        by_cases hin : i < n
        · rw [cc _ _ (by omega) (by omega) (by omega) (by omega), cc (B + 499) _ (by omega) (by omega) (by omega) (by omega)]
          exact hcnt.2.2 i (by omega)
        · obtain ⟨j, rfl⟩ : ∃ j, i = n + j := ⟨i - n, by omega⟩
          rw [zput_ne (by omega), y3 j (Nat.zero_le _) (by omega), zput_ne (by omega), y4 _ _ (by omega), zput_ne (by omega), txt j (by omega), zand_b]
      · rw [cc _ _ (by omega) (by omega) (by omega) (by omega), cc (B + 541) _ (by omega) (by omega) (by omega) (by omega)]
        exact hI.2.2.2.2.2.2
  · refine ⟨zput h (B + 541) 0 0, ⟨-3, h, ?_, ?_⟩, hI.same (zSame.rf.put sM0)⟩
    · unfold q_X7_feed q_X2_append
      rw [hI.r4, k0, hn, wz, if_neg hf, zbd_some]
    · unfold q_X8_feed
      simp only [zlet_b]
      have e2 : (zput h (B + 541) 0 0).1 (B + 541) 2 = (n : Int) := by rw [zput_ne (by clear wz; omega), b2]
      rw [e2, wz, if_neg hf]
end OPS
