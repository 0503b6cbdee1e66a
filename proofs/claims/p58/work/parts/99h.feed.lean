/-! Feeding the law's text. -/
theorem zor_nat31 {m n : Nat} (hm : m < 2147483648) (hn : n < 2147483648) : zor (m : Int) (n : Int) = ((m ||| n : Nat) : Int) := by
  unfold zor
  have e : (zi (m : Int) ||| zi (n : Int)).toBitVec.toNat = m ||| n := by
    rw [Int32.toBitVec_or, BitVec.toNat_or, zi_bv (by omega), zi_bv (by omega)]
  have hlt : m ||| n < 2 ^ 31 := Nat.or_lt_two_pow hm hn
  rw [bv_int (by rw [e]; omega), e]
theorem zshl_c24 : ∀ c : Nat, c < 128 → zshl (c : Int) 24 = ((2 ^ 24 * c : Nat) : Int) := by decide +kernel
theorem zshl_c16 : ∀ c : Nat, c < 128 → zshl (c : Int) 16 = ((2 ^ 16 * c : Nat) : Int) := by decide +kernel
theorem zshl_c8 : ∀ c : Nat, c < 128 → zshl (c : Int) 8 = ((2 ^ 8 * c : Nat) : Int) := by decide +kernel
theorem zshl_c0 : ∀ c : Nat, c < 128 → zshl (c : Int) 0 = (c : Int) := by decide +kernel
theorem zor_word {c0 c1 c2 c3 : Nat} (h0 : c0 < 128) (h1 : c1 < 128) (h2 : c2 < 128) (h3 : c3 < 128) : zor (zor (zor (zor 0 (zshl (c0 : Int) 24)) (zshl (c1 : Int) 16)) (zshl (c2 : Int) 8)) (zshl (c3 : Int) 0) = ((2 ^ 24 * c0 + 2 ^ 16 * c1 + 2 ^ 8 * c2 + c3 : Nat) : Int) := by
  rw [zshl_c24 c0 h0, zshl_c16 c1 h1, zshl_c8 c2 h2, zshl_c0 c3 h3]
  have e0 : zor 0 ((2 ^ 24 * c0 : Nat) : Int) = ((2 ^ 24 * c0 : Nat) : Int) := by
    have := zor_nat31 (m := 0) (n := 2 ^ 24 * c0) (by omega) (by omega)
    rw [Nat.zero_or] at this
    exact this
  have e1 : 2 ^ 24 * c0 ||| 2 ^ 16 * c1 = 2 ^ 24 * c0 + 2 ^ 16 * c1 := (Nat.two_pow_add_eq_or_of_lt (i := 24) (by omega) c0).symm
  have e2 : (2 ^ 24 * c0 + 2 ^ 16 * c1) ||| 2 ^ 8 * c2 = 2 ^ 24 * c0 + 2 ^ 16 * c1 + 2 ^ 8 * c2 := by
    have := (Nat.two_pow_add_eq_or_of_lt (i := 16) (b := 2 ^ 8 * c2) (by omega) (2 ^ 8 * c0 + c1)).symm
    rw [show 2 ^ 16 * (2 ^ 8 * c0 + c1) = 2 ^ 24 * c0 + 2 ^ 16 * c1 by omega] at this
    exact this
  have e3 : (2 ^ 24 * c0 + 2 ^ 16 * c1 + 2 ^ 8 * c2) ||| c3 = 2 ^ 24 * c0 + 2 ^ 16 * c1 + 2 ^ 8 * c2 + c3 := by
    have := (Nat.two_pow_add_eq_or_of_lt (i := 8) (b := c3) (by omega) (2 ^ 16 * c0 + 2 ^ 8 * c1 + c2)).symm
    rw [show 2 ^ 8 * (2 ^ 16 * c0 + 2 ^ 8 * c1 + c2) = 2 ^ 24 * c0 + 2 ^ 16 * c1 + 2 ^ 8 * c2 by omega] at this
    exact this
  rw [e0, zor_nat31 (by omega) (by omega), e1, zor_nat31 (by omega) (by omega), e2, zor_nat31 (by omega) (by omega), e3]
theorem zbyte_word {c0 c1 c2 c3 : Nat} (h0 : c0 < 128) (h1 : c1 < 128) (h2 : c2 < 128) (h3 : c3 < 128) {x : Int} (hx : x = ((2 ^ 24 * c0 + 2 ^ 16 * c1 + 2 ^ 8 * c2 + c3 : Nat) : Int)) : zand (zi2b (zshr x 24)) 255 = (c0 : Int) ∧ zand (zi2b (zshr x 16)) 255 = (c1 : Int) ∧ zand (zi2b (zshr x 8)) 255 = (c2 : Int) ∧ zand (zi2b (zshr x 0)) 255 = (c3 : Int) := by
  have key : ∀ (n k : Nat), n < 2147483648 → k < 32 → zand (zi2b (zshr ((n : Nat) : Int) (k : Int))) 255 = ((n / 2 ^ k % 256 : Nat) : Int) := fun n k hn hk => by
    have hle : n >>> k ≤ n := Nat.shiftRight_le _ _
    have h := zand_nat (m := n >>> k) (n := 255) (by omega) (by decide)
    rw [zand_b, zshr_nat hn hk]
    refine h.trans ?_
    rw [show (255 : Nat) = 2 ^ 8 - 1 from rfl, Nat.and_two_pow_sub_one_eq_mod, Nat.shiftRight_eq_div_pow]
  subst hx
  refine ⟨(key _ 24 (by omega) (by decide)).trans (congrArg _ ?_), (key _ 16 (by omega) (by decide)).trans (congrArg _ ?_), (key _ 8 (by omega) (by decide)).trans (congrArg _ ?_), (key _ 0 (by omega) (by decide)).trans (congrArg _ ?_)⟩ <;> omega
/-- the i-th letter -/
def tL (t : List Int32) (i : Nat) : Int := (t.getD i 0).toInt
theorem tL_b {t : List Int32} (hs : ySm t) (i : Nat) : 0 ≤ tL t i ∧ tL t i < 128 := by
  unfold tL
  by_cases h : i < t.length
  · rw [List.getD_eq_getElem?_getD, List.getElem?_eq_getElem h]
    exact hs _ (List.getElem_mem h)
  · rw [List.getD_eq_getElem?_getD, List.getElem?_eq_none (by omega)]
    exact ⟨by decide, by decide⟩
theorem pWo_w {t : List Int32} {k : Nat} : ∀ j, j < 5 → pWo t k 20 j = zor (zor (zor (zor 0 (zshl (tL t (k + (4 * j + 0))) 24)) (zshl (tL t (k + (4 * j + 1))) 16)) (zshl (tL t (k + (4 * j + 2))) 8)) (zshl (tL t (k + (4 * j + 3))) 0) := by
  intro j hj
  obtain rfl | rfl | rfl | rfl | rfl : j = 0 ∨ j = 1 ∨ j = 2 ∨ j = 3 ∨ j = 4 := by omega
  all_goals simp [pWo, tL]
theorem pWo_b {t : List Int32} (hs : ySm t) {k j : Nat} (hj : j < 5) : ∀ i : Nat, i < 4 → zand (zi2b (zshr (pWo t k 20 j) (24 - 8 * (i : Int)))) 255 = tL t (k + 4 * j + i) := by
  have b0 := tL_b hs (k + (4 * j + 0))
  have b1 := tL_b hs (k + (4 * j + 1))
  have b2 := tL_b hs (k + (4 * j + 2))
  have b3 := tL_b hs (k + (4 * j + 3))
  obtain ⟨c0, e0⟩ : ∃ c : Nat, tL t (k + (4 * j + 0)) = (c : Int) := ⟨_, (Int.toNat_of_nonneg b0.1).symm⟩
  obtain ⟨c1, e1⟩ : ∃ c : Nat, tL t (k + (4 * j + 1)) = (c : Int) := ⟨_, (Int.toNat_of_nonneg b1.1).symm⟩
  obtain ⟨c2, e2⟩ : ∃ c : Nat, tL t (k + (4 * j + 2)) = (c : Int) := ⟨_, (Int.toNat_of_nonneg b2.1).symm⟩
  obtain ⟨c3, e3⟩ : ∃ c : Nat, tL t (k + (4 * j + 3)) = (c : Int) := ⟨_, (Int.toNat_of_nonneg b3.1).symm⟩
  have hw := pWo_w (t := t) (k := k) j hj
  rw [e0, e1, e2, e3] at hw
  rw [zor_word (by omega) (by omega) (by omega) (by omega)] at hw
  obtain ⟨p0, p1, p2, p3⟩ := zbyte_word (c0 := c0) (c1 := c1) (c2 := c2) (c3 := c3) (by omega) (by omega) (by omega) (by omega) hw
  intro i hi
  obtain rfl | rfl | rfl | rfl : i = 0 ∨ i = 1 ∨ i = 2 ∨ i = 3 := by omega
  · rw [show k + 4 * j + 0 = k + (4 * j + 0) by omega, e0]; exact p0
  · rw [show k + 4 * j + 1 = k + (4 * j + 1) by omega, e1]; exact p1
  · rw [show k + 4 * j + 2 = k + (4 * j + 2) by omega, e2]; exact p2
  · rw [show k + 4 * j + 3 = k + (4 * j + 3) by omega, e3]; exact p3
/-- n letters are fed -/
def FdT (B : Nat) (t : List Int32) (n : Nat) (h : zH) : Prop := h.2 = (gB B).2 ∧ h.1 (B + 498) 0 = (n : Int) ∧ (∀ i, i < n → zand (h.1 (B + 499) i) 255 = tL t i) ∧ ∀ q j, ¬ (q = B + 498 ∧ j = 0) → q ≠ B + 499 → h.1 q j = (gB B).1 q j
theorem FdT.r {B : Nat} {t : List Int32} {n : Nat} {h : zH} (F : FdT B t n h) : h.2 B 4 = B + 497 ∧ h.2 (B + 497) 0 = B + 498 ∧ h.2 (B + 498) 1 = B + 498 + 1 := by
  rw [F.1]
  exact ⟨gB2 B 0 4, gB2 B 497 0, gB2 B 498 1⟩
theorem FdT.w {B : Nat} {t : List Int32} (hs : ySm t) {k j : Nat} (hj : j < 5) {h : zH} (h1000 : k + 4 * j + 4 ≤ 1000) (F : FdT B t (k + 4 * j) h) : ∃ h', q_X6_appendWord h (B + 498) (pWo t k 20 j) = some ((), h') ∧ FdT B t (k + 4 * (j + 1)) h' := by
  obtain ⟨h', p1, p2, p3, p4, p5⟩ := e6_word (w := pWo t k 20 j) h1000 F.r.2.2 F.2.1
  refine ⟨h', p1, p2.trans F.1, by rw [p3]; rfl, fun i hi => ?_, fun q i z1 z2 => ?_⟩
  · by_cases c : i < k + 4 * j
    · rw [p5 _ _ (by omega) (by omega)]
      exact F.2.2.1 i c
    · obtain ⟨d, rfl⟩ : ∃ d, i = k + 4 * j + d := ⟨i - (k + 4 * j), by omega⟩
      have := p4 d (by omega)
      rw [show B + 499 = B + 498 + 1 by omega, this]
      exact pWo_b hs hj d (by omega)
  · rw [p5 _ _ z1 (by omega)]
    exact F.2.2.2 q i z1 z2
theorem FdT.feed {B : Nat} {t : List Int32} (hs : ySm t) {k : Nat} {h : zH} (h1000 : k + 20 ≤ 1000) (F : FdT B t k h) : ∃ h', pFeed B t k h h' ∧ FdT B t (k + 20) h' := by
  obtain ⟨h1, p1, F1⟩ := FdT.w (j := 0) hs (by decide) (by omega) F
  obtain ⟨h2, p2, F2⟩ := F1.w hs (by decide) (by omega)
  obtain ⟨h3, p3, F3⟩ := F2.w hs (by decide) (by omega)
  obtain ⟨h4, p4, F4⟩ := F3.w hs (by decide) (by omega)
  obtain ⟨h5, p5, F5⟩ := F4.w hs (by decide) (by omega)
  have wz : zw ((k : Int) + 20) = (k : Int) + 20 := zw_id ⟨by omega, by omega⟩
  refine ⟨h5, ⟨((k + 20 : Nat) : Int), ⟨by omega, by omega⟩, ?_⟩, F5⟩
  unfold q_X7_feed q_X2_append
  rw [F.r.1, F.r.2.1, F.2.1, wz, if_pos (by clear wz; omega), p1, zbd_some, F1.r.2.1, p2, zbd_some, F2.r.2.1, p3, zbd_some, F3.r.2.1, p4, zbd_some, F4.r.2.1, p5, zbd_some, F5.r.2.1, F5.2.1]
  rfl
theorem FdT.all {B : Nat} {t : List Int32} (hs : ySm t) : ∀ n : Nat, 20 * n ≤ 1000 → ∃ hh : Nat → zH, hh 0 = gB B ∧ (∀ j, j < n → pFeed B t (20 * j) (hh j) (hh (j + 1))) ∧ FdT B t (20 * n) (hh n) := by
  intro n
  induction n with
  | zero =>
    intro _
    exact ⟨fun _ => gB B, rfl, fun j hj => by omega, rfl, gB1 B 498 0, fun i hi => by omega, fun _ _ _ _ => rfl⟩
  | succ n ih =>
    intro hn
    obtain ⟨hh, a0, a1, a2⟩ := ih (by omega)
    obtain ⟨h', b1, b2⟩ := a2.feed hs (by omega)
    refine ⟨fun j => if j ≤ n then hh j else h', by show (if 0 ≤ n then _ else _) = _; rw [if_pos (by omega)]; exact a0, fun j hj => ?_, ?_⟩
    · show pFeed B t (20 * j) (if j ≤ n then hh j else h') (if j + 1 ≤ n then hh (j + 1) else h')
      rw [if_pos (by omega)]
      by_cases e : j = n
      · subst e
        rw [if_neg (by omega)]
        exact b1
      · rw [if_pos (by omega)]
        exact a1 j (by omega)
    · show FdT B t (20 * (n + 1)) (if n + 1 ≤ n then hh (n + 1) else h')
      rw [if_neg (by omega)]
      exact b2
theorem FdT.inv {B : Nat} {t : List Int32} {n : Nat} {h : zH} (F : FdT B t n h) (h1000 : n ≤ 1000) : zInv B h := by
  have old : ∀ o j, o < 541 → ¬ (o = 498 ∧ j = 0) → o ≠ 499 → h.1 (B + o) j = gI o j := fun o j _ z1 z2 => (F.2.2.2 _ _ (by omega) (by omega)).trans (gB1 B o j)
  have v0 : V0c (vw h.1 (B + 1)) := by
    have c : ∀ o j, o < 41 → vw h.1 (B + 1) o j = skI o j := fun o j ho => by
      rw [vw_at ho, Nat.add_assoc, old _ _ (by omega) (by omega) (by omega), gI_1 ho]
    refine ⟨by rw [c _ _ (by decide)]; rfl, by rw [c _ _ (by decide)]; rfl, by rw [c _ _ (by decide)]; rfl, by rw [c _ _ (by decide)]; rfl, by rw [c _ _ (by decide)]; rfl, fun j hj => ?_⟩
    rw [c _ _ (by decide)]
    unfold skI
    rw [if_neg (by decide +revert), if_pos ⟨rfl, hj⟩]
  have h85 : h.1 (B + 85) 0 = 0 := old 85 0 (by decide) (by decide) (by decide)
  refine ⟨fun o ho ho2 j => by rw [F.1]; exact gB2 B o j, ⟨fun j => j, fun j hj => hj, fun i j _ _ e => e, fun j hj => ?_⟩, by rw [h85]; omega, v0.good, by rw [F.2.1]; omega⟩
  rw [F.1]
  exact gB2 B 86 j
