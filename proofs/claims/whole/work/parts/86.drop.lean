/-! The fewest calls to drop: sets and their order. -/
theorem and_half {x y : Nat} : (x &&& y) / 2 = x / 2 &&& y / 2 := by
  refine Nat.eq_of_testBit_eq (fun j => ?_)
  rw [Nat.testBit_div_two, Nat.testBit_and, Nat.testBit_and, Nat.testBit_div_two, Nat.testBit_div_two]
theorem and_bit0 {x y : Nat} : (x &&& y) % 2 = 1 ↔ x % 2 = 1 ∧ y % 2 = 1 := by
  have h := Nat.testBit_and x y 0
  rw [Nat.testBit_zero, Nat.testBit_zero, Nat.testBit_zero] at h
  constructor
  · intro z
    rw [decide_eq_true z] at h
    have := h.symm
    rw [Bool.and_eq_true, decide_eq_true_eq, decide_eq_true_eq] at this
    exact this
  · rintro ⟨z1, z2⟩
    rw [decide_eq_true z1, decide_eq_true z2] at h
    exact of_decide_eq_true h
theorem pop_dec : ∀ n m : Nat, m ≤ n → 0 < m → m < 65536 → popN (m &&& (m - 1)) + 1 = popN m ∧ m &&& (m - 1) < m := by
  intro n
  induction n with
  | zero => intro m h1 h2; omega
  | succ n ih =>
    intro m h1 h2 h3
    have hle : m &&& (m - 1) ≤ m - 1 := Nat.and_le_right
    refine ⟨?_, by omega⟩
    have hb := and_bit0 (x := m) (y := m - 1)
    have hy0 : (m &&& (m - 1)) % 2 = 0 := by
      by_cases z : (m &&& (m - 1)) % 2 = 1
      · have := hb.mp z
        omega
      · omega
    have hh := and_half (x := m) (y := m - 1)
    rw [popN_s (m := m &&& (m - 1)) (by omega), popN_s (m := m) h3, hy0, hh]
    by_cases e : m % 2 = 1
    · have e1 : (m - 1) / 2 = m / 2 := by omega
      rw [e1, Nat.and_self, e]
    · have e1 : (m - 1) / 2 = m / 2 - 1 := by omega
      have e0 : m % 2 = 0 := by omega
      rw [e1, e0]
      have := (ih (m / 2) (by omega) (by omega) (by omega)).1
      omega
/-- how many are in a set -/
def pc (m : Nat) : Nat := nct (fun k => m.testBit k) 16
theorem pc_pop {m : Nat} (h : m < 65536) : popN m = pc m := popN_nct 16 m (Nat.le_refl _) h
theorem pc_16 {m : Nat} : pc m ≤ 16 := nct_le 16
theorem e8_ones {h : zH} {m : Nat} (hm : m < 65536) : q_X8_ones h (m : Int) = some (pc m : Int) := by
  have key : ∀ (n m i f : Nat), m ≤ n → m < 65536 → n < f → i + popN m ≤ 16 → q_X8_ones_L4 h (fun x3 _ => some x3) f (i : Int) (m : Int) = some ((i + popN m : Nat) : Int) := by
    intro n
    induction n with
    | zero =>
      intro m i f h1 h2 h3 h4
      obtain ⟨f', rfl⟩ : ∃ f', f = f' + 1 := ⟨f - 1, by omega⟩
      have e : m = 0 := by omega
      subst e
      have e0 : popN 0 = 0 := by decide
      rw [q_X8_ones_L4, e0]
      exact if_pos rfl
    | succ n ih =>
      intro m i f h1 h2 h3 h4
      obtain ⟨f', rfl⟩ : ∃ f', f = f' + 1 := ⟨f - 1, by omega⟩
      by_cases e : m = 0
      · subst e
        have e0 : popN 0 = 0 := by decide
        rw [q_X8_ones_L4, e0]
        exact if_pos rfl
      · have nz : ¬ (m : Int) = 0 := by omega
        obtain ⟨p1, p2⟩ := pop_dec m m (Nat.le_refl _) (by omega) h2
        have w1 : zw ((m : Int) - 1) = ((m - 1 : Nat) : Int) := by rw [zw_id ⟨by omega, by omega⟩]; omega
        rw [q_X8_ones_L4, if_neg nz]
        simp only [zlet_b]
        rw [w1, zand_nat (by clear w1; omega) (by clear w1; omega), zw_s (by clear w1; omega)]
        clear w1
        rw [ih (m &&& (m - 1)) (i + 1) f' (by omega) (by omega) (by omega) (by omega)]
        have e2 : i + 1 + popN (m &&& (m - 1)) = i + popN m := by omega
        rw [e2]
  unfold q_X8_ones
  have hp := pc_pop hm
  have h16 := pc_16 (m := m)
  have := key m m 0 zF (Nat.le_refl _) hm (by unfold zF; omega) (by omega)
  rw [Nat.zero_add, hp] at this
  exact this
/-- the order of sets: the fewer first, then the smaller number -/
def sle (m q : Nat) : Prop := pc m < pc q ∨ (pc m = pc q ∧ m ≤ q)
theorem sle.rf {m : Nat} : sle m m := Or.inr ⟨rfl, Nat.le_refl _⟩
theorem sle.tr {a b c : Nat} (h1 : sle a b) (h2 : sle b c) : sle a c := by unfold sle at *; omega
theorem sle.as {a b : Nat} (h1 : sle a b) (h2 : sle b a) : a = b := by unfold sle at *; omega
theorem sle.tot {a b : Nat} (h : ¬ sle a b) : sle b a := by unfold sle at *; omega
theorem sub_eq {m q : Nat} (hm : m < 65536) (hq : q < 65536) (hs : ∀ l, m.testBit l = true → q.testBit l = true) : sle m q := by
  by_cases e : m = q
  · rw [e]; exact sle.rf
  · obtain ⟨l, hl⟩ : ∃ l, m.testBit l ≠ q.testBit l := by
      refine Classical.byContradiction fun z => e (Nat.eq_of_testBit_eq (fun j => ?_))
      exact Classical.byContradiction fun y => z ⟨j, y⟩
    have h1 : ¬ m.testBit l = true := fun z => hl (by rw [z, hs l z])
    have h2 : q.testBit l = true := by
      cases hq' : q.testBit l
      · cases hm' : m.testBit l
        · exact absurd (hm'.trans hq'.symm) hl
        · exact absurd hm' h1
      · rfl
    have hl16 : l < 16 := by
      refine Nat.lt_of_not_le (fun z => ?_)
      have : q.testBit l = false := Nat.testBit_lt_two_pow (Nat.lt_of_lt_of_le hq (show 65536 ≤ 2 ^ l from Nat.le_trans (show 65536 ≤ 2 ^ 16 from Nat.le_refl _) (Nat.pow_le_pow_right (by decide) z)))
      rw [this] at h2
      exact absurd h2 (by decide)
    exact Or.inl (nct_lt 16 (fun k _ z => hs k z) ⟨l, hl16, h2, h1⟩)
/-- the first of some sets -/
def MnS (P : Nat → Prop) (b : Int) : Prop := (b = -1 ∧ ∀ m, ¬ P m) ∨ ∃ m : Nat, b = (m : Int) ∧ m < 65536 ∧ P m ∧ ∀ q, P q → sle m q
theorem MnS.eqv {P Q : Nat → Prop} {b c : Int} (h1 : MnS P b) (h2 : MnS Q c) (hPQ : ∀ m, P m → Q m) (hQP : ∀ q, Q q → ∃ m, P m ∧ sle m q) : b = c := by
  rcases h1 with ⟨a1, a2⟩ | ⟨m, a1, a0, a2, a3⟩ <;> rcases h2 with ⟨b1, b2⟩ | ⟨q, b1, b0, b2, b3⟩
  · rw [a1, b1]
  · obtain ⟨m, c1, c2⟩ := hQP q b2
    exact absurd c1 (a2 m)
  · exact absurd (hPQ m a2) (b2 m)
  · obtain ⟨x, c1, c2⟩ := hQP q b2
    have e : m = q := ((a3 x c1).tr c2).as (b3 m (hPQ m a2))
    rw [a1, b1, e]
theorem MnS.congr {P Q : Nat → Prop} {b : Int} (h : MnS P b) (e : ∀ m, P m ↔ Q m) : MnS Q b := by
  rcases h with ⟨a1, a2⟩ | ⟨m, a1, a0, a2, a3⟩
  · exact Or.inl ⟨a1, fun m z => a2 m ((e m).mpr z)⟩
  · exact Or.inr ⟨m, a1, a0, (e m).mp a2, fun q z => a3 q ((e q).mpr z)⟩
theorem e4_fewer {h : zH} {P Q : Nat → Prop} {b c : Int} (h1 : MnS P b) (h2 : MnS Q c) : ∃ d, q_X4_fewer h b c = some d ∧ MnS (fun m => P m ∨ Q m) d := by
  unfold q_X4_fewer
  rcases h1 with ⟨a1, a2⟩ | ⟨m, a1, a0, a2, a3⟩
  · rw [if_pos a1, if_pos a1]
    refine ⟨c, rfl, ?_⟩
    rcases h2 with ⟨b1, b2⟩ | ⟨q, b1, b0, b2, b3⟩
    · exact Or.inl ⟨b1, fun m z => z.elim (a2 m) (b2 m)⟩
    · exact Or.inr ⟨q, b1, b0, Or.inr b2, fun x z => z.elim (fun y => absurd y (a2 x)) (b3 x)⟩
  · rw [if_neg (by omega)]
    rcases h2 with ⟨b1, b2⟩ | ⟨q, b1, b0, b2, b3⟩
    · rw [if_pos b1, if_neg (by omega)]
      exact ⟨b, rfl, Or.inr ⟨m, a1, a0, Or.inl a2, fun x z => z.elim (a3 x) (fun y => absurd y (b2 x))⟩⟩
    · have p1 := pc_16 (m := m)
      have p2 := pc_16 (m := q)
      have w : zw ((pc m : Int) - (pc q : Int)) = (pc m : Int) - (pc q : Int) := zw_id ⟨by omega, by omega⟩
      have e1 : sBC (m : Int) = (pc m : Int) := sBC_set a0
      have e2 : sBC (q : Int) = (pc q : Int) := sBC_set b0
      have first : sle m q → MnS (fun m => P m ∨ Q m) b := fun hs => Or.inr ⟨m, a1, a0, Or.inl a2, fun x z => z.elim (a3 x) (fun y => hs.tr (b3 x y))⟩
      have second : sle q m → MnS (fun m => P m ∨ Q m) c := fun hs => Or.inr ⟨q, b1, b0, Or.inr b2, fun x z => z.elim (fun y => hs.tr (a3 x y)) (b3 x)⟩
      unfold q_J6_bitCount
      rw [if_neg (by omega), zbp_some, zbp_some]
      simp only [zlet_b]
      rw [a1, b1, e1, e2, w]
      clear w e1 e2
      by_cases z1 : (pc m : Int) - (pc q : Int) < 0
      · rw [if_pos z1]
        exact ⟨_, rfl, a1 ▸ first (Or.inl (by omega))⟩
      · rw [if_neg z1]
        by_cases z2 : (pc m : Int) - (pc q : Int) = 0
        · rw [if_pos z2]
          by_cases z3 : (q : Int) ≤ (m : Int)
          · rw [if_pos z3]
            exact ⟨_, rfl, b1 ▸ second (Or.inr ⟨by omega, by omega⟩)⟩
          · rw [if_neg z3]
            exact ⟨_, rfl, a1 ▸ first (Or.inr ⟨by omega, by omega⟩)⟩
        · rw [if_neg z2]
          exact ⟨_, rfl, b1 ▸ second (Or.inl (by omega))⟩
theorem awy_nat {m l : Nat} (hm : m < 65536) : awy (m : Int) l = m.testBit l := by
  unfold awy
  rw [← BitVec.testBit_toNat, zi_bv (by omega)]
/-- what the class looks at: the calls in the way at a start -/
def Cd (v : Nat → Nat → Int) (k : Nat) (c t : Int) (m : Nat) : Prop := t + v (25 + k) 3 + v 1 1 ≤ v 1 0 ∧ m = sWay v k c t ∧ ∀ l, l < nCl v → m.testBit l = true → v (25 + l) 2 < v (25 + k) 2
/-- where the class looks -/
def Cst (v : Nat → Nat → Int) (n : Nat) (t : Int) : Prop := t = v 1 2 + v 1 1 ∨ ∃ l, l < n ∧ v (25 + l) 5 = 1 ∧ t = v (25 + l) 7 + v (25 + l) 3 + v 1 1
def CdA (v : Nat → Nat → Int) (k : Nat) (m : Nat) : Prop := ∃ c t, 0 ≤ c ∧ c < v 0 1 ∧ Cst v (nCl v) t ∧ Cd v k c t m
/-- those of lower priority -/
def sLow (v : Nat → Nat → Int) (k : Nat) : Nat := nset (fun l => decide (v (25 + l) 5 = 1 ∧ v (25 + l) 2 < v (25 + k) 2)) (nCl v)
/-- what the reference looks for -/
def FeA (v : Nat → Nat → Int) (k : Nat) (m : Nat) : Prop := (∀ l, m.testBit l = true → (sLow v k).testBit l = true) ∧ ∃ c t, 0 ≤ c ∧ c < v 0 1 ∧ Fit v (fun l => m.testBit l = true) k c t
theorem sLow_bit {v : Nat → Nat → Int} {k l : Nat} : (sLow v k).testBit l = true ↔ l < nCl v ∧ v (25 + l) 5 = 1 ∧ v (25 + l) 2 < v (25 + k) 2 := by
  unfold sLow
  rw [nset_bit, Bool.and_eq_true, decide_eq_true_eq, decide_eq_true_eq]
theorem sWay_bit {v : Nat → Nat → Int} {k l : Nat} {c t : Int} : (sWay v k c t).testBit l = true ↔ l < nCl v ∧ isWay v k c t l := by
  unfold sWay
  rw [nset_bit, Bool.and_eq_true, decide_eq_true_eq, decide_eq_true_eq]
theorem Cst.b {v : Nat → Nat → Int} (w : WF v) {t : Int} (h : Cst v (nCl v) t) : v 1 2 + v 1 1 ≤ t ∧ t ≤ 5000 := by
  have hset := w.set
  have hn := w.nC
  rcases h with h | ⟨l, h1, h2, h3⟩
  · omega
  · have ha := w.act (k := l) (by omega) h2
    have hb := (w.2.2.2.2.2.2.2.2 l (by omega)).2.2.2.2.1
    omega
theorem drop_12 {v : Nat → Nat → Int} (w : WF v) {k m : Nat} (h : CdA v k m) : FeA v k m := by
  have hn := w.nC
  obtain ⟨c, t, h0, h1, h2, h3, h4, h5⟩ := h
  refine ⟨fun l hl => ?_, c, t, h0, h1, Fit.iff.mpr ⟨(h2.b w).1, h3, fun l hl hW hw => hW ?_⟩⟩
  · have hl' := hl
    rw [h4] at hl'
    obtain ⟨y1, y2⟩ := sWay_bit.mp hl'
    exact sLow_bit.mpr ⟨y1, y2.1, h5 l y1 hl⟩
  · rw [h4]
    exact sWay_bit.mpr ⟨by omega, hw⟩
theorem cst_max {v : Nat → Nat → Int} {t : Int} (h : v 1 2 + v 1 1 ≤ t) : ∀ n, ∃ s, Cst v n s ∧ s ≤ t ∧ v 1 2 + v 1 1 ≤ s ∧ ∀ l, l < n → v (25 + l) 5 = 1 → v (25 + l) 7 + v (25 + l) 3 + v 1 1 ≤ t → v (25 + l) 7 + v (25 + l) 3 + v 1 1 ≤ s := by
  intro n
  induction n with
  | zero => exact ⟨_, Or.inl rfl, h, Int.le_refl _, fun l hl => by omega⟩
  | succ n ih =>
    obtain ⟨s, s1, s2, s0, s3⟩ := ih
    have up : Cst v (n + 1) s := s1.elim Or.inl (fun ⟨l, y1, y2⟩ => Or.inr ⟨l, by omega, y2⟩)
    by_cases q : v (25 + n) 5 = 1 ∧ v (25 + n) 7 + v (25 + n) 3 + v 1 1 ≤ t ∧ s < v (25 + n) 7 + v (25 + n) 3 + v 1 1
    · refine ⟨_, Or.inr ⟨n, by omega, q.1, rfl⟩, q.2.1, by omega, fun l hl h5 hle => ?_⟩
      by_cases e : l = n
      · rw [e]; exact Int.le_refl _
      · have := s3 l (by omega) h5 hle
        omega
    · refine ⟨s, up, s2, s0, fun l hl h5 hle => ?_⟩
      by_cases e : l = n
      · subst e
        by_cases z : v (25 + l) 7 + v (25 + l) 3 + v 1 1 ≤ s
        · exact z
        · exact absurd ⟨h5, hle, by omega⟩ q
      · exact s3 l (by omega) h5 hle
theorem drop_21 {v : Nat → Nat → Int} (w : WF v) {k q : Nat} (hq : q < 65536) (h : FeA v k q) : ∃ m, CdA v k m ∧ sle m q := by
  have hn := w.nC
  obtain ⟨h1, c, t, h0, h2, hF⟩ := h
  obtain ⟨f1, f2, f3⟩ := Fit.iff.mp hF
  obtain ⟨s, s1, s2, s0, s3⟩ := cst_max f1 (nCl v)
  have hsub : ∀ l, (sWay v k c s).testBit l = true → q.testBit l = true := fun l hl => by
    obtain ⟨y1, y2, y3, y4, y5⟩ := sWay_bit.mp hl
    refine Classical.byContradiction fun z => ?_
    refine f3 l (by omega) z ⟨y2, ?_, by omega, y5⟩
    by_cases e : v (25 + l) 7 + v (25 + l) 3 + v 1 1 ≤ t
    · have := s3 l y1 y2 e
      omega
    · omega
  refine ⟨sWay v k c s, ⟨c, s, h0, h2, s1, by omega, rfl, fun l hl hb => ?_⟩, sub_eq (nset_16 hn.2) hq hsub⟩
  exact (sLow_bit.mp (h1 l (hsub l hb))).2.2
