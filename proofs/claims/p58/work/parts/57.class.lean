/-! What whole's parts 57 58 59 60 61 62 63 say of the class alone. -/
section CL
variable {h : zH} {A : Nat}
/-- whether l stands in the way of k at t -/
abbrev isWay (v : Nat → Nat → Int) (k : Nat) (c t : Int) (l : Nat) : Prop := v (25 + l) 5 = 1 ∧ t < v (25 + l) 7 + v (25 + l) 3 + v 1 1 ∧ v (25 + l) 7 < t + v (25 + k) 3 + v 1 1 ∧ (v (25 + l) 6 = c ∨ v (25 + l) 0 = v (25 + k) 0 ∨ v (25 + l) 1 = v (25 + k) 1)
def sWay (v : Nat → Nat → Int) (k : Nat) (c t : Int) : Nat := nset (fun l => decide (isWay v k c t l)) (nCl v)
theorem e4_way (hc : CV h A) {k : Nat} (hk : (k : Int) < vw h.1 A 0 7) (c : Int) {t : Int} (ht : 0 ≤ t ∧ t ≤ 10000) : q_X4_callsInTheWay h A (A + (25 + k)) c t = some ((sWay (vw h.1 A) k c t : Nat) : Int) := by
  have w := hc.2
  have hn := w.nC
  have hset := w.set
  have hk16 : k < 16 := by omega
  have hbk := (w.2.2.2.2.2.2.2.2 k hk).2.2.2.2.1
  unfold q_X4_callsInTheWay
  simp only [zlet_b]
  have w1 : zw (t + vw h.1 A (25 + k) 3) = t + vw h.1 A (25 + k) 3 := zw_id ⟨by omega, by omega⟩
  have w2 : zw (t + vw h.1 A (25 + k) 3 + vw h.1 A 1 1) = t + vw h.1 A (25 + k) 3 + vw h.1 A 1 1 := by clear w1; exact zw_id ⟨by omega, by omega⟩
  rw [a_c hk16, a_set hc, w1, w2]
  clear w1 w2
  refine zsetloop (L := fun f a i => q_X4_callsInTheWay_L21 h A (A + (25 + k)) c t (t + vw h.1 A (25 + k) 3 + vw h.1 A 1 1) (fun x _ => some x) f a i) (kf := fun a => some a) (fun l => decide (isWay (vw h.1 A) k c t l)) hn.2 (fun f i hi => ?_) (fun f => ?_)
  · have hi16 : i < 16 := by omega
    have hi7 : (i : Int) < vw h.1 A 0 7 := by omega
    show q_X4_callsInTheWay_L21 h A (A + (25 + k)) c t _ _ (f + 1) _ (i : Int) = _
    rw [q_X4_callsInTheWay_L21]
    simp only [zlet_b, zdec]
    unfold q_X4_freeBehind q_X0_conflictsWith
    rw [a_n7 hc, if_neg (by omega), zgpos hi16, Int.toNat_natCast, a_call hc, a_c hi16, a_c hi16, a_c hi16, a_c hi16, a_c hi16, a_c hi16, a_c hk16, a_c hk16, a_set hc, zbp_some, zw_s (by omega)]
    by_cases h5 : vw h.1 A (25 + i) 5 = 1
    · have ha := w.act hi7 h5
      have hbu := (w.2.2.2.2.2.2.2.2 i hi7).2.2.2.2.1
      have w1 : zw (vw h.1 A (25 + i) 7 + vw h.1 A (25 + i) 3) = vw h.1 A (25 + i) 7 + vw h.1 A (25 + i) 3 := zw_id ⟨by omega, by omega⟩
      have w2 : zw (vw h.1 A (25 + i) 7 + vw h.1 A (25 + i) 3 + vw h.1 A 1 1) = vw h.1 A (25 + i) 7 + vw h.1 A (25 + i) 3 + vw h.1 A 1 1 := by clear w1; exact zw_id ⟨by omega, by omega⟩
      rw [if_pos h5, w1, w2]
      clear w1 w2
      by_cases q1 : vw h.1 A (25 + i) 7 + vw h.1 A (25 + i) 3 + vw h.1 A 1 1 ≤ t
      · rw [if_pos q1, if_neg (fun z => by have := z.2.1; omega)]
      · rw [if_neg q1]
        by_cases q2 : t + vw h.1 A (25 + k) 3 + vw h.1 A 1 1 ≤ vw h.1 A (25 + i) 7
        · rw [if_pos q2, if_neg (fun z => by have := z.2.2.1; omega)]
        · rw [if_neg q2]
          by_cases q6 : vw h.1 A (25 + i) 6 = c
          · rw [if_pos q6, zbp_some, if_neg one0, if_pos ⟨h5, by omega, by omega, Or.inl q6⟩]
          · rw [if_neg q6]
            by_cases q0 : vw h.1 A (25 + i) 0 = vw h.1 A (25 + k) 0
            · rw [if_pos q0, zbp_some, if_neg one0, if_pos ⟨h5, by omega, by omega, Or.inr (Or.inl q0)⟩]
            · rw [if_neg q0]
              by_cases q9 : vw h.1 A (25 + i) 1 = vw h.1 A (25 + k) 1
              · rw [if_pos q9, zbp_some, if_neg one0, if_pos ⟨h5, by omega, by omega, Or.inr (Or.inr q9)⟩]
              · rw [if_neg q9, zbp_some, if_pos rfl, if_neg (fun z => z.2.2.2.elim q6 (fun y => y.elim q0 q9))]
    · rw [if_neg h5, if_neg (fun z => h5 z.1)]
  · show q_X4_callsInTheWay_L21 h A (A + (25 + k)) c t _ _ (f + 1) _ (nCl (vw h.1 A) : Int) = _
    rw [q_X4_callsInTheWay_L21, a_n7 hc, if_pos (Int.le_refl _)]
/-- the least start, or -1 -/
def LSt (v : Nat → Nat → Int) (W : Nat → Prop) (k : Nat) (c r : Int) : Prop := (Fit v W k c r ∧ ∀ t, t < r → ¬ Fit v W k c t) ∨ (r = -1 ∧ ∀ t, ¬ Fit v W k c t)
theorem Fit.pos {v : Nat → Nat → Int} {W : Nat → Prop} {k : Nat} {c t : Int} (w : WF v) (h : Fit v W k c t) : 1 ≤ t := by
  have := w.set
  have := h.1
  omega
theorem LSt.uniq {v : Nat → Nat → Int} {W : Nat → Prop} {k : Nat} {c r s : Int} (hr : LSt v W k c r) (hs : LSt v W k c s) : r = s := by
  rcases hr with ⟨a1, a2⟩ | ⟨a1, a2⟩ <;> rcases hs with ⟨b1, b2⟩ | ⟨b1, b2⟩
  · by_cases q : r < s
    · exact absurd a1 (b2 r q)
    · by_cases q2 : s < r
      · exact absurd b1 (a2 s q2)
      · omega
  · exact absurd a1 (b2 r)
  · exact absurd b1 (a2 s)
  · rw [a1, b1]
theorem Fit.iff {v : Nat → Nat → Int} {W : Nat → Prop} {k : Nat} {c t : Int} : Fit v W k c t ↔ (v 1 2 + v 1 1 ≤ t ∧ t + v (25 + k) 3 + v 1 1 ≤ v 1 0 ∧ ∀ l : Nat, (l : Int) < v 0 7 → ¬ W l → ¬ isWay v k c t l) := by
  unfold Fit isWay cfl
  constructor
  · rintro ⟨h1, h2, h3⟩
    exact ⟨h1, h2, fun l hl hw ⟨q1, q2, q3, q4⟩ => h3 l hl q1 hw q4 ⟨q2, q3⟩⟩
  · rintro ⟨h1, h2, h3⟩
    exact ⟨h1, h2, fun l hl q1 hw q4 ⟨q2, q3⟩ => h3 l hl hw ⟨q1, q2, q3, q4⟩⟩
end CL
section CL2
variable {h : zH} {A : Nat}
theorem nset_zero {P : Nat → Bool} : ∀ n, nset P n = 0 → ∀ k, k < n → ¬ P k = true := by
  intro n h0 k hk hp
  have := nset_bit (P := P) (k := k) n
  rw [h0, decide_eq_true hk, hp] at this
  simp at this
/-- a set without another -/
theorem z_without {m q : Nat} (hm : m < 65536) (hq : q < 65536) : ∃ m' : Nat, zand (m : Int) (zxor (q : Int) (-1)) = (m' : Int) ∧ m' ≤ m ∧ ∀ j, m'.testBit j = (m.testBit j && !(q.testBit j)) := by
  refine ⟨((zi (m : Int)).toBitVec &&& ~~~ (zi (q : Int)).toBitVec).toNat, ?_, ?_, fun j => ?_⟩
  · unfold zand zxor
    have e1 : zi ((zi (q : Int) ^^^ zi (-1)).toInt) = zi (q : Int) ^^^ zi (-1) := zi_of _
    rw [e1]
    have e2 : (zi (m : Int) &&& (zi (q : Int) ^^^ zi (-1))).toBitVec = (zi (m : Int)).toBitVec &&& ~~~ (zi (q : Int)).toBitVec := by
      rw [Int32.toBitVec_and, Int32.toBitVec_xor, m1n, BitVec.xor_allOnes]
    have hlt : ((zi (m : Int)).toBitVec &&& ~~~ (zi (q : Int)).toBitVec).toNat ≤ m := by
      rw [BitVec.toNat_and, zi_bv (by omega)]
      exact Nat.and_le_left
    rw [bv_int (by rw [e2]; omega), e2]
  · rw [BitVec.toNat_and, zi_bv (by omega)]
    exact Nat.and_le_left
  · rw [BitVec.testBit_toNat, BitVec.getLsbD_and, BitVec.getLsbD_not]
    have a1 : (zi (m : Int)).toBitVec.getLsbD j = m.testBit j := by
      rw [← BitVec.testBit_toNat, zi_bv (by omega)]
    have a2 : (zi (q : Int)).toBitVec.getLsbD j = q.testBit j := by
      rw [← BitVec.testBit_toNat, zi_bv (by omega)]
    rw [a1, a2]
    by_cases hj : j < 32
    · simp [hj]
    · have : m.testBit j = false := Nat.testBit_lt_two_pow (Nat.lt_of_lt_of_le hm (show 65536 ≤ 2 ^ j from Nat.le_trans (show 65536 ≤ 2 ^ 16 from Nat.le_refl _) (Nat.pow_le_pow_right (by decide) (by omega))))
      rw [this]
      simp
/-- behind the last of a set -/
def sBh (v : Nat → Nat → Int) (m : Nat) (n : Nat) (t : Int) : Int := zit (fun (a : Int) l => if m.testBit l = true then zmax a (v (25 + l) 7 + v (25 + l) 3 + v 1 1) else a) n t
theorem sBh_p {v : Nat → Nat → Int} {m : Nat} {t : Int} : ∀ n, t ≤ sBh v m n t
    ∧ (∀ l, l < n → m.testBit l = true → v (25 + l) 7 + v (25 + l) 3 + v 1 1 ≤ sBh v m n t)
    ∧ (sBh v m n t = t ∨ ∃ l, l < n ∧ m.testBit l = true ∧ sBh v m n t = v (25 + l) 7 + v (25 + l) 3 + v 1 1) := by
  intro n
  induction n with
  | zero => exact ⟨Int.le_refl _, fun l hl => by omega, Or.inl rfl⟩
  | succ n ih =>
    obtain ⟨i1, i2, i3⟩ := ih
    have e : sBh v m (n + 1) t = if m.testBit n = true then zmax (sBh v m n t) (v (25 + n) 7 + v (25 + n) 3 + v 1 1) else sBh v m n t := rfl
    rw [e]
    clear e
    generalize sBh v m n t = a at i1 i2 i3
    by_cases hq : m.testBit n = true
    · rw [if_pos hq]
      have hz : a ≤ zmax a (v (25 + n) 7 + v (25 + n) 3 + v 1 1) ∧ v (25 + n) 7 + v (25 + n) 3 + v 1 1 ≤ zmax a (v (25 + n) 7 + v (25 + n) 3 + v 1 1) ∧ (zmax a (v (25 + n) 7 + v (25 + n) 3 + v 1 1) = a ∨ zmax a (v (25 + n) 7 + v (25 + n) 3 + v 1 1) = v (25 + n) 7 + v (25 + n) 3 + v 1 1) := by
        unfold zmax
        split <;> omega
      obtain ⟨z1, z2, z3⟩ := hz
      refine ⟨by omega, fun l hl hb => ?_, ?_⟩
      · by_cases e : l = n
        · rw [e]; exact z2
        · have := i2 l (by omega) hb
          omega
      · rcases z3 with z3 | z3
        · rcases i3 with i3 | ⟨l, y1, y2, y3⟩
          · exact Or.inl (z3.trans i3)
          · exact Or.inr ⟨l, by omega, y2, z3.trans y3⟩
        · exact Or.inr ⟨n, by omega, hq, z3⟩
    · rw [if_neg hq]
      refine ⟨i1, fun l hl hb => ?_, ?_⟩
      · by_cases e : l = n
        · rw [e] at hb; exact absurd hb hq
        · exact i2 l (by omega) hb
      · rcases i3 with i3 | ⟨l, y1, y2, y3⟩
        · exact Or.inl i3
        · exact Or.inr ⟨l, by omega, y2, y3⟩
end CL2
/-- whether a number has a call set -/
def awy (x : Int) (j : Nat) : Bool := (zi x).toBitVec.getLsbD j
theorem z_away {m : Nat} (hm : m < 65536) (x : Int) : ∃ m' : Nat, zand (m : Int) (zxor x (-1)) = (m' : Int) ∧ m' ≤ m ∧ ∀ j, m'.testBit j = (m.testBit j && !(awy x j)) := by
  refine ⟨((zi (m : Int)).toBitVec &&& ~~~ (zi x).toBitVec).toNat, ?_, ?_, fun j => ?_⟩
  · unfold zand zxor
    have e1 : zi ((zi x ^^^ zi (-1)).toInt) = zi x ^^^ zi (-1) := zi_of _
    rw [e1]
    have e2 : (zi (m : Int) &&& (zi x ^^^ zi (-1))).toBitVec = (zi (m : Int)).toBitVec &&& ~~~ (zi x).toBitVec := by
      rw [Int32.toBitVec_and, Int32.toBitVec_xor, m1n, BitVec.xor_allOnes]
    have hlt : ((zi (m : Int)).toBitVec &&& ~~~ (zi x).toBitVec).toNat ≤ m := by
      rw [BitVec.toNat_and, zi_bv (by omega)]
      exact Nat.and_le_left
    rw [bv_int (by rw [e2]; omega), e2]
  · rw [BitVec.toNat_and, zi_bv (by omega)]
    exact Nat.and_le_left
  · rw [BitVec.testBit_toNat, BitVec.getLsbD_and, BitVec.getLsbD_not]
    have a1 : (zi (m : Int)).toBitVec.getLsbD j = m.testBit j := by
      rw [← BitVec.testBit_toNat, zi_bv (by omega)]
    rw [a1]
    unfold awy
    by_cases hj : j < 32
    · simp [hj]
    · have : m.testBit j = false := Nat.testBit_lt_two_pow (Nat.lt_of_lt_of_le hm (show 65536 ≤ 2 ^ j from Nat.le_trans (show 65536 ≤ 2 ^ 16 from Nat.le_refl _) (Nat.pow_le_pow_right (by decide) (by omega))))
      rw [this]
      simp
theorem nct_mono {P Q : Nat → Bool} : ∀ n, (∀ k, k < n → P k = true → Q k = true) → nct P n ≤ nct Q n := by
  intro n
  induction n with
  | zero => intro _; exact Nat.le_refl _
  | succ n ih =>
    intro h
    have := ih (fun k hk => h k (by omega))
    rw [nct_s, nct_s]
    by_cases hp : P n = true
    · rw [if_pos hp, if_pos (h n (by omega) hp)]
      omega
    · rw [if_neg hp]
      split <;> omega
theorem nct_lt {P Q : Nat → Bool} : ∀ n, (∀ k, k < n → P k = true → Q k = true) → (∃ k, k < n ∧ Q k = true ∧ ¬ P k = true) → nct P n < nct Q n := by
  intro n
  induction n with
  | zero => rintro _ ⟨k, hk, _⟩; omega
  | succ n ih =>
    rintro h ⟨k, hk, q1, q2⟩
    rw [nct_s, nct_s]
    by_cases e : k = n
    · subst e
      have := nct_mono k (fun j hj => h j (by omega))
      rw [if_neg q2, if_pos q1]
      omega
    · have := ih (fun j hj => h j (by omega)) ⟨k, by omega, q1, q2⟩
      by_cases hp : P n = true
      · rw [if_pos hp, if_pos (h n (by omega) hp)]
        omega
      · rw [if_neg hp]
        split <;> omega
section CL
variable {h : zH} {A : Nat}
/-- the calls that end behind t -/
def sAft (v : Nat → Nat → Int) (t : Int) : Nat := nct (fun l => decide (v (25 + l) 5 = 1 ∧ t < v (25 + l) 7 + v (25 + l) 3 + v 1 1)) (nCl v)
theorem e4_least (hc : CV h A) {k : Nat} (hk : (k : Int) < vw h.1 A 0 7) (c x : Int) : ∀ (r i f : Nat) (t : Int), i + r = 16 → r < f → vw h.1 A 1 2 + vw h.1 A 1 1 ≤ t → t ≤ 10000 → sAft (vw h.1 A) t + i ≤ 15 → (∀ t', t' < t → ¬ Fit (vw h.1 A) (fun l => awy x l = true) k c t') →
    ∃ s, q_X4_leastStart_L9 h A (A + (25 + k)) c x (fun _ _ => some (-1)) f t (i : Int) = some s ∧ LSt (vw h.1 A) (fun l => awy x l = true) k c s := by
  have w := hc.2
  have hn := w.nC
  have hset := w.set
  have hk16 : k < 16 := by omega
  have hbk := (w.2.2.2.2.2.2.2.2 k hk).2.2.2.2.1
  intro r
  induction r with
  | zero => intro i f t q1 q2 _ _ h3 _; omega
  | succ r ih =>
    intro i f t q1 q2 h1 h2 h3 h4
    obtain ⟨f', rfl⟩ : ∃ f', f = f' + 1 := ⟨f - 1, by omega⟩
    have elast : q_X4_lastStart h A (A + (25 + k)) = some (vw h.1 A 1 0 - vw h.1 A 1 1 - vw h.1 A (25 + k) 3) := by
      unfold q_X4_lastStart
      have w1 : zw (vw h.1 A 1 0 - vw h.1 A 1 1) = vw h.1 A 1 0 - vw h.1 A 1 1 := zw_id ⟨by omega, by omega⟩
      have w2 : zw (vw h.1 A 1 0 - vw h.1 A 1 1 - vw h.1 A (25 + k) 3) = vw h.1 A 1 0 - vw h.1 A 1 1 - vw h.1 A (25 + k) 3 := by clear w1; exact zw_id ⟨by omega, by omega⟩
      rw [a_set hc, a_set hc, a_c hk16, w1, w2]
    have hi16 : ¬ (16 : Int) ≤ (i : Int) := by omega
    rw [q_X4_leastStart_L9, if_neg hi16, elast, zbp_some]
    by_cases hl : vw h.1 A 1 0 - vw h.1 A 1 1 - vw h.1 A (25 + k) 3 < t
    · rw [if_pos hl]
      refine ⟨-1, rfl, Or.inr ⟨rfl, fun t' hF => ?_⟩⟩
      by_cases q : t' < t
      · exact h4 t' q hF
      · have := hF.2.1
        omega
    · have hway : sWay (vw h.1 A) k c t < 65536 := nset_16 hn.2
      obtain ⟨m, p1, p2, p3⟩ := z_away hway x
      have hbit : ∀ l, m.testBit l = true ↔ (l < nCl (vw h.1 A) ∧ isWay (vw h.1 A) k c t l ∧ ¬ awy x l = true) := by
        intro l
        rw [p3]
        unfold sWay
        rw [nset_bit]
        simp [and_assoc]
      rw [if_neg hl, e4_way hc hk c (by omega), zbp_some]
      simp only [zlet_b]
      rw [p1]
      by_cases hm0 : m = 0
      · subst hm0
        have z0 : ((0 : Nat) : Int) = 0 := rfl
        rw [if_pos z0]
        refine ⟨t, rfl, Or.inl ⟨Fit.iff.mpr ⟨h1, by omega, fun l hl hW hw => ?_⟩, h4⟩⟩
        have := (hbit l).mpr ⟨by omega, hw, hW⟩
        simp at this
      · have hmi : ¬ (m : Int) = 0 := by omega
        have hm16 : m < 65536 := by omega
        rw [if_neg hmi]
        obtain ⟨l0, hl0⟩ : ∃ l, m.testBit l = true := by
          refine Classical.byContradiction fun z => hm0 ?_
          refine Nat.eq_of_testBit_eq (fun j => ?_)
          rw [Nat.zero_testBit]
          exact Bool.eq_false_iff.mpr (fun y => z ⟨j, y⟩)
        obtain ⟨s1, s2, s3⟩ := sBh_p (v := vw h.1 A) (m := m) (t := t) (nCl (vw h.1 A))
        have hend : ∀ l, m.testBit l = true → t < vw h.1 A (25 + l) 7 + vw h.1 A (25 + l) 3 + vw h.1 A 1 1 ∧ vw h.1 A (25 + l) 7 + vw h.1 A (25 + l) 3 + vw h.1 A 1 1 ≤ 5000 ∧ vw h.1 A (25 + l) 5 = 1 := fun l hb => by
          obtain ⟨y1, y2, y3⟩ := (hbit l).mp hb
          have ha := w.act (k := l) (by omega) y2.1
          exact ⟨y2.2.1, by omega, y2.1⟩
        have g0 := hend l0 hl0
        have g1 := s2 l0 ((hbit l0).mp hl0).1 hl0
        have hi6 : i < 1000000 := by omega
        have inner : q_X4_leastStart_L51 h A (A + (25 + k)) c x (i : Int) (m : Int) (fun x10 _ => q_X4_leastStart_L9 h A (A + (25 + k)) c x (fun _ _ => some (-1)) f' x10 (zw ((i : Int) + 1))) zF t 0 = q_X4_leastStart_L9 h A (A + (25 + k)) c x (fun _ _ => some (-1)) f' (sBh (vw h.1 A) m (nCl (vw h.1 A)) t) ((i + 1 : Nat) : Int) := by
          refine zloopS (N := nCl (vw h.1 A)) (s0 := t) (L := fun g (a : Int) j => q_X4_leastStart_L51 h A (A + (25 + k)) c x (i : Int) (m : Int) (fun x10 _ => q_X4_leastStart_L9 h A (A + (25 + k)) c x (fun _ _ => some (-1)) f' x10 (zw ((i : Int) + 1))) g a j) (kf := fun a => q_X4_leastStart_L9 h A (A + (25 + k)) c x (fun _ _ => some (-1)) f' a ((i + 1 : Nat) : Int)) (fun (a : Int) l => if m.testBit l = true then zmax a (vw h.1 A (25 + l) 7 + vw h.1 A (25 + l) 3 + vw h.1 A 1 1) else a) (by omega) (fun g a j hj => ?_) (fun g a => ?_)
          · have hj16 : j < 16 := by omega
            have hj6 : j < 1000000 := by omega
            show q_X4_leastStart_L51 h A (A + (25 + k)) c x (i : Int) (m : Int) _ (g + 1) a (j : Int) = _
            rw [q_X4_leastStart_L51]
            simp only [zlet_b]
            unfold q_X4_freeBehind
            rw [a_n7 hc, if_neg (by omega), e_isIn hm16 hj16, zbp_some, zgpos hj16, Int.toNat_natCast, a_call hc, a_c hj16, a_c hj16, a_set hc, zbp_some, zw_s hj6]
            by_cases hb : m.testBit j = true
            · have g2 := hend j hb
              have ha := w.act (k := j) (by omega) g2.2.2
              have hbu := (w.2.2.2.2.2.2.2.2 j (by omega)).2.2.2.2.1
              have w1 : zw (vw h.1 A (25 + j) 7 + vw h.1 A (25 + j) 3) = vw h.1 A (25 + j) 7 + vw h.1 A (25 + j) 3 := zw_id ⟨by omega, by omega⟩
              have w2 : zw (vw h.1 A (25 + j) 7 + vw h.1 A (25 + j) 3 + vw h.1 A 1 1) = vw h.1 A (25 + j) 7 + vw h.1 A (25 + j) 3 + vw h.1 A 1 1 := by clear w1; exact zw_id ⟨by omega, by omega⟩
              rw [if_pos hb, if_neg one0, if_pos hb, w1, w2]
            · rw [if_neg hb, if_pos rfl, if_neg hb]
          · show q_X4_leastStart_L51 h A (A + (25 + k)) c x (i : Int) (m : Int) _ (g + 1) a (nCl (vw h.1 A) : Int) = _
            rw [q_X4_leastStart_L51, a_n7 hc, if_pos (Int.le_refl _), zw_s hi6]
        rw [inner]
        generalize hT : sBh (vw h.1 A) m (nCl (vw h.1 A)) t = T at s1 s2 s3 g1
        refine ih (i + 1) f' T (by omega) (by omega) (by omega) ?_ ?_ (fun t' ht' hF => ?_)
        · rcases s3 with s3 | ⟨l, y1, y2, y3⟩
          · omega
          · have := hend l y2
            omega
        · have hlt : sAft (vw h.1 A) T < sAft (vw h.1 A) t := by
            unfold sAft
            refine nct_lt _ (fun l hl z => ?_) ⟨l0, ((hbit l0).mp hl0).1, ?_, ?_⟩
            · rw [zdec] at z ⊢
              exact ⟨z.1, by omega⟩
            · rw [zdec]; exact ⟨g0.2.2, g0.1⟩
            · rw [zdec]; intro z; omega
          omega
        · by_cases q : t' < t
          · exact h4 t' q hF
          · rcases s3 with s3 | ⟨l, y1, y2, y3⟩
            · omega
            · obtain ⟨z1, z2, z3⟩ := (hbit l).mp y2
              refine (Fit.iff.mp hF).2.2 l (by omega) z3 ⟨z2.1, by omega, ?_, z2.2.2.2⟩
              have := z2.2.2.1
              omega
theorem e4_leastStart (hc : CV h A) {k : Nat} (hk : (k : Int) < vw h.1 A 0 7) (hk5 : vw h.1 A (25 + k) 5 ≠ 1) (c x : Int) : ∃ s, q_X4_leastStart h A (A + (25 + k)) c x = some s ∧ LSt (vw h.1 A) (fun l => awy x l = true) k c s := by
  have w := hc.2
  have hn := w.nC
  have hset := w.set
  have e1 : q_X4_firstStart h A = some (vw h.1 A 1 2 + vw h.1 A 1 1) := by
    unfold q_X4_firstStart
    rw [a_set hc, a_set hc, zw_id ⟨by omega, by omega⟩]
  unfold q_X4_leastStart
  rw [e1, zbp_some]
  refine e4_least hc hk c x 16 0 zF (vw h.1 A 1 2 + vw h.1 A 1 1) (by omega) (by unfold zF; omega) (Int.le_refl _) (by omega) ?_ (fun t' ht' hF => ?_)
  · have h1 : sAft (vw h.1 A) (vw h.1 A 1 2 + vw h.1 A 1 1) < nct (fun _ => true) (nCl (vw h.1 A)) := by
      unfold sAft
      refine nct_lt _ (fun _ _ _ => rfl) ⟨k, by omega, rfl, ?_⟩
      rw [zdec]
      exact fun z => hk5 z.1
    have h2 := nct_le (P := fun _ => true) (nCl (vw h.1 A))
    omega
  · have := hF.1
    omega
end CL
theorem zfs_none {P : Nat → Bool} : ∀ (m i : Nat), (∀ k, i ≤ k → k < i + m → ¬ P k = true) → zfs P m i = none := by
  intro m
  induction m with
  | zero => intro i _; rfl
  | succ m ih =>
    intro i h
    unfold zfs
    rw [if_neg (h i (Nat.le_refl _) (by omega))]
    exact ih (i + 1) (fun k h1 h2 => h k (by omega) (by omega))
theorem zfs_some {P : Nat → Bool} : ∀ (m i : Nat), (∃ k, i ≤ k ∧ k < i + m ∧ P k = true) → ∃ k, zfs P m i = some k := by
  intro m
  induction m with
  | zero => rintro i ⟨k, h1, h2, h3⟩; omega
  | succ m ih =>
    rintro i ⟨k, h1, h2, h3⟩
    unfold zfs
    by_cases q : P i = true
    · rw [if_pos q]; exact ⟨i, rfl⟩
    · rw [if_neg q]
      have : k ≠ i := fun z => q (z ▸ h3)
      exact ih (i + 1) ⟨k, by omega, by omega, h3⟩
section ML
variable {B : Nat} {h : zH} {v : Nat → Nat → Int}
/-- the laid burst l blocks k at t -/
abbrev isBlk (v : Nat → Nat → Int) (cr sr : Nat → Int) (k : Nat) (c t : Int) (l : Nat) : Prop := cr l ≠ -1 ∧ t < sr l + v (25 + l) 3 + v 1 1 ∧ sr l < t + v (25 + k) 3 + v 1 1 ∧ (cr l = c ∨ v (25 + l) 0 = v (25 + k) 0 ∨ v (25 + l) 1 = v (25 + k) 1)
def FitR (v : Nat → Nat → Int) (cr sr : Nat → Int) (k : Nat) (c t : Int) : Prop := t + v (25 + k) 3 + v 1 1 ≤ v 1 0 ∧ ∀ l, l < nCl v → ¬ isBlk v cr sr k c t l
end ML
theorem z_awb {x : Int} {j : Nat} (hj : j < 16) : zand (zshr x (j : Int)) 1 = 0 ↔ ¬ awy x j = true := by
  have hs : ((zi (j : Int) &&& 31).toBitVec.smod 32).toNat = j := by
    have h3 : ∀ k : Nat, k < 16 → ((zi (k : Int) &&& 31).toBitVec.smod 32).toNat = k := by decide
    exact h3 j hj
  have e1 : zand (zshr x (j : Int)) 1 = ((zi x).toBitVec.sshiftRight j &&& 1#32).toInt := by
    unfold zand zshr
    rw [zi_of]
    show ((zi x >>> (zi (j : Int) &&& 31)) &&& zi 1).toBitVec.toInt = _
    rw [Int32.toBitVec_and, Int32.toBitVec_shiftRight]
    show (BitVec.sshiftRight _ _ &&& _).toInt = _
    rw [hs]
    rfl
  have e2 : ((zi x).toBitVec.sshiftRight j).getLsbD 0 = awy x j := by
    rw [BitVec.getLsbD_sshiftRight]
    unfold awy
    simp
    omega
  rw [e1, BitVec.and_one_eq_setWidth_ofBool_getLsbD, e2]
  cases awy x j
  · exact ⟨fun _ => by decide, fun _ => by decide⟩
  · exact ⟨fun z => absurd z (by decide), fun z => absurd rfl z⟩
section OPS
variable {B : Nat}
def layC (v : Nat → Nat → Int) (x : Int) : Nat → Int := fun l => if v (25 + l) 5 = 1 ∧ ¬ awy x l = true then v (25 + l) 6 else -1
def layS (v : Nat → Nat → Int) (x : Int) : Nat → Int := fun l => if v (25 + l) 5 = 1 ∧ ¬ awy x l = true then v (25 + l) 7 else -1
theorem Fit.lay {v : Nat → Nat → Int} (w : WF v) {x : Int} {k : Nat} {c t : Int} : Fit v (fun l => awy x l = true) k c t ↔ (v 1 2 + v 1 1 ≤ t ∧ FitR v (layC v x) (layS v x) k c t) := by
  have hn := w.nC
  have hb : ∀ l, l < nCl v → (isBlk v (layC v x) (layS v x) k c t l ↔ (isWay v k c t l ∧ ¬ awy x l = true)) := by
    intro l hl
    unfold layC layS
    by_cases q : v (25 + l) 5 = 1 ∧ ¬ awy x l = true
    · have ha := w.act (k := l) (by omega) q.1
      simp only [isBlk, isWay, if_pos q]
      constructor
      · rintro ⟨_, z2, z3, z4⟩
        exact ⟨⟨q.1, z2, z3, z4⟩, q.2⟩
      · rintro ⟨⟨_, z2, z3, z4⟩, _⟩
        exact ⟨by omega, z2, z3, z4⟩
    · simp only [isBlk, if_neg q]
      constructor
      · rintro ⟨z, _⟩
        exact absurd rfl z
      · rintro ⟨z, z2⟩
        exact absurd ⟨z.1, z2⟩ q
  rw [Fit.iff]
  unfold FitR
  constructor
  · rintro ⟨h1, h2, h3⟩
    exact ⟨h1, h2, fun l hl z => h3 l (by omega) ((hb l hl).mp z).2 ((hb l hl).mp z).1⟩
  · rintro ⟨h1, h2, h3⟩
    exact ⟨h1, h2, fun l hl hW z => h3 l (by omega) ((hb l (by omega)).mpr ⟨z, hW⟩)⟩
end OPS
theorem least_int {P : Int → Prop} {lo : Int} (hlo : ∀ t, P t → lo ≤ t) : ∀ (n : Nat) (t : Int), P t → t ≤ lo + (n : Int) → ∃ s, P s ∧ s ≤ t ∧ ∀ t', t' < s → ¬ P t' := by
  intro n
  induction n with
  | zero =>
    intro t ht hn
    refine ⟨t, ht, Int.le_refl _, fun t' h1 h2 => ?_⟩
    have := hlo t' h2
    omega
  | succ n ih =>
    intro t ht hn
    by_cases q : ∃ t', t' < t ∧ P t'
    · obtain ⟨t', h1, h2⟩ := q
      obtain ⟨s, s1, s2, s3⟩ := ih t' h2 (by omega)
      exact ⟨s, s1, by omega, s3⟩
    · exact ⟨t, ht, Int.le_refl _, fun t' h1 h2 => q ⟨t', h1, h2⟩⟩
theorem Fit.least {v : Nat → Nat → Int} (w : WF v) {W : Nat → Prop} {k : Nat} {c t : Int} (h : Fit v W k c t) : ∃ s, Fit v W k c s ∧ s ≤ t ∧ ∀ t', t' < s → ¬ Fit v W k c t' := by
  refine least_int (P := Fit v W k c) (lo := 1) (fun t' h' => h'.pos w) t.toNat t h ?_
  have := h.pos w
  omega
/-- where the least start may be -/
theorem Fit.cand {v : Nat → Nat → Int} {W : Nat → Prop} {k : Nat} {c s : Int} (h : Fit v W k c s) (hl : ∀ t', t' < s → ¬ Fit v W k c t') : s = v 1 2 + v 1 1 ∨ ∃ l : Nat, (l : Int) < v 0 7 ∧ v (25 + l) 5 = 1 ∧ ¬ W l ∧ s = v (25 + l) 7 + v (25 + l) 3 + v 1 1 := by
  by_cases q : s = v 1 2 + v 1 1
  · exact Or.inl q
  · right
    obtain ⟨h1, h2, h3⟩ := Fit.iff.mp h
    have hn := hl (s - 1) (by omega)
    refine Classical.byContradiction fun z => hn (Fit.iff.mpr ⟨by omega, by omega, fun l hl hW hw => ?_⟩)
    refine h3 l hl hW ⟨hw.1, ?_, ?_, hw.2.2.2⟩
    · have a := hw.2.1
      by_cases e : s = v (25 + l) 7 + v (25 + l) 3 + v 1 1
      · exact absurd ⟨l, hl, hw.1, hW, e⟩ z
      · omega
    · have := hw.2.2.1
      omega
/-- the best of the candidates below n -/
def Bst (F : Int → Prop) (n : Nat) (cand : Nat → Int) (t0 b : Int) : Prop := (b = -1 ∧ ¬ F t0 ∧ ∀ l, l < n → t0 ≤ cand l → ¬ F (cand l)) ∨ (F b ∧ b ≠ -1 ∧ (F t0 → b ≤ t0) ∧ ∀ l, l < n → t0 ≤ cand l → F (cand l) → b ≤ cand l)
theorem Bst.least {v : Nat → Nat → Int} (w : WF v) {W : Nat → Prop} {k : Nat} {c b : Int} {cand : Nat → Int} (h : Bst (Fit v W k c) (nCl v) cand (v 1 2 + v 1 1) b) (hcand : ∀ l : Nat, (l : Int) < v 0 7 → v (25 + l) 5 = 1 → ¬ W l → cand l = v (25 + l) 7 + v (25 + l) 3 + v 1 1) : LSt v W k c b := by
  have hn := w.nC
  rcases h with ⟨h1, h2, h3⟩ | ⟨h1, h2, h3, h4⟩
  · refine Or.inr ⟨h1, fun t ht => ?_⟩
    obtain ⟨s, s1, s2, s3⟩ := ht.least w
    rcases s1.cand s3 with e | ⟨l, l1, l2, l3, e⟩
    · exact h2 (e ▸ s1)
    · have ec := hcand l l1 l2 l3
      have s0 := s1.1
      exact h3 l (by omega) (by omega) (by rw [ec, ← e]; exact s1)
  · refine Or.inl ⟨h1, fun t ht hF => ?_⟩
    obtain ⟨s, s1, s2, s3⟩ := hF.least w
    rcases s1.cand s3 with e | ⟨l, l1, l2, l3, e⟩
    · have := h3 (e ▸ s1)
      omega
    · have ec := hcand l l1 l2 l3
      have s0 := s1.1
      have := h4 l (by omega) (by omega) (by rw [ec, ← e]; exact s1)
      omega
/-- one more candidate -/
theorem Bst.step {F : Int → Prop} {n : Nat} {cand : Nat → Int} {t0 b : Int} (hF : ∀ t, F t → 1 ≤ t) (h : Bst F n cand t0 b) : (cand n < t0 → Bst F (n + 1) cand t0 b) ∧ (t0 ≤ cand n → ¬ F (cand n) → Bst F (n + 1) cand t0 b) ∧ (b ≠ -1 → b ≤ cand n → Bst F (n + 1) cand t0 b) ∧ (t0 ≤ cand n → F (cand n) → (b = -1 ∨ cand n < b) → Bst F (n + 1) cand t0 (cand n)) := by
  have split : ∀ {l : Nat}, l < n + 1 → l < n ∨ l = n := fun h => by omega
  refine ⟨fun q => ?_, fun q q2 => ?_, fun q q2 => ?_, fun q q2 q3 => ?_⟩
  · rcases h with ⟨h1, h2, h3⟩ | ⟨h1, h2, h3, h4⟩
    · refine Or.inl ⟨h1, h2, fun l hl => ?_⟩
      rcases split hl with hl | rfl
      · exact h3 l hl
      · intro z; omega
    · refine Or.inr ⟨h1, h2, h3, fun l hl => ?_⟩
      rcases split hl with hl | rfl
      · exact h4 l hl
      · intro z; omega
  · rcases h with ⟨h1, h2, h3⟩ | ⟨h1, h2, h3, h4⟩
    · refine Or.inl ⟨h1, h2, fun l hl => ?_⟩
      rcases split hl with hl | rfl
      · exact h3 l hl
      · exact fun _ => q2
    · refine Or.inr ⟨h1, h2, h3, fun l hl => ?_⟩
      rcases split hl with hl | rfl
      · exact h4 l hl
      · exact fun _ z => absurd z q2
  · rcases h with ⟨h1, h2, h3⟩ | ⟨h1, h2, h3, h4⟩
    · exact absurd h1 q
    · refine Or.inr ⟨h1, h2, h3, fun l hl => ?_⟩
      rcases split hl with hl | rfl
      · exact h4 l hl
      · exact fun _ _ => q2
  · have hp := hF _ q2
    rcases h with ⟨h1, h2, h3⟩ | ⟨h1, h2, h3, h4⟩
    · refine Or.inr ⟨q2, by omega, fun z => absurd z h2, fun l hl z1 z2 => ?_⟩
      rcases split hl with hl | rfl
      · exact absurd z2 (h3 l hl z1)
      · exact Int.le_refl _
    · refine Or.inr ⟨q2, by omega, fun z => ?_, fun l hl z1 z2 => ?_⟩
      · have := h3 z
        omega
      · rcases split hl with hl | rfl
        · have := h4 l hl z1 z2
          omega
        · exact Int.le_refl _
section ML
variable {B : Nat}
theorem layS_b {v : Nat → Nat → Int} (w : WF v) {x : Int} : ∀ l, l < nCl v → -1 ≤ layS v x l ∧ layS v x l ≤ 10000 := by
  intro l hl
  have hn := w.nC
  have hset := w.set
  unfold layS
  split
  · next q =>
    have ha := w.act (k := l) (by omega) q.1
    have hbu := (w.2.2.2.2.2.2.2.2 l (by omega)).2.2.2.2.1
    omega
  · omega
def lcand (v : Nat → Nat → Int) (x : Int) (l : Nat) : Int := if layC v x l = -1 then v 1 2 + v 1 1 else layS v x l + v (25 + l) 3 + v 1 1
theorem lcand_b {v : Nat → Nat → Int} (w : WF v) {x : Int} {l : Nat} (hl : l < nCl v) : 0 ≤ lcand v x l ∧ lcand v x l ≤ 10000 := by
  have hn := w.nC
  have hset := w.set
  unfold lcand layC layS
  by_cases q : v (25 + l) 5 = 1 ∧ ¬ awy x l = true
  · have ha := w.act (k := l) (by omega) q.1
    have hbu := (w.2.2.2.2.2.2.2.2 l (by omega)).2.2.2.2.1
    rw [if_pos q, if_pos q, if_neg (by omega)]
    omega
  · rw [if_neg q, if_pos rfl]
    omega
end ML
section OPS
variable {B : Nat}
theorem lcand_e {v : Nat → Nat → Int} (w : WF v) {x : Int} : ∀ l : Nat, (l : Int) < v 0 7 → v (25 + l) 5 = 1 → ¬ (awy x l = true) → lcand v x l = v (25 + l) 7 + v (25 + l) 3 + v 1 1 := by
  intro l hl h5 ha
  have hb := w.act hl h5
  have q : v (25 + l) 5 = 1 ∧ ¬ awy x l = true := ⟨h5, ha⟩
  have e1 : layC v x l = v (25 + l) 6 := by unfold layC; rw [if_pos q]
  have e2 : layS v x l = v (25 + l) 7 := by unfold layS; rw [if_pos q]
  have e3 : ¬ v (25 + l) 6 = -1 := by omega
  unfold lcand
  rw [e1, e2, if_neg e3]
end OPS
