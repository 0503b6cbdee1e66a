/-! The least start of a waiting call. -/
section CL
variable {h : zH} {A : Nat}
/-- whether l stands in the way of k at t -/
abbrev isWay (v : Nat → Nat → Int) (k : Nat) (c t : Int) (l : Nat) : Prop := v (25 + l) 5 = 1 ∧ t < v (25 + l) 7 + v (25 + l) 3 + v 1 1 ∧ v (25 + l) 7 < t + v (25 + k) 3 + v 1 1 ∧ (v (25 + l) 6 = c ∨ v (25 + l) 0 = v (25 + k) 0 ∨ v (25 + l) 1 = v (25 + k) 1)
def sWay (v : Nat → Nat → Int) (k : Nat) (c t : Int) : Nat := nset (fun l => decide (isWay v k c t l)) (nCl v)
theorem e4_way (hc : CV h A) {k : Nat} (hk : (k : Int) < vw h.1 A 0 7) (c : Int) {t : Int} (ht : 0 ≤ t ∧ t ≤ 10000) : q_X4_callsInTheWay h A (A + (25 + k)) c t = some ((sWay (vw h.1 A) k c t : Nat) : Int) := by
  have w := hc.2
  have hn := w.nC
  have hset := w.set
  have hk16 : k < 16 := by omega
  have hbk := (w.2.2.2.2.2.2.2.2 k hk).2.2.2.2.1
  unfold q_X4_callsInTheWay
  simp only [zlet_b]
  have w1 : zw (t + vw h.1 A (25 + k) 3) = t + vw h.1 A (25 + k) 3 := zw_id ⟨by omega, by omega⟩
  have w2 : zw (t + vw h.1 A (25 + k) 3 + vw h.1 A 1 1) = t + vw h.1 A (25 + k) 3 + vw h.1 A 1 1 := by clear w1; exact zw_id ⟨by omega, by omega⟩
  rw [a_c hk16, a_set hc, w1, w2]
  clear w1 w2
  refine zsetloop (L := fun f a i => q_X4_callsInTheWay_L21 h A (A + (25 + k)) c t (t + vw h.1 A (25 + k) 3 + vw h.1 A 1 1) (fun x _ => some x) f a i) (kf := fun a => some a) (fun l => decide (isWay (vw h.1 A) k c t l)) hn.2 (fun f i hi => ?_) (fun f => ?_)
  · have hi16 : i < 16 := by omega
    have hi7 : (i : Int) < vw h.1 A 0 7 := by omega
    show q_X4_callsInTheWay_L21 h A (A + (25 + k)) c t _ _ (f + 1) _ (i : Int) = _
    rw [q_X4_callsInTheWay_L21]
    simp only [zlet_b, zdec]
    unfold q_X4_freeBehind q_X0_conflictsWith
    rw [a_n7 hc, if_neg (by omega), zgpos hi16, Int.toNat_natCast, a_call hc, a_c hi16, a_c hi16, a_c hi16, a_c hi16, a_c hi16, a_c hi16, a_c hk16, a_c hk16, a_set hc, zbp_some, zw_s (by omega)]
    by_cases h5 : vw h.1 A (25 + i) 5 = 1
    · have ha := w.act hi7 h5
      have hbu := (w.2.2.2.2.2.2.2.2 i hi7).2.2.2.2.1
      have w1 : zw (vw h.1 A (25 + i) 7 + vw h.1 A (25 + i) 3) = vw h.1 A (25 + i) 7 + vw h.1 A (25 + i) 3 := zw_id ⟨by omega, by omega⟩
      have w2 : zw (vw h.1 A (25 + i) 7 + vw h.1 A (25 + i) 3 + vw h.1 A 1 1) = vw h.1 A (25 + i) 7 + vw h.1 A (25 + i) 3 + vw h.1 A 1 1 := by clear w1; exact zw_id ⟨by omega, by omega⟩
      rw [if_pos h5, w1, w2]
      clear w1 w2
      by_cases q1 : vw h.1 A (25 + i) 7 + vw h.1 A (25 + i) 3 + vw h.1 A 1 1 ≤ t
      · rw [if_pos q1, if_neg (fun z => by have := z.2.1; omega)]
      · rw [if_neg q1]
        by_cases q2 : t + vw h.1 A (25 + k) 3 + vw h.1 A 1 1 ≤ vw h.1 A (25 + i) 7
        · rw [if_pos q2, if_neg (fun z => by have := z.2.2.1; omega)]
        · rw [if_neg q2]
          by_cases q6 : vw h.1 A (25 + i) 6 = c
          · rw [if_pos q6, zbp_some, if_neg one0, if_pos ⟨h5, by omega, by omega, Or.inl q6⟩]
          · rw [if_neg q6]
            by_cases q0 : vw h.1 A (25 + i) 0 = vw h.1 A (25 + k) 0
            · rw [if_pos q0, zbp_some, if_neg one0, if_pos ⟨h5, by omega, by omega, Or.inr (Or.inl q0)⟩]
            · rw [if_neg q0]
              by_cases q9 : vw h.1 A (25 + i) 1 = vw h.1 A (25 + k) 1
              · rw [if_pos q9, zbp_some, if_neg one0, if_pos ⟨h5, by omega, by omega, Or.inr (Or.inr q9)⟩]
              · rw [if_neg q9, zbp_some, if_pos rfl, if_neg (fun z => z.2.2.2.elim q6 (fun y => y.elim q0 q9))]
    · rw [if_neg h5, if_neg (fun z => h5 z.1)]
  · show q_X4_callsInTheWay_L21 h A (A + (25 + k)) c t _ _ (f + 1) _ (nCl (vw h.1 A) : Int) = _
    rw [q_X4_callsInTheWay_L21, a_n7 hc, if_pos (Int.le_refl _)]
/-- the least start, or -1 -/
def LSt (v : Nat → Nat → Int) (W : Nat → Prop) (k : Nat) (c r : Int) : Prop := (Fit v W k c r ∧ ∀ t, t < r → ¬ Fit v W k c t) ∨ (r = -1 ∧ ∀ t, ¬ Fit v W k c t)
theorem Fit.pos {v : Nat → Nat → Int} {W : Nat → Prop} {k : Nat} {c t : Int} (w : WF v) (h : Fit v W k c t) : 1 ≤ t := by
  have := w.set
  have := h.1
  omega
theorem LSt.uniq {v : Nat → Nat → Int} {W : Nat → Prop} {k : Nat} {c r s : Int} (hr : LSt v W k c r) (hs : LSt v W k c s) : r = s := by
  rcases hr with ⟨a1, a2⟩ | ⟨a1, a2⟩ <;> rcases hs with ⟨b1, b2⟩ | ⟨b1, b2⟩
  · by_cases q : r < s
    · exact absurd a1 (b2 r q)
    · by_cases q2 : s < r
      · exact absurd b1 (a2 s q2)
      · omega
  · exact absurd a1 (b2 r)
  · exact absurd b1 (a2 s)
  · rw [a1, b1]
theorem Fit.iff {v : Nat → Nat → Int} {W : Nat → Prop} {k : Nat} {c t : Int} : Fit v W k c t ↔ (v 1 2 + v 1 1 ≤ t ∧ t + v (25 + k) 3 + v 1 1 ≤ v 1 0 ∧ ∀ l : Nat, (l : Int) < v 0 7 → ¬ W l → ¬ isWay v k c t l) := by
  unfold Fit isWay cfl
  constructor
  · rintro ⟨h1, h2, h3⟩
    exact ⟨h1, h2, fun l hl hw ⟨q1, q2, q3, q4⟩ => h3 l hl q1 hw q4 ⟨q2, q3⟩⟩
  · rintro ⟨h1, h2, h3⟩
    exact ⟨h1, h2, fun l hl q1 hw q4 ⟨q2, q3⟩ => h3 l hl hw ⟨q1, q2, q3, q4⟩⟩
end CL
section CL2
variable {h : zH} {A : Nat}
theorem nset_zero {P : Nat → Bool} : ∀ n, nset P n = 0 → ∀ k, k < n → ¬ P k = true := by
  intro n h0 k hk hp
  have := nset_bit (P := P) (k := k) n
  rw [h0, decide_eq_true hk, hp] at this
  simp at this
/-- a set without another -/
theorem z_without {m q : Nat} (hm : m < 65536) (hq : q < 65536) : ∃ m' : Nat, zand (m : Int) (zxor (q : Int) (-1)) = (m' : Int) ∧ m' ≤ m ∧ ∀ j, m'.testBit j = (m.testBit j && !(q.testBit j)) := by
  refine ⟨((zi (m : Int)).toBitVec &&& ~~~ (zi (q : Int)).toBitVec).toNat, ?_, ?_, fun j => ?_⟩
  · unfold zand zxor
    have e1 : zi ((zi (q : Int) ^^^ zi (-1)).toInt) = zi (q : Int) ^^^ zi (-1) := zi_of _
    rw [e1]
    have e2 : (zi (m : Int) &&& (zi (q : Int) ^^^ zi (-1))).toBitVec = (zi (m : Int)).toBitVec &&& ~~~ (zi (q : Int)).toBitVec := by
      rw [Int32.toBitVec_and, Int32.toBitVec_xor, m1n, BitVec.xor_allOnes]
    have hlt : ((zi (m : Int)).toBitVec &&& ~~~ (zi (q : Int)).toBitVec).toNat ≤ m := by
      rw [BitVec.toNat_and, zi_bv (by omega)]
      exact Nat.and_le_left
    rw [bv_int (by rw [e2]; omega), e2]
  · rw [BitVec.toNat_and, zi_bv (by omega)]
    exact Nat.and_le_left
  · rw [BitVec.testBit_toNat, BitVec.getLsbD_and, BitVec.getLsbD_not]
    have a1 : (zi (m : Int)).toBitVec.getLsbD j = m.testBit j := by
      rw [← BitVec.testBit_toNat, zi_bv (by omega)]
    have a2 : (zi (q : Int)).toBitVec.getLsbD j = q.testBit j := by
      rw [← BitVec.testBit_toNat, zi_bv (by omega)]
    rw [a1, a2]
    by_cases hj : j < 32
    · simp [hj]
    · have : m.testBit j = false := Nat.testBit_lt_two_pow (Nat.lt_of_lt_of_le hm (show 65536 ≤ 2 ^ j from Nat.le_trans (show 65536 ≤ 2 ^ 16 from Nat.le_refl _) (Nat.pow_le_pow_right (by decide) (by omega))))
      rw [this]
      simp
/-- behind the last of a set -/
def sBh (v : Nat → Nat → Int) (m : Nat) (n : Nat) (t : Int) : Int := zit (fun (a : Int) l => if m.testBit l = true then zmax a (v (25 + l) 7 + v (25 + l) 3 + v 1 1) else a) n t
theorem sBh_p {v : Nat → Nat → Int} {m : Nat} {t : Int} : ∀ n, t ≤ sBh v m n t
    ∧ (∀ l, l < n → m.testBit l = true → v (25 + l) 7 + v (25 + l) 3 + v 1 1 ≤ sBh v m n t)
    ∧ (sBh v m n t = t ∨ ∃ l, l < n ∧ m.testBit l = true ∧ sBh v m n t = v (25 + l) 7 + v (25 + l) 3 + v 1 1) := by
  intro n
  induction n with
  | zero => exact ⟨Int.le_refl _, fun l hl => by omega, Or.inl rfl⟩
  | succ n ih =>
    obtain ⟨i1, i2, i3⟩ := ih
    have e : sBh v m (n + 1) t = if m.testBit n = true then zmax (sBh v m n t) (v (25 + n) 7 + v (25 + n) 3 + v 1 1) else sBh v m n t := rfl
    rw [e]
    clear e
    generalize sBh v m n t = a at i1 i2 i3
    by_cases hq : m.testBit n = true
    · rw [if_pos hq]
      have hz : a ≤ zmax a (v (25 + n) 7 + v (25 + n) 3 + v 1 1) ∧ v (25 + n) 7 + v (25 + n) 3 + v 1 1 ≤ zmax a (v (25 + n) 7 + v (25 + n) 3 + v 1 1) ∧ (zmax a (v (25 + n) 7 + v (25 + n) 3 + v 1 1) = a ∨ zmax a (v (25 + n) 7 + v (25 + n) 3 + v 1 1) = v (25 + n) 7 + v (25 + n) 3 + v 1 1) := by
        unfold zmax
        split <;> omega
      obtain ⟨z1, z2, z3⟩ := hz
      refine ⟨by omega, fun l hl hb => ?_, ?_⟩
      · by_cases e : l = n
        · rw [e]; exact z2
        · have := i2 l (by omega) hb
          omega
      · rcases z3 with z3 | z3
        · rcases i3 with i3 | ⟨l, y1, y2, y3⟩
          · exact Or.inl (z3.trans i3)
          · exact Or.inr ⟨l, by omega, y2, z3.trans y3⟩
        · exact Or.inr ⟨n, by omega, hq, z3⟩
    · rw [if_neg hq]
      refine ⟨i1, fun l hl hb => ?_, ?_⟩
      · by_cases e : l = n
        · rw [e] at hb; exact absurd hb hq
        · exact i2 l (by omega) hb
      · rcases i3 with i3 | ⟨l, y1, y2, y3⟩
        · exact Or.inl i3
        · exact Or.inr ⟨l, by omega, y2, y3⟩
end CL2
