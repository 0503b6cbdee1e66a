/-! The least start of a waiting call, found in rounds. -/
/-- whether a number has a call set -/
def awy (x : Int) (j : Nat) : Bool := (zi x).toBitVec.getLsbD j
theorem z_away {m : Nat} (hm : m < 65536) (x : Int) : ∃ m' : Nat, zand (m : Int) (zxor x (-1)) = (m' : Int) ∧ m' ≤ m ∧ ∀ j, m'.testBit j = (m.testBit j && !(awy x j)) := by
  refine ⟨((zi (m : Int)).toBitVec &&& ~~~ (zi x).toBitVec).toNat, ?_, ?_, fun j => ?_⟩
  · unfold zand zxor
    have e1 : zi ((zi x ^^^ zi (-1)).toInt) = zi x ^^^ zi (-1) := zi_of _
    rw [e1]
    have e2 : (zi (m : Int) &&& (zi x ^^^ zi (-1))).toBitVec = (zi (m : Int)).toBitVec &&& ~~~ (zi x).toBitVec := by
      rw [Int32.toBitVec_and, Int32.toBitVec_xor, m1n, BitVec.xor_allOnes]
    have hlt : ((zi (m : Int)).toBitVec &&& ~~~ (zi x).toBitVec).toNat ≤ m := by
      rw [BitVec.toNat_and, zi_bv (by omega)]
      exact Nat.and_le_left
    rw [bv_int (by rw [e2]; omega), e2]
  · rw [BitVec.toNat_and, zi_bv (by omega)]
    exact Nat.and_le_left
  · rw [BitVec.testBit_toNat, BitVec.getLsbD_and, BitVec.getLsbD_not]
    have a1 : (zi (m : Int)).toBitVec.getLsbD j = m.testBit j := by
      rw [← BitVec.testBit_toNat, zi_bv (by omega)]
    rw [a1]
    unfold awy
    by_cases hj : j < 32
    · simp [hj]
    · have : m.testBit j = false := Nat.testBit_lt_two_pow (Nat.lt_of_lt_of_le hm (show 65536 ≤ 2 ^ j from Nat.le_trans (show 65536 ≤ 2 ^ 16 from Nat.le_refl _) (Nat.pow_le_pow_right (by decide) (by omega))))
      rw [this]
      simp
theorem nct_mono {P Q : Nat → Bool} : ∀ n, (∀ k, k < n → P k = true → Q k = true) → nct P n ≤ nct Q n := by
  intro n
  induction n with
  | zero => intro _; exact Nat.le_refl _
  | succ n ih =>
    intro h
    have := ih (fun k hk => h k (by omega))
    rw [nct_s, nct_s]
    by_cases hp : P n = true
    · rw [if_pos hp, if_pos (h n (by omega) hp)]
      omega
    · rw [if_neg hp]
      split <;> omega
theorem nct_lt {P Q : Nat → Bool} : ∀ n, (∀ k, k < n → P k = true → Q k = true) → (∃ k, k < n ∧ Q k = true ∧ ¬ P k = true) → nct P n < nct Q n := by
  intro n
  induction n with
  | zero => rintro _ ⟨k, hk, _⟩; omega
  | succ n ih =>
    rintro h ⟨k, hk, q1, q2⟩
    rw [nct_s, nct_s]
    by_cases e : k = n
    · subst e
      have := nct_mono k (fun j hj => h j (by omega))
      rw [if_neg q2, if_pos q1]
      omega
    · have := ih (fun j hj => h j (by omega)) ⟨k, by omega, q1, q2⟩
      by_cases hp : P n = true
      · rw [if_pos hp, if_pos (h n (by omega) hp)]
        omega
      · rw [if_neg hp]
        split <;> omega
section CL
variable {h : zH} {A : Nat}
/-- the calls that end behind t -/
def sAft (v : Nat → Nat → Int) (t : Int) : Nat := nct (fun l => decide (v (25 + l) 5 = 1 ∧ t < v (25 + l) 7 + v (25 + l) 3 + v 1 1)) (nCl v)
theorem e4_least (hc : CV h A) {k : Nat} (hk : (k : Int) < vw h.1 A 0 7) (c x : Int) : ∀ (r i f : Nat) (t : Int), i + r = 16 → r < f → vw h.1 A 1 2 + vw h.1 A 1 1 ≤ t → t ≤ 10000 → sAft (vw h.1 A) t + i ≤ 15 → (∀ t', t' < t → ¬ Fit (vw h.1 A) (fun l => awy x l = true) k c t') →
    ∃ s, q_X4_leastStart_L9 h A (A + (25 + k)) c x (fun _ _ => some (-1)) f t (i : Int) = some s ∧ LSt (vw h.1 A) (fun l => awy x l = true) k c s := by
  have w := hc.2
  have hn := w.nC
  have hset := w.set
  have hk16 : k < 16 := by omega
  have hbk := (w.2.2.2.2.2.2.2.2 k hk).2.2.2.2.1
  intro r
  induction r with
  | zero => intro i f t q1 q2 _ _ h3 _; omega
  | succ r ih =>
    intro i f t q1 q2 h1 h2 h3 h4
    obtain ⟨f', rfl⟩ : ∃ f', f = f' + 1 := ⟨f - 1, by omega⟩
    have elast : q_X4_lastStart h A (A + (25 + k)) = some (vw h.1 A 1 0 - vw h.1 A 1 1 - vw h.1 A (25 + k) 3) := by
      unfold q_X4_lastStart
      have w1 : zw (vw h.1 A 1 0 - vw h.1 A 1 1) = vw h.1 A 1 0 - vw h.1 A 1 1 := zw_id ⟨by omega, by omega⟩
      have w2 : zw (vw h.1 A 1 0 - vw h.1 A 1 1 - vw h.1 A (25 + k) 3) = vw h.1 A 1 0 - vw h.1 A 1 1 - vw h.1 A (25 + k) 3 := by clear w1; exact zw_id ⟨by omega, by omega⟩
      rw [a_set hc, a_set hc, a_c hk16, w1, w2]
    have hi16 : ¬ (16 : Int) ≤ (i : Int) := by omega
    rw [q_X4_leastStart_L9, if_neg hi16, elast, zbp_some]
    by_cases hl : vw h.1 A 1 0 - vw h.1 A 1 1 - vw h.1 A (25 + k) 3 < t
    · rw [if_pos hl]
      refine ⟨-1, rfl, Or.inr ⟨rfl, fun t' hF => ?_⟩⟩
      by_cases q : t' < t
      · exact h4 t' q hF
      · have := hF.2.1
        omega
    · have hway : sWay (vw h.1 A) k c t < 65536 := nset_16 hn.2
      obtain ⟨m, p1, p2, p3⟩ := z_away hway x
      have hbit : ∀ l, m.testBit l = true ↔ (l < nCl (vw h.1 A) ∧ isWay (vw h.1 A) k c t l ∧ ¬ awy x l = true) := by
        intro l
        rw [p3]
        unfold sWay
        rw [nset_bit]
        simp [and_assoc]
      rw [if_neg hl, e4_way hc hk c (by omega), zbp_some]
      simp only [zlet_b]
      rw [p1]
      by_cases hm0 : m = 0
      · subst hm0
        have z0 : ((0 : Nat) : Int) = 0 := rfl
        rw [if_pos z0]
        refine ⟨t, rfl, Or.inl ⟨Fit.iff.mpr ⟨h1, by omega, fun l hl hW hw => ?_⟩, h4⟩⟩
        have := (hbit l).mpr ⟨by omega, hw, hW⟩
        simp at this
      · have hmi : ¬ (m : Int) = 0 := by omega
        have hm16 : m < 65536 := by omega
        rw [if_neg hmi]
        obtain ⟨l0, hl0⟩ : ∃ l, m.testBit l = true := by
          refine Classical.byContradiction fun z => hm0 ?_
          refine Nat.eq_of_testBit_eq (fun j => ?_)
          rw [Nat.zero_testBit]
          exact Bool.eq_false_iff.mpr (fun y => z ⟨j, y⟩)
        obtain ⟨s1, s2, s3⟩ := sBh_p (v := vw h.1 A) (m := m) (t := t) (nCl (vw h.1 A))
        have hend : ∀ l, m.testBit l = true → t < vw h.1 A (25 + l) 7 + vw h.1 A (25 + l) 3 + vw h.1 A 1 1 ∧ vw h.1 A (25 + l) 7 + vw h.1 A (25 + l) 3 + vw h.1 A 1 1 ≤ 5000 ∧ vw h.1 A (25 + l) 5 = 1 := fun l hb => by
          obtain ⟨y1, y2, y3⟩ := (hbit l).mp hb
          have ha := w.act (k := l) (by omega) y2.1
          exact ⟨y2.2.1, by omega, y2.1⟩
        have g0 := hend l0 hl0
        have g1 := s2 l0 ((hbit l0).mp hl0).1 hl0
        have hi6 : i < 1000000 := by omega
        have inner : q_X4_leastStart_L51 h A (A + (25 + k)) c x (i : Int) (m : Int) (fun x10 _ => q_X4_leastStart_L9 h A (A + (25 + k)) c x (fun _ _ => some (-1)) f' x10 (zw ((i : Int) + 1))) zF t 0 = q_X4_leastStart_L9 h A (A + (25 + k)) c x (fun _ _ => some (-1)) f' (sBh (vw h.1 A) m (nCl (vw h.1 A)) t) ((i + 1 : Nat) : Int) := by
          refine zloopS (N := nCl (vw h.1 A)) (s0 := t) (L := fun g (a : Int) j => q_X4_leastStart_L51 h A (A + (25 + k)) c x (i : Int) (m : Int) (fun x10 _ => q_X4_leastStart_L9 h A (A + (25 + k)) c x (fun _ _ => some (-1)) f' x10 (zw ((i : Int) + 1))) g a j) (kf := fun a => q_X4_leastStart_L9 h A (A + (25 + k)) c x (fun _ _ => some (-1)) f' a ((i + 1 : Nat) : Int)) (fun (a : Int) l => if m.testBit l = true then zmax a (vw h.1 A (25 + l) 7 + vw h.1 A (25 + l) 3 + vw h.1 A 1 1) else a) (by omega) (fun g a j hj => ?_) (fun g a => ?_)
          · have hj16 : j < 16 := by omega
            have hj6 : j < 1000000 := by omega
            show q_X4_leastStart_L51 h A (A + (25 + k)) c x (i : Int) (m : Int) _ (g + 1) a (j : Int) = _
            rw [q_X4_leastStart_L51]
            simp only [zlet_b]
            unfold q_X4_freeBehind
            rw [a_n7 hc, if_neg (by omega), e_isIn hm16 hj16, zbp_some, zgpos hj16, Int.toNat_natCast, a_call hc, a_c hj16, a_c hj16, a_set hc, zbp_some, zw_s hj6]
            by_cases hb : m.testBit j = true
            · have g2 := hend j hb
              have ha := w.act (k := j) (by omega) g2.2.2
              have hbu := (w.2.2.2.2.2.2.2.2 j (by omega)).2.2.2.2.1
              have w1 : zw (vw h.1 A (25 + j) 7 + vw h.1 A (25 + j) 3) = vw h.1 A (25 + j) 7 + vw h.1 A (25 + j) 3 := zw_id ⟨by omega, by omega⟩
              have w2 : zw (vw h.1 A (25 + j) 7 + vw h.1 A (25 + j) 3 + vw h.1 A 1 1) = vw h.1 A (25 + j) 7 + vw h.1 A (25 + j) 3 + vw h.1 A 1 1 := by clear w1; exact zw_id ⟨by omega, by omega⟩
              rw [if_pos hb, if_neg one0, if_pos hb, w1, w2]
            · rw [if_neg hb, if_pos rfl, if_neg hb]
          · show q_X4_leastStart_L51 h A (A + (25 + k)) c x (i : Int) (m : Int) _ (g + 1) a (nCl (vw h.1 A) : Int) = _
            rw [q_X4_leastStart_L51, a_n7 hc, if_pos (Int.le_refl _), zw_s hi6]
        rw [inner]
        generalize hT : sBh (vw h.1 A) m (nCl (vw h.1 A)) t = T at s1 s2 s3 g1
        refine ih (i + 1) f' T (by omega) (by omega) (by omega) ?_ ?_ (fun t' ht' hF => ?_)
        · rcases s3 with s3 | ⟨l, y1, y2, y3⟩
          · omega
          · have := hend l y2
            omega
        · have hlt : sAft (vw h.1 A) T < sAft (vw h.1 A) t := by
            unfold sAft
            refine nct_lt _ (fun l hl z => ?_) ⟨l0, ((hbit l0).mp hl0).1, ?_, ?_⟩
            · rw [zdec] at z ⊢
              exact ⟨z.1, by omega⟩
            · rw [zdec]; exact ⟨g0.2.2, g0.1⟩
            · rw [zdec]; intro z; omega
          omega
        · by_cases q : t' < t
          · exact h4 t' q hF
          · rcases s3 with s3 | ⟨l, y1, y2, y3⟩
            · omega
            · obtain ⟨z1, z2, z3⟩ := (hbit l).mp y2
              refine (Fit.iff.mp hF).2.2 l (by omega) z3 ⟨z2.1, by omega, ?_, z2.2.2.2⟩
              have := z2.2.2.1
              omega
theorem e4_leastStart (hc : CV h A) {k : Nat} (hk : (k : Int) < vw h.1 A 0 7) (hk5 : vw h.1 A (25 + k) 5 ≠ 1) (c x : Int) : ∃ s, q_X4_leastStart h A (A + (25 + k)) c x = some s ∧ LSt (vw h.1 A) (fun l => awy x l = true) k c s := by
  have w := hc.2
  have hn := w.nC
  have hset := w.set
  have e1 : q_X4_firstStart h A = some (vw h.1 A 1 2 + vw h.1 A 1 1) := by
    unfold q_X4_firstStart
    rw [a_set hc, a_set hc, zw_id ⟨by omega, by omega⟩]
  unfold q_X4_leastStart
  rw [e1, zbp_some]
  refine e4_least hc hk c x 16 0 zF (vw h.1 A 1 2 + vw h.1 A 1 1) (by omega) (by unfold zF; omega) (Int.le_refl _) (by omega) ?_ (fun t' ht' hF => ?_)
  · have h1 : sAft (vw h.1 A) (vw h.1 A 1 2 + vw h.1 A 1 1) < nct (fun _ => true) (nCl (vw h.1 A)) := by
      unfold sAft
      refine nct_lt _ (fun _ _ _ => rfl) ⟨k, by omega, rfl, ?_⟩
      rw [zdec]
      exact fun z => hk5 z.1
    have h2 := nct_le (P := fun _ => true) (nCl (vw h.1 A))
    omega
  · have := hF.1
    omega
end CL
