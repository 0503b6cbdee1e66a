/-! The queue of the class, and its length. -/
/-- the first of a set -/
def Fst (pr : Nat → Int) (m n : Nat) (b : Int) : Prop := (b = -1 ∧ ∀ k, k < n → ¬ m.testBit k = true) ∨ ∃ r : Nat, b = (r : Int) ∧ r < n ∧ m.testBit r = true ∧ ∀ k, k < n → m.testBit k = true → k ≠ r → bf pr r k
def fstep (pr : Nat → Int) (m : Nat) (b : Int) (k : Nat) : Int := if m.testBit k = true then (if b = -1 then (k : Int) else if pr k ≤ pr b.toNat then b else (k : Int)) else b
theorem Fst.step {pr : Nat → Int} {m n : Nat} {b : Int} (h : Fst pr m n b) : Fst pr m (n + 1) (fstep pr m b n) := by
  unfold fstep
  by_cases hq : m.testBit n = true
  · rw [if_pos hq]
    rcases h with ⟨h1, h2⟩ | ⟨r, h1, h2, h3, h4⟩
    · rw [if_pos h1]
      refine Or.inr ⟨n, rfl, by omega, hq, fun k hk hk2 hk3 => ?_⟩
      exact absurd hk2 (h2 k (by omega))
    · rw [if_neg (by omega), h1, Int.toNat_natCast]
      by_cases hp : pr n ≤ pr r
      · rw [if_pos hp]
        refine Or.inr ⟨r, rfl, by omega, h3, fun k hk hk2 hk3 => ?_⟩
        by_cases e : k = n
        · subst e
          unfold bf
          omega
        · exact h4 k (by omega) hk2 hk3
      · rw [if_neg hp]
        refine Or.inr ⟨n, rfl, by omega, hq, fun k hk hk2 hk3 => ?_⟩
        have h5 : bf pr n r := Or.inl (by omega)
        by_cases e : k = r
        · rw [e]; exact h5
        · exact bf_tr h5 (h4 k (by omega) hk2 e)
  · rw [if_neg hq]
    rcases h with ⟨h1, h2⟩ | ⟨r, h1, h2, h3, h4⟩
    · refine Or.inl ⟨h1, fun k hk => ?_⟩
      by_cases e : k = n
      · rw [e]; exact hq
      · exact h2 k (by omega)
    · refine Or.inr ⟨r, h1, by omega, h3, fun k hk hk2 hk3 => ?_⟩
      have e : k ≠ n := fun z => hq (z ▸ hk2)
      exact h4 k (by omega) hk2 hk3
theorem Fst.uniq {pr : Nat → Int} {m n : Nat} {b : Int} {r : Nat} (h : Fst pr m n b) (h1 : r < n) (h2 : m.testBit r = true) (h3 : ∀ k, k < n → m.testBit k = true → k ≠ r → bf pr r k) : b = (r : Int) := by
  rcases h with ⟨_, q⟩ | ⟨s, q1, q2, q3, q4⟩
  · exact absurd h2 (q r h1)
  · by_cases e : r = s
    · rw [q1, e]
    · exact absurd (h3 s q2 q3 (fun z => e z.symm)) (bf_as (q4 r h1 h2 e))
section CL
variable {h : zH} {A : Nat}
theorem e4_first (hc : CV h A) {m : Nat} (hm : m < 65536) : ∃ b, q_X4_firstInOrder h A (m : Int) = some b ∧ Fst (fun k => vw h.1 A (25 + k) 2) m (nCl (vw h.1 A)) b := by
  have hn := hc.2.nC
  have h0 : Fst (fun k => vw h.1 A (25 + k) 2) m 0 (-1) := Or.inl ⟨rfl, fun k hk => by omega⟩
  have hs : ∀ b i, i < nCl (vw h.1 A) → Fst (fun k => vw h.1 A (25 + k) 2) m i b → Fst (fun k => vw h.1 A (25 + k) 2) m (i + 1) (fstep (fun k => vw h.1 A (25 + k) 2) m b i) := fun b i _ q => q.step
  refine ⟨zit (fstep (fun k => vw h.1 A (25 + k) 2) m) (nCl (vw h.1 A)) (-1), ?_, zit_inv (fun i b => Fst (fun k => vw h.1 A (25 + k) 2) m i b) h0 _ (fun i hi x hx => hx.step)⟩
  unfold q_X4_firstInOrder
  refine zloopQ (L := fun f b i => q_X4_firstInOrder_L4 h A (m : Int) (fun x _ => some x) f b i) (kf := fun b => some b) (fstep (fun k => vw h.1 A (25 + k) 2) m) (fun i b => Fst (fun k => vw h.1 A (25 + k) 2) m i b) (by omega) h0 hs (fun f b i hi hF => ?_) (fun f b hF => ?_)
  · have hi16 : i < 16 := by omega
    show q_X4_firstInOrder_L4 h A (m : Int) _ (f + 1) b (i : Int) = _
    rw [q_X4_firstInOrder_L4]
    simp only [zlet_b]
    rw [a_n7 hc, if_neg (by omega), e_isIn hm hi16, zbp_some, zw_s (by omega)]
    unfold fstep
    by_cases hq : m.testBit i = true
    · rw [if_pos hq, if_neg one0, if_pos hq]
      rcases hF with ⟨h1, h2⟩ | ⟨r, h1, h2, h3, h4⟩
      · rw [if_pos h1, if_pos h1]
      · subst h1
        have hr : ¬ (r : Int) = -1 := by omega
        have hr16 : r < 16 := by omega
        rw [if_neg hr, if_neg hr, zgpos hi16, zgpos hr16, Int.toNat_natCast, Int.toNat_natCast, a_call hc, a_call hc, a_c hi16, a_c hr16]
        by_cases hp : vw h.1 A (25 + i) 2 ≤ vw h.1 A (25 + r) 2
        · rw [if_pos hp, if_pos hp]
        · rw [if_neg hp, if_neg hp]
    · rw [if_neg hq, if_pos rfl, if_neg hq]
  · show q_X4_firstInOrder_L4 h A (m : Int) _ (f + 1) b (nCl (vw h.1 A) : Int) = _
    rw [q_X4_firstInOrder_L4, a_n7 hc, if_pos (Int.le_refl _)]
end CL
theorem m1n : (zi (-1)).toBitVec = BitVec.allOnes 32 := by decide
/-- a set without one -/
theorem z_rem {m k : Nat} (hm : m < 65536) (hk : k < 16) : ∃ m' : Nat, zand (m : Int) (zxor (zshl 1 (k : Int)) (-1)) = (m' : Int) ∧ m' ≤ m ∧ ∀ j, m'.testBit j = (m.testBit j && decide (j ≠ k)) := by
  have hp : 2 ^ k < 2 ^ 16 := Nat.pow_lt_pow_right (by decide) hk
  have hp' : 2 ^ k < 65536 := hp
  refine ⟨((zi (m : Int)).toBitVec &&& ~~~ (zi ((2 ^ k : Nat) : Int)).toBitVec).toNat, ?_, ?_, fun j => ?_⟩
  · rw [zshl_1 k hk]
    unfold zand zxor
    have e1 : zi ((zi ((2 ^ k : Nat) : Int) ^^^ zi (-1)).toInt) = zi ((2 ^ k : Nat) : Int) ^^^ zi (-1) := zi_of _
    rw [e1]
    have e2 : (zi (m : Int) &&& (zi ((2 ^ k : Nat) : Int) ^^^ zi (-1))).toBitVec = (zi (m : Int)).toBitVec &&& ~~~ (zi ((2 ^ k : Nat) : Int)).toBitVec := by
      rw [Int32.toBitVec_and, Int32.toBitVec_xor, m1n, BitVec.xor_allOnes]
    have hlt : ((zi (m : Int)).toBitVec &&& ~~~ (zi ((2 ^ k : Nat) : Int)).toBitVec).toNat ≤ m := by
      rw [BitVec.toNat_and, zi_bv (by omega)]
      exact Nat.and_le_left
    rw [bv_int (by rw [e2]; omega), e2]
  · rw [BitVec.toNat_and, zi_bv (by omega)]
    exact Nat.and_le_left
  · rw [BitVec.testBit_toNat, BitVec.getLsbD_and, BitVec.getLsbD_not]
    have a1 : (zi (m : Int)).toBitVec.getLsbD j = m.testBit j := by
      rw [← BitVec.testBit_toNat, zi_bv (by omega)]
    have a2 : (zi ((2 ^ k : Nat) : Int)).toBitVec.getLsbD j = decide (k = j) := by
      rw [← BitVec.testBit_toNat, zi_bv (by omega), Nat.testBit_two_pow]
    rw [a1, a2]
    by_cases hj : j < 32
    · by_cases e : k = j
      · subst e
        simp [hj]
      · have e' : j ≠ k := fun z => e z.symm
        simp [hj, e, e']
    · have : m.testBit j = false := Nat.testBit_lt_two_pow (Nat.lt_of_lt_of_le hm (show 65536 ≤ 2 ^ j from Nat.le_trans (show 65536 ≤ 2 ^ 16 from Nat.le_refl _) (Nat.pow_le_pow_right (by decide) (by omega))))
      rw [this]
      simp
section OPS
variable {B : Nat}
theorem sIn_mk {v : Nat → Nat → Int} (w : WF v) (st : Nat) (hst : st < 3) : ∀ k, k < nCl v → ((fun k => decide (v (25 + k) 5 = (st : Int))) k = sMk v (2 ^ st) k) := by
  intro k hk
  have hn := w.nC
  have h5 := (w.2.2.2.2.2.2.2.2 k (by omega)).2.2.2.2.2.2.1
  unfold sMk
  obtain ⟨s, hs⟩ : ∃ s : Nat, v (25 + k) 5 = (s : Int) := ⟨(v (25 + k) 5).toNat, by omega⟩
  show decide (v (25 + k) 5 = (st : Int)) = _
  rw [hs, Int.toNat_natCast, Nat.testBit_two_pow]
  apply decide_eq_decide.mpr
  omega
theorem Enu.set {S : Nat → Bool} {pr : Nat → Int} {n c : Nat} {a : Nat → Nat} (h : Enu S pr n c a) {i m : Nat} (hi : i < c) (hm : ∀ k, k < n → (m.testBit k = true ↔ ∃ j, i ≤ j ∧ j < c ∧ a j = k)) {b : Int} (hb : Fst pr m n b) : b = (a i : Int) := by
  refine hb.uniq (h.1 i hi).1 ((hm _ (h.1 i hi).1).mpr ⟨i, Nat.le_refl _, hi, rfl⟩) (fun k hk hk2 hk3 => ?_)
  obtain ⟨j, q1, q2, q3⟩ := (hm k hk).mp hk2
  have : i ≠ j := fun z => hk3 (by rw [z]; exact q3.symm)
  rw [← q3]
  exact h.2.2.1 i j (by omega) q2
theorem Enu.inj {S : Nat → Bool} {pr : Nat → Int} {n c : Nat} {a : Nat → Nat} (h : Enu S pr n c a) {i j : Nat} (hi : i < c) (hj : j < c) (e : a i = a j) : i = j := by
  by_cases q : i = j
  · exact q
  · by_cases q2 : i < j
    · have := h.2.2.1 i j q2 hj
      rw [e] at this
      exact absurd this (bf_as this)
    · have := h.2.2.1 j i (by omega) hi
      rw [e] at this
      exact absurd this (bf_as this)
/-- taking the first of a set again and again -/
theorem e7_queued {h : zH} (hI : zInv B h) {c : Nat} {a : Nat → Nat} (hE : Enu (sMk (vw h.1 (B + 1)) 1) (fun k => vw h.1 (B + 1) (25 + k) 2) (nCl (vw h.1 (B + 1))) c a) {q : Nat} (hq : q < c) : ∀ (r i f m : Nat), i + r = q → r < f → m < 65536 → (∀ k, k < nCl (vw h.1 (B + 1)) → (m.testBit k = true ↔ ∃ j, i ≤ j ∧ j < c ∧ a j = k)) →
    q_X7_queuedAt_L25 h B (q : Int) (fun x6 _ => zbp (q_X4_firstInOrder h (h.2 B 0) x6) (fun x8 => some x8)) f (m : Int) (i : Int) = some (a q : Int) := by
  have hcv := hI.cv
  have hn := hcv.2.nC
  intro r
  induction r with
  | zero =>
    intro i f m q1 q2 hm hb
    obtain ⟨f', rfl⟩ : ∃ f', f = f' + 1 := ⟨f - 1, by omega⟩
    have e : i = q := by omega
    subst e
    obtain ⟨b, k1, k2⟩ := e4_first hcv hm
    rw [q_X7_queuedAt_L25, if_pos (by omega), hI.r0, k1, zbp_some, hE.set hq hb k2]
  | succ r ih =>
    intro i f m q1 q2 hm hb
    obtain ⟨f', rfl⟩ : ∃ f', f = f' + 1 := ⟨f - 1, by omega⟩
    obtain ⟨b, k1, k2⟩ := e4_first hcv hm
    have hai := (hE.1 i (by omega)).1
    obtain ⟨m', p1, p2, p3⟩ := z_rem hm (k := a i) (by omega)
    have k3 : q_X4_firstInOrder h (h.2 B 0) (m : Int) = some b := by rw [hI.r0]; exact k1
    have hc16 : c ≤ nCl (vw h.1 (B + 1)) := by rw [hE.2.2.2]; exact nct_le _
    have hi6 : i < 1000000 := by omega
    have hiq : ¬ (q : Int) ≤ (i : Int) := by omega
    rw [q_X7_queuedAt_L25, if_neg hiq, k3, zbp_some, hE.set (by omega) hb k2]
    simp only [zlet_b]
    rw [p1, zw_s hi6]
    refine ih (i + 1) f' m' (by omega) (by omega) (by omega) (fun k hk => ?_)
    rw [p3, Bool.and_eq_true, decide_eq_true_eq, hb k hk]
    constructor
    · rintro ⟨⟨j, z1, z2, z3⟩, z4⟩
      refine ⟨j, ?_, z2, z3⟩
      have : j ≠ i := fun z => z4 (by rw [← z3, z])
      omega
    · rintro ⟨j, z1, z2, z3⟩
      refine ⟨⟨j, by omega, z2, z3⟩, fun z => ?_⟩
      have := hE.inj (i := j) (j := i) z2 (by omega) (z3.trans z)
      omega
theorem nct_bits {P : Nat → Bool} {n : Nat} : ∀ r, nct (fun k => (nset P n).testBit k) (n + r) = nct P n := by
  intro r
  induction r with
  | zero => exact nct_congr n (fun k hk => by rw [nset_bit, decide_eq_true hk, Bool.true_and])
  | succ r ih =>
    have e : n + (r + 1) = n + r + 1 := rfl
    have hlt : ¬ n + r < n := by omega
    rw [e, nct_s, ih, if_neg]
    rw [nset_bit]
    simp [hlt]
theorem sBC_nset {P : Nat → Bool} {n : Nat} (hn : n ≤ 16) : sBC ((nset P n : Nat) : Int) = (nct P n : Int) := by
  rw [sBC_set (nset_16 hn)]
  have := nct_bits (P := P) (n := n) (16 - n)
  rw [show n + (16 - n) = 16 by omega] at this
  rw [this]
theorem op_27 : zI_27 (zInv B) B (B + 541) (B + 552) := by
  intro h hI hG
  have hcv := hI.cv
  have hn := hcv.2.nC
  have s1 : zSame B h (zput h (B + 541) 0 0) := zSame.rf.put sM0
  have hm := hI.mv.same s1
  obtain ⟨c, a, h', k1, k2, k3, k4, k5⟩ := e8_orders (m := 1) (by decide) hm
  have k1' : q_X8_orders (zput h (B + 541) 0 0) (B + 541) 1 = some ((), h') := k1
  refine ⟨h', ⟨(c : Int), ?_, ?_⟩, hI.same (s1.tr k2.same)⟩
  · unfold q_X7_queueLength q_J6_bitCount
    rw [hI.r0, e4_callsIn hcv, zbp_some]
    unfold sIn
    have e := nct_congr _ (sIn_mk hcv.2 0 (by decide))
    rw [sBC_nset hn.2, zbp_some, k3.2.2.2]
    exact congrArg (fun x : Nat => some (x : Int)) e
  · unfold q_X8_queueLength
    simp only [zlet_b]
    rw [k1', zbd_some, k5]
theorem op_26 : zI_26 (zInv B) B (B + 541) (B + 552) := by
  intro h hI hG a1 r1
  have hcv := hI.cv
  have hn := hcv.2.nC
  have s1 : zSame B h (zput h (B + 541) 0 0) := zSame.rf.put sM0
  have hm := hI.mv.same s1
  obtain ⟨c, a, h', k1, k2, k3, k4, k5⟩ := e8_orders (m := 1) (by decide) hm
  have k1' : q_X8_orders (zput h (B + 541) 0 0) (B + 541) 1 = some ((), h') := k1
  have hc : c ≤ nCl (vw h.1 (B + 1)) := by rw [k3.2.2.2]; exact nct_le _
  refine ⟨h', ⟨(if 0 ≤ a1 ∧ a1 < (c : Int) then (a a1.toNat : Int) else -1), ?_, ?_⟩, hI.same (s1.tr k2.same)⟩
  · unfold q_X7_queuedAt q_J6_bitCount
    have k3' : Enu (sMk (vw h.1 (B + 1)) 1) (fun k => vw h.1 (B + 1) (25 + k) 2) (nCl (vw h.1 (B + 1))) c a := k3
    rw [show q_X4_callsIn h (h.2 B 0) 0 = some ((sIn (vw h.1 (B + 1)) 0 : Nat) : Int) from by rw [hI.r0]; exact e4_callsIn hcv 0, zbp_some]
    have hset : sIn (vw h.1 (B + 1)) 0 < 65536 := nset_16 hn.2
    have hcount : sBC ((sIn (vw h.1 (B + 1)) 0 : Nat) : Int) = (c : Int) := by
      unfold sIn
      have e := nct_congr _ (sIn_mk hcv.2 0 (by decide))
      rw [sBC_nset hn.2, k3.2.2.2]
      exact congrArg (fun x : Nat => (x : Int)) e
    rw [hcount]
    by_cases q1 : a1 < 0
    · rw [if_pos q1, if_neg (by omega)]
    · rw [if_neg q1, zbp_some]
      by_cases q2 : a1 < (c : Int)
      · rw [if_pos q2, if_pos ⟨by omega, q2⟩]
        obtain ⟨q, rfl⟩ : ∃ q : Nat, a1 = (q : Int) := ⟨a1.toNat, by omega⟩
        rw [Int.toNat_natCast]
        refine e7_queued hI k3' (by omega) q 0 zF (sIn (vw h.1 (B + 1)) 0) (Nat.zero_add _) (by unfold zF; omega) hset (fun k hk => ?_)
        have e : (sIn (vw h.1 (B + 1)) 0).testBit k = sMk (vw h.1 (B + 1)) 1 k := by
          unfold sIn
          rw [nset_bit, decide_eq_true hk, Bool.true_and]
          exact sIn_mk hcv.2 0 (by decide) k hk
        rw [e]
        constructor
        · intro z
          obtain ⟨j, z1, z2⟩ := k3.2.1 k hk z
          exact ⟨j, Nat.zero_le _, z1, z2⟩
        · rintro ⟨j, _, z1, z2⟩
          rw [← z2]
          exact (k3.1 j z1).2
      · rw [if_neg q2, if_neg (fun z => q2 z.2)]
  · unfold q_X8_queuedAt
    simp only [zlet_b]
    rw [k1', zbd_some, k5]
    by_cases q1 : a1 < 0
    · rw [if_pos q1, if_neg (by omega)]
    · rw [if_neg q1]
      by_cases q2 : a1 < (c : Int)
      · have e7 : h'.2 (B + 541) 21 = B + 541 + 7 := by rw [k2.1]; exact hm.1 21
        obtain ⟨q, rfl⟩ : ∃ q : Nat, a1 = (q : Int) := ⟨a1.toNat, by omega⟩
        rw [if_neg (by omega), if_pos ⟨by omega, q2⟩, zgpos (by omega), Int.toNat_natCast, e7, k4 q (by omega)]
      · rw [if_pos (by omega), if_neg (fun z => q2 z.2)]
end OPS
