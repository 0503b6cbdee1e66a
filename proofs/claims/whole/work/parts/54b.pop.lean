/-! How many calls a set holds. -/
theorem zushr_nat {m k : Nat} (hm : m < 2147483648) (hk : k < 32) : zushr (m : Int) (k : Int) = ((m >>> k : Nat) : Int) := by
  have h3 : ∀ k : Nat, k < 32 → ((zi (k : Int)).toUInt32 &&& Int32.toUInt32 31).toBitVec.toNat = k := by decide
  have hlt : m >>> k < 2147483648 := Nat.lt_of_le_of_lt (Nat.shiftRight_le _ _) hm
  have e : (((zi (m : Int)).toUInt32 >>> ((zi (k : Int)).toUInt32 &&& Int32.toUInt32 31)).toInt32).toBitVec.toNat = m >>> k := by
    show ((zi (m : Int)).toUInt32 >>> ((zi (k : Int)).toUInt32 &&& Int32.toUInt32 31)).toBitVec.toNat = m >>> k
    rw [UInt32.toBitVec_shiftRight]
    have h4 := h3 k hk
    generalize ((zi (k : Int)).toUInt32 &&& Int32.toUInt32 31).toBitVec = y at h4
    rw [show (zi (m : Int)).toUInt32.toBitVec >>> (y % 32) = (zi (m : Int)).toUInt32.toBitVec >>> (y % 32).toNat from rfl, BitVec.toNat_ushiftRight, BitVec.toNat_umod, h4]
    have h5 : (zi (m : Int)).toUInt32.toBitVec.toNat = m := zi_bv (by omega)
    rw [h5]
    show m >>> (k % 32) = _
    rw [Nat.mod_eq_of_lt hk]
  unfold zushr
  rw [bv_int (by rw [e]; exact hlt), e]
/-- the count of bits, in natural numbers -/
def popN (m : Nat) : Nat :=
  let a := m - (m >>> 1 &&& 1431655765)
  let b := (a &&& 858993459) + (a >>> 2 &&& 858993459)
  let c := (b + b >>> 4) &&& 252645135
  let d := c + c >>> 8
  let f := d + d >>> 16
  f &&& 63
theorem sBC_nat {m : Nat} (hm : m < 65536) : sBC (m : Int) = (popN m : Int) := by
  have k1 : m >>> 1 &&& 1431655765 ≤ m := Nat.le_trans Nat.and_le_left (Nat.shiftRight_le _ _)
  have e1 : zw ((m : Int) - zand (zushr (m : Int) 1) 1431655765) = ((m - (m >>> 1 &&& 1431655765) : Nat) : Int) := by
    have z1 : zushr (m : Int) 1 = ((m >>> 1 : Nat) : Int) := zushr_nat (k := 1) (by omega) (by decide)
    have z2 : zand ((m >>> 1 : Nat) : Int) 1431655765 = ((m >>> 1 &&& 1431655765 : Nat) : Int) := zand_nat (n := 1431655765) (Nat.lt_of_le_of_lt (Nat.shiftRight_le _ _) (by omega)) (by decide)
    rw [z1, z2]
    clear z1 z2
    rw [zw_id ⟨by omega, by omega⟩]
    omega
  have step : ∀ x y : Nat, x < 1000000 → y < 1000000 → zw ((x : Int) + (y : Int)) = ((x + y : Nat) : Int) := fun x y hx hy => by
    rw [zw_id ⟨by omega, by omega⟩]
    omega
  have hand : ∀ x n : Nat, x < 1000000 → n < 2147483648 → zand (x : Int) (n : Int) = ((x &&& n : Nat) : Int) := fun x n hx hn => zand_nat (by omega) hn
  have hus : ∀ x k : Nat, x < 1000000 → k < 32 → zushr (x : Int) (k : Int) = ((x >>> k : Nat) : Int) := fun x k hx hk => zushr_nat (by omega) hk
  have la : ∀ x n : Nat, x &&& n ≤ x := fun x n => Nat.and_le_left
  have ls : ∀ x n : Nat, x >>> n ≤ x := fun x n => Nat.shiftRight_le _ _
  unfold sBC popN
  simp only []
  rw [e1]
  clear e1
  have ha : m - (m >>> 1 &&& 1431655765) < 65536 := by omega
  generalize m - (m >>> 1 &&& 1431655765) = a at ha
  have a1 := la a 858993459
  have a2 := la (a >>> 2) 858993459
  have a3 := ls a 2
  have e2 : zw (zand (a : Int) 858993459 + zand (zushr (a : Int) 2) 858993459) = (((a &&& 858993459) + (a >>> 2 &&& 858993459) : Nat) : Int) := by
    have y1 : zand (a : Int) 858993459 = ((a &&& 858993459 : Nat) : Int) := hand a 858993459 (by omega) (by decide)
    have y2 : zushr (a : Int) 2 = ((a >>> 2 : Nat) : Int) := hus a 2 (by omega) (by decide)
    have y3 : zand ((a >>> 2 : Nat) : Int) 858993459 = ((a >>> 2 &&& 858993459 : Nat) : Int) := hand (a >>> 2) 858993459 (by omega) (by decide)
    rw [y1, y2, y3, step _ _ (by clear y1 y2 y3; omega) (by clear y1 y2 y3; omega)]
  rw [e2]
  clear e2
  have hb : (a &&& 858993459) + (a >>> 2 &&& 858993459) < 140000 := by omega
  generalize (a &&& 858993459) + (a >>> 2 &&& 858993459) = b at hb
  have b1 := ls b 4
  have b2 := la (b + b >>> 4) 252645135
  have e3 : zand (zw ((b : Int) + zushr (b : Int) 4)) 252645135 = ((b + b >>> 4 &&& 252645135 : Nat) : Int) := by
    have y1 : zushr (b : Int) 4 = ((b >>> 4 : Nat) : Int) := hus b 4 (by omega) (by decide)
    rw [y1, step _ _ (by clear y1; omega) (by clear y1; omega)]
    exact hand _ 252645135 (by clear y1; omega) (by decide)
  rw [e3]
  clear e3
  have hc : b + b >>> 4 &&& 252645135 < 280000 := by omega
  generalize b + b >>> 4 &&& 252645135 = c at hc
  have c1 := ls c 8
  have e4 : zw ((c : Int) + zushr (c : Int) 8) = ((c + c >>> 8 : Nat) : Int) := by
    have y1 : zushr (c : Int) 8 = ((c >>> 8 : Nat) : Int) := hus c 8 (by omega) (by decide)
    rw [y1, step _ _ (by clear y1; omega) (by clear y1; omega)]
  rw [e4]
  clear e4
  have hd : c + c >>> 8 < 560000 := by omega
  generalize c + c >>> 8 = d at hd
  have d1 := ls d 16
  have y1 : zushr (d : Int) 16 = ((d >>> 16 : Nat) : Int) := hus d 16 (by omega) (by decide)
  rw [y1, step _ _ (by clear y1; omega) (by clear y1; omega)]
  exact hand _ 63 (by clear y1; omega) (by decide)
def pOk (i : Nat) : Prop := ∀ a, a < 8 → ∀ b, b < 256 → (popN (2 * (2048 * i + 256 * a + b)) = popN (2048 * i + 256 * a + b) ∧ popN (2 * (2048 * i + 256 * a + b) + 1) = popN (2048 * i + 256 * a + b) + 1)
theorem pOk_0 : pOk 0 := by unfold pOk; decide +kernel
theorem pOk_1 : pOk 1 := by unfold pOk; decide +kernel
theorem pOk_2 : pOk 2 := by unfold pOk; decide +kernel
theorem pOk_3 : pOk 3 := by unfold pOk; decide +kernel
theorem pOk_4 : pOk 4 := by unfold pOk; decide +kernel
theorem pOk_5 : pOk 5 := by unfold pOk; decide +kernel
theorem pOk_6 : pOk 6 := by unfold pOk; decide +kernel
theorem pOk_7 : pOk 7 := by unfold pOk; decide +kernel
theorem pOk_8 : pOk 8 := by unfold pOk; decide +kernel
theorem pOk_9 : pOk 9 := by unfold pOk; decide +kernel
theorem pOk_10 : pOk 10 := by unfold pOk; decide +kernel
theorem pOk_11 : pOk 11 := by unfold pOk; decide +kernel
theorem pOk_12 : pOk 12 := by unfold pOk; decide +kernel
theorem pOk_13 : pOk 13 := by unfold pOk; decide +kernel
theorem pOk_14 : pOk 14 := by unfold pOk; decide +kernel
theorem pOk_15 : pOk 15 := by unfold pOk; decide +kernel
theorem pOk_all : ∀ i, i < 16 → pOk i := by
  intro i hi
  obtain rfl | rfl | rfl | rfl | rfl | rfl | rfl | rfl | rfl | rfl | rfl | rfl | rfl | rfl | rfl | rfl : i = 0 ∨ i = 1 ∨ i = 2 ∨ i = 3 ∨ i = 4 ∨ i = 5 ∨ i = 6 ∨ i = 7 ∨ i = 8 ∨ i = 9 ∨ i = 10 ∨ i = 11 ∨ i = 12 ∨ i = 13 ∨ i = 14 ∨ i = 15 := by omega
  · exact pOk_0
  · exact pOk_1
  · exact pOk_2
  · exact pOk_3
  · exact pOk_4
  · exact pOk_5
  · exact pOk_6
  · exact pOk_7
  · exact pOk_8
  · exact pOk_9
  · exact pOk_10
  · exact pOk_11
  · exact pOk_12
  · exact pOk_13
  · exact pOk_14
  · exact pOk_15
theorem popN_s {m : Nat} (hm : m < 65536) : popN m = popN (m / 2) + m % 2 := by
  have h := pOk_all (m / 2 / 2048) (by omega) (m / 2 % 2048 / 256) (by omega) (m / 2 % 256) (by omega)
  have e : 2048 * (m / 2 / 2048) + 256 * (m / 2 % 2048 / 256) + m / 2 % 256 = m / 2 := by omega
  rw [e] at h
  by_cases q : m % 2 = 0
  · have e2 : 2 * (m / 2) = m := by omega
    rw [e2] at h
    omega
  · have e2 : 2 * (m / 2) + 1 = m := by omega
    rw [e2] at h
    omega
theorem nct_half {m : Nat} : ∀ r, nct (fun k => m.testBit k) (r + 1) = m % 2 + nct (fun k => (m / 2).testBit k) r := by
  intro r
  induction r with
  | zero =>
    rw [nct_s]
    have e : (m.testBit 0 = true) ↔ m % 2 = 1 := by rw [Nat.testBit_zero, decide_eq_true_eq]
    by_cases q : m.testBit 0 = true
    · rw [if_pos q]
      have := e.mp q
      show 0 + 1 = m % 2 + 0
      omega
    · rw [if_neg q]
      have : ¬ m % 2 = 1 := fun z => q (e.mpr z)
      show 0 = m % 2 + 0
      omega
  | succ r ih =>
    rw [nct_s, ih, nct_s (n := r), Nat.testBit_succ]
    split <;> omega
theorem popN_nct : ∀ r m, r ≤ 16 → m < 2 ^ r → popN m = nct (fun k => m.testBit k) r := by
  intro r
  induction r with
  | zero =>
    intro m _ hm
    have e : m = 0 := by omega
    subst e
    rfl
  | succ r ih =>
    intro m hr hm
    have hp : 2 ^ (r + 1) ≤ 2 ^ 16 := Nat.pow_le_pow_right (by decide) hr
    have hp' : 2 ^ (r + 1) ≤ 65536 := hp
    rw [popN_s (by omega), nct_half, ih (m / 2) (by omega) (by rw [Nat.pow_succ] at hm; omega)]
    omega
theorem sBC_set {m : Nat} (hm : m < 65536) : sBC (m : Int) = (nct (fun k => m.testBit k) 16 : Int) := by
  rw [sBC_nat hm, popN_nct 16 m (Nat.le_refl _) hm]
