/-! Bits of numbers that are not negative. -/
/-- not by computation: the kernel shall not look into the numbers -/
theorem zlet_b {β γ : Type} (v : β) (k : β → γ) : zlet v k = k v := by
  have h : ∀ x, x = zlet v k → x = k v := fun _ hx => hx
  exact h _ rfl
theorem zi_bv {n : Nat} (h : n < 4294967296) : (zi (n : Int)).toBitVec.toNat = n := by
  show (BitVec.ofInt 32 (n : Int)).toNat = n
  rw [BitVec.toNat_ofInt]
  omega
theorem bv_int {x : Int32} (h : x.toBitVec.toNat < 2147483648) : x.toInt = (x.toBitVec.toNat : Int) := by
  show x.toBitVec.toInt = _
  rw [BitVec.toInt_eq_toNat_of_lt (by omega)]
theorem zand_nat {m n : Nat} (hm : m < 2147483648) (hn : n < 2147483648) : zand (m : Int) (n : Int) = ((m &&& n : Nat) : Int) := by
  unfold zand
  have e : (zi (m : Int) &&& zi (n : Int)).toBitVec.toNat = m &&& n := by
    rw [Int32.toBitVec_and, BitVec.toNat_and, zi_bv (by omega), zi_bv (by omega)]
  have hlt : m &&& n < 2147483648 := Nat.lt_of_le_of_lt Nat.and_le_left hm
  rw [bv_int (by rw [e]; exact hlt), e]
theorem zor_nat {m n : Nat} (hm : m < 65536) (hn : n < 65536) : zor (m : Int) (n : Int) = ((m ||| n : Nat) : Int) := by
  unfold zor
  have e : (zi (m : Int) ||| zi (n : Int)).toBitVec.toNat = m ||| n := by
    rw [Int32.toBitVec_or, BitVec.toNat_or, zi_bv (by omega), zi_bv (by omega)]
  have hlt : m ||| n < 2 ^ 16 := Nat.or_lt_two_pow hm hn
  rw [bv_int (by rw [e]; omega), e]
theorem zsh31 {k : Nat} (hk : k < 32) : (zi (k : Int) &&& 31).toBitVec.toNat = k := by
  have e : (zi (k : Int) &&& 31).toBitVec.toNat = k &&& 31 := by
    rw [Int32.toBitVec_and, BitVec.toNat_and, zi_bv (by omega)]
    rfl
  rw [e, show (31 : Nat) = 2 ^ 5 - 1 from rfl, Nat.and_two_pow_sub_one_eq_mod, Nat.mod_eq_of_lt hk]
theorem zshr_nat {m k : Nat} (hm : m < 2147483648) (hk : k < 32) : zshr (m : Int) (k : Int) = ((m >>> k : Nat) : Int) := by
  unfold zshr
  have e : (zi (m : Int) >>> (zi (k : Int) &&& 31)).toBitVec.toNat = m >>> k := by
    rw [Int32.toBitVec_shiftRight]
    have hs : ((zi (k : Int) &&& 31).toBitVec.smod 32).toNat = k := by
      have h1 := zsh31 hk
      have h2 : (zi (k : Int) &&& 31).toBitVec = BitVec.ofNat 32 k := by
        apply BitVec.eq_of_toNat_eq
        rw [h1, BitVec.toNat_ofNat]
        omega
      rw [h2]
      have h3 : ∀ k : Nat, k < 32 → ((BitVec.ofNat 32 k).smod 32).toNat = k := by decide
      exact h3 k hk
    show (BitVec.sshiftRight _ _).toNat = _
    rw [hs, BitVec.sshiftRight_eq_of_msb_false, BitVec.toNat_ushiftRight, zi_bv (by omega)]
    rw [BitVec.msb_eq_false_iff_two_mul_lt, zi_bv (by omega)]
    omega
  have hlt : m >>> k < 2147483648 := Nat.lt_of_le_of_lt (Nat.shiftRight_le _ _) hm
  rw [bv_int (by rw [e]; exact hlt), e]
theorem zshl_1 : ∀ k : Nat, k < 16 → zshl 1 (k : Int) = ((2 ^ k : Nat) : Int) := by decide
theorem zand_63 {f : Int} (h0 : 0 ≤ f) (h1 : f < 2147483648) : zand f 63 = f % 64 := by
  obtain ⟨n, rfl⟩ := Int.eq_ofNat_of_zero_le h0
  have e := zand_nat (m := n) (n := 63) (by omega) (by decide)
  have e' : zand (n : Int) 63 = ((n &&& 63 : Nat) : Int) := e
  rw [e', show (63 : Nat) = 2 ^ 6 - 1 from rfl, Nat.and_two_pow_sub_one_eq_mod]
  rfl
/-- whether a call is in a set -/
theorem e_isIn {h : zH} {m k : Nat} (hm : m < 65536) (hk : k < 16) : q_X4_isIn h (m : Int) (k : Int) = some (if m.testBit k = true then 1 else 0) := by
  unfold q_X4_isIn
  have e : zand (zshr (m : Int) (k : Int)) 1 = ((m >>> k &&& 1 : Nat) : Int) := by
    rw [zshr_nat (by omega) (by omega)]
    exact zand_nat (n := 1) (Nat.lt_of_le_of_lt (Nat.shiftRight_le _ _) (by omega)) (by decide)
  rw [e]
  have e2 : m.testBit k = decide (m >>> k &&& 1 = 1) := by
    rw [Nat.testBit_eq_decide_div_mod_eq, Nat.shiftRight_eq_div_pow, Nat.and_one_is_mod]
  have hb : m >>> k &&& 1 = 0 ∨ m >>> k &&& 1 = 1 := by rw [Nat.and_one_is_mod]; omega
  rw [e2]
  rcases hb with hb | hb
  · rw [hb]; rfl
  · rw [hb]; rfl
