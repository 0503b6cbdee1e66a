/-! Int32 by mathematical integers: zi x is the machine's int, zw wraps, zR is the range. -/
def zw_T : List Cond := lw_tbl.filter goodWord
def zi (x : Int) : Int32 := Int32.ofInt x
def zw (x : Int) : Int := (x + 2147483648) % 4294967296 - 2147483648
def zR (x : Int) : Prop := -2147483648 ≤ x ∧ x < 2147483648
theorem zw_R (x : Int) : zR (zw x) := by unfold zR zw; omega
theorem zw_id {x : Int} (h : zR x) : zw x = x := by unfold zR at h; unfold zw; omega
theorem zw_bmod (x : Int) : x.bmod 4294967296 = zw x := by
  unfold zw Int.bmod
  simp only []
  split <;> omega
theorem zi_toInt' (x : Int) : (zi x).toInt = zw x := by
  unfold zi
  rw [Int32.toInt_ofInt]
  exact zw_bmod x
theorem zi_toInt {x : Int} (h : zR x) : (zi x).toInt = x := by rw [zi_toInt', zw_id h]
theorem zi_of (v : Int32) : zi v.toInt = v := by unfold zi; exact Int32.ofInt_toInt v
theorem zR_of (v : Int32) : zR v.toInt := by
  have h1 := Int32.toInt_lt v
  have h2 := Int32.le_toInt v
  unfold zR
  omega
theorem zi_inj {x y : Int} (hx : zR x) (hy : zR y) (h : zi x = zi y) : x = y := by rw [← zi_toInt hx, ← zi_toInt hy, h]
theorem zi_eq {x y : Int} (hx : zR x) (hy : zR y) : zi x = zi y ↔ x = y := ⟨zi_inj hx hy, fun h => by rw [h]⟩
theorem zi_lt {x y : Int} (hx : zR x) (hy : zR y) : zi x < zi y ↔ x < y := by rw [Int32.lt_iff_toInt_lt, zi_toInt hx, zi_toInt hy]
theorem zi_le {x y : Int} (hx : zR x) (hy : zR y) : zi x ≤ zi y ↔ x ≤ y := by rw [Int32.le_iff_toInt_le, zi_toInt hx, zi_toInt hy]
theorem zi_ext {a b : Int32} (h : a.toInt = b.toInt) : a = b := Int32.toInt_inj.mp h
theorem zi_zw (x : Int) : zi (zw x) = zi x := zi_ext (by rw [zi_toInt (zw_R x), zi_toInt'])
theorem zi_add (x y : Int) : zi x + zi y = zi (zw (x + y)) := by
  apply zi_ext
  rw [Int32.toInt_add, zi_toInt (zw_R _), zi_toInt', zi_toInt']
  rw [show (2 ^ 32 : Nat) = 4294967296 from rfl, zw_bmod]
  unfold zw
  omega
theorem zi_sub (x y : Int) : zi x - zi y = zi (zw (x - y)) := by
  apply zi_ext
  rw [Int32.toInt_sub, zi_toInt (zw_R _), zi_toInt', zi_toInt']
  rw [show (2 ^ 32 : Nat) = 4294967296 from rfl, zw_bmod]
  unfold zw
  omega
theorem zi_neg (x : Int) : -zi x = zi (zw (-x)) := by
  apply zi_ext
  rw [Int32.toInt_neg, zi_toInt (zw_R _), zi_toInt']
  rw [show (2 ^ 32 : Nat) = 4294967296 from rfl, zw_bmod]
  unfold zw
  omega
theorem zw_eq_of {x y : Int} (h : x % 4294967296 = y % 4294967296) : zw x = zw y := by unfold zw; omega
theorem zi_mul {x y : Int} (hx : zR x) (hy : zR y) : zi x * zi y = zi (zw (x * y)) := by
  apply zi_ext
  rw [Int32.toInt_mul, zi_toInt (zw_R _), zi_toInt hx, zi_toInt hy]
  rw [show (2 ^ 32 : Nat) = 4294967296 from rfl, zw_bmod]
theorem zi_div {x y : Int} (hx : zR x) (hy : zR y) : zi x / zi y = zi (zw (x.tdiv y)) := by
  apply zi_ext
  rw [Int32.toInt_div, zi_toInt (zw_R _), zi_toInt hx, zi_toInt hy]
  rw [show (2 ^ 32 : Nat) = 4294967296 from rfl, zw_bmod]
theorem zi_rem {x y : Int} (hx : zR x) (hy : zR y) : zi x % zi y = zi (x.tmod y) := by
  apply zi_ext
  have h := zR_of (zi x % zi y)
  rw [Int32.toInt_mod, zi_toInt hx, zi_toInt hy] at h
  rw [Int32.toInt_mod, zi_toInt hx, zi_toInt hy, zi_toInt', zw_id h]
theorem zR_rem {x y : Int} (hx : zR x) (hy : zR y) : zR (x.tmod y) := by
  have h := zR_of (zi x % zi y)
  rwa [Int32.toInt_mod, zi_toInt hx, zi_toInt hy] at h
def zand (x y : Int) : Int := (zi x &&& zi y).toInt
def zor (x y : Int) : Int := (zi x ||| zi y).toInt
def zxor (x y : Int) : Int := (zi x ^^^ zi y).toInt
def zshl (x y : Int) : Int := (zi x <<< (zi y &&& 31)).toInt
def zshr (x y : Int) : Int := (zi x >>> (zi y &&& 31)).toInt
def zi2b (x : Int) : Int := ((zi x).toInt8.toInt32).toInt
theorem zi_in {i : Int} {n : Nat} (hi : zR i) (h0 : 0 ≤ i) (h1 : i < n) : vp_in (zi i) n := by
  unfold vp_in
  intro h
  rcases h with h | h
  · rw [Int32.lt_iff_toInt_lt, zi_toInt hi] at h
    have h' : i < 0 := h
    omega
  · have h2 : (zi i).toNatClampNeg = i.toNat := by show (zi i).toInt.toNat = _; rw [zi_toInt hi]
    omega
theorem zi_nat {i : Int} (hi : zR i) : (zi i).toNatClampNeg = i.toNat := by show (zi i).toInt.toNat = _; rw [zi_toInt hi]
theorem zi_0 : zi 0 = 0 := by decide
theorem zR_0 : zR 0 := ⟨by decide, by decide⟩
theorem zi_remsub {x y : Int} (hx : zR x) (hy : zR y) : zi x - zi x / zi y * zi y = zi (x.tmod y) := by
  apply zi_ext
  rw [rem_toInt, zi_toInt hx, zi_toInt hy, zi_toInt (zR_rem hx hy)]
