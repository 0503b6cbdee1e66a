/-! What whole's parts 48 49 50 51 say of the class alone. -/
/-- the first of that name -/
def sNamed (v : Nat → Nat → Int) (x : Int) : Int := match zfs (fun k => decide (v (5 + 2 * k) 0 = x)) (nSt v) 0 with | none => -1 | some k => (k : Int)
section OPS
variable {B : Nat}
theorem e4_named {h : zH} {A : Nat} (hc : CV h A) (x : Int) : q_X4_stationWithName h A x = some (sNamed (vw h.1 A) x) := by
  have hn := hc.2.nS
  have key := zfind0 (L := fun n i => q_X4_stationWithName_L2 h A x (fun _ => some (-1)) n i) (N := nSt (vw h.1 A)) (fun k => decide (vw h.1 A (5 + 2 * k) 0 = x)) (r := fun k => some (k : Int)) (kf := some (-1)) (by omega) (fun n i hi => ?_) (fun n => ?_)
  · unfold q_X4_stationWithName
    refine key.trans ?_
    unfold sNamed
    generalize zfs _ _ _ = o
    cases o <;> rfl
  · have hi6 : i < 6 := by omega
    show q_X4_stationWithName_L2 h A x _ (n + 1) (i : Int) = _
    rw [q_X4_stationWithName_L2]
    simp only [zlet_b]
    rw [a_n3 hc, if_neg (by omega), zgi_pos (by omega) (by omega), Int.toNat_natCast, a_stn hc, a_s hi6, zw_s (by omega)]
    by_cases hq : vw h.1 A (5 + 2 * i) 0 = x
    · rw [if_pos hq, if_pos (by rw [decide_eq_true_eq]; exact hq)]
    · rw [if_neg hq, if_neg (by rw [decide_eq_true_eq]; exact hq)]
  · show q_X4_stationWithName_L2 h A x _ (n + 1) (nSt (vw h.1 A) : Int) = _
    rw [q_X4_stationWithName_L2, a_n3 hc, if_pos (Int.le_refl _)]
theorem sLd_s {v : Nat → Nat → Int} (w : WF v) {s : Int} : ∀ (a : Int) i, i < nCl v → (0 ≤ a ∧ a ≤ 2200 * (i : Int)) → 0 ≤ (if v (25 + i) 5 = 1 ∧ v (25 + i) 0 = s then a + v (25 + i) 3 else a) ∧ (if v (25 + i) 5 = 1 ∧ v (25 + i) 0 = s then a + v (25 + i) 3 else a) ≤ 2200 * ((i + 1 : Nat) : Int) := by
  intro a i hi ha
  have hn := w.nC
  have h1 := (w.2.2.2.2.2.2.2.2 i (by omega)).2.2.2.2.1
  split <;> omega
/-- the least end -/
def sEnd (v : Nat → Nat → Int) : Int := zit (fun (a : Int) k => if v (25 + k) 5 = 1 ∧ (a = -1 ∨ v (25 + k) 9 + v (25 + k) 4 < a) then v (25 + k) 9 + v (25 + k) 4 else a) (nCl v) (-1)
end OPS
/-- the set of the k below n that are so -/
def nset (P : Nat → Bool) : Nat → Nat
  | 0 => 0
  | n + 1 => if P n = true then nset P n ||| 2 ^ n else nset P n
theorem nset_lt {P : Nat → Bool} : ∀ n, nset P n < 2 ^ n := by
  intro n
  induction n with
  | zero => exact Nat.one_pos
  | succ n ih =>
    have e : 2 ^ (n + 1) = 2 ^ n + 2 ^ n := by rw [Nat.pow_succ]; omega
    unfold nset
    split
    · exact Nat.or_lt_two_pow (by omega) (by omega)
    · omega
theorem nset_16 {P : Nat → Bool} {n : Nat} (hn : n ≤ 16) : nset P n < 65536 := Nat.lt_of_lt_of_le (nset_lt n) (Nat.pow_le_pow_right (by decide) hn)
theorem nset_bit {P : Nat → Bool} {k : Nat} : ∀ n, (nset P n).testBit k = (decide (k < n) && P k) := by
  intro n
  induction n with
  | zero => simp [nset]
  | succ n ih =>
    unfold nset
    by_cases hp : P n = true
    · rw [if_pos hp, Nat.testBit_or, ih, Nat.testBit_two_pow]
      by_cases hk : n = k
      · subst hk
        simp [hp]
      · have e : decide (k < n + 1) = decide (k < n) := by
          apply decide_eq_decide.mpr
          omega
        rw [e]
        simp [hk]
    · rw [if_neg hp, ih]
      by_cases hk : n = k
      · subst hk
        simp [hp]
      · have e : decide (k < n + 1) = decide (k < n) := by
          apply decide_eq_decide.mpr
          omega
        rw [e]
theorem zor_set {m k : Nat} (hm : m < 65536) (hk : k < 16) : zor (m : Int) (zshl 1 (k : Int)) = ((m ||| 2 ^ k : Nat) : Int) := by
  rw [zshl_1 k hk, zor_nat hm]
  exact Nat.lt_of_lt_of_le (Nat.pow_lt_pow_right (by decide) hk) (Nat.le_refl _)
theorem zor_z {m : Nat} (hm : m < 65536) : zor (m : Int) 0 = (m : Int) := by
  have := zor_nat (n := 0) hm (by decide)
  rw [Nat.or_zero] at this
  exact this
theorem nset_s {P : Nat → Bool} {i : Nat} (hi : i < 16) : ((nset P (i + 1) : Nat) : Int) = if P i = true then zor ((nset P i : Nat) : Int) (zshl 1 (i : Int)) else ((nset P i : Nat) : Int) := by
  show ((if P i = true then nset P i ||| 2 ^ i else nset P i : Nat) : Int) = _
  by_cases h : P i = true
  · rw [if_pos h, if_pos h, zor_set (nset_16 (by omega)) hi]
  · rw [if_neg h, if_neg h]
/-- a loop that gathers a set -/
theorem zsetloop {ρ : Type} {L : Nat → Int → Int → ρ} {N : Nat} (P : Nat → Bool) {kf : Int → ρ} (hN : N ≤ 16)
    (h1 : ∀ n i, i < N → L (n + 1) ((nset P i : Nat) : Int) (i : Int) = L n (if P i = true then zor ((nset P i : Nat) : Int) (zshl 1 (i : Int)) else ((nset P i : Nat) : Int)) ((i + 1 : Nat) : Int))
    (h2 : ∀ n, L (n + 1) ((nset P N : Nat) : Int) (N : Int) = kf ((nset P N : Nat) : Int)) : L zF 0 0 = kf ((nset P N : Nat) : Int) := by
  have e : ∀ i, i ≤ 16 → zit (fun (a : Int) k => if P k = true then zor a (zshl 1 (k : Int)) else a) i 0 = ((nset P i : Nat) : Int) := by
    intro i
    induction i with
    | zero => intro _; rfl
    | succ i ih =>
      intro hi
      rw [zit_s, ih (by omega), nset_s (by omega)]
  have := zloop0 (L := L) (N := N) (fun (a : Int) k => if P k = true then zor a (zshl 1 (k : Int)) else a) (s0 := 0) (kf := kf) (by omega) (fun n i hi => by
    rw [e i (by omega), e (i + 1) (by omega), h1 n i hi, nset_s (by omega)]) (fun n => by rw [e N hN, h2 n])
  rw [e N hN] at this
  exact this
section OPS
variable {B : Nat}
/-- the calls of a state -/
def sIn (v : Nat → Nat → Int) (st : Int) : Nat := nset (fun k => decide (v (25 + k) 5 = st)) (nCl v)
theorem e4_callsIn {h : zH} {A : Nat} (hc : CV h A) (st : Int) : q_X4_callsIn h A st = some ((sIn (vw h.1 A) st : Nat) : Int) := by
  have hn := hc.2.nC
  unfold q_X4_callsIn
  refine zsetloop (L := fun f a i => q_X4_callsIn_L4 h A st (fun x _ => some x) f a i) (kf := fun a => some a) (fun k => decide (vw h.1 A (25 + k) 5 = st)) hn.2 (fun f i hi => ?_) (fun f => ?_)
  · have hi16 : i < 16 := by omega
    show q_X4_callsIn_L4 h A st _ (f + 1) _ (i : Int) = _
    rw [q_X4_callsIn_L4]
    simp only [zlet_b]
    rw [a_n7 hc, if_neg (by omega), zgi_pos (by omega) (by omega), Int.toNat_natCast, a_call hc, a_c hi16, zw_s (by omega)]
    by_cases hq : vw h.1 A (25 + i) 5 = st
    · rw [if_pos hq, if_pos (by rw [decide_eq_true_eq]; exact hq)]
    · rw [if_neg hq, if_neg (by rw [decide_eq_true_eq]; exact hq)]
  · show q_X4_callsIn_L4 h A st _ (f + 1) _ (nCl (vw h.1 A) : Int) = _
    rw [q_X4_callsIn_L4, a_n7 hc, if_pos (Int.le_refl _)]
/-- the degraded among a set -/
def sDeg (v : Nat → Nat → Int) (P : Nat → Bool) : Nat := nset (fun k => P k && decide (sMarg v k (v (5 + 2 * (v (25 + k) 0).toNat) 5) (v 0 0) < 0)) (nCl v)
theorem e4_degAmong {h : zH} {A m : Nat} (hc : CV h A) (hm : m < 65536) : q_X4_degradedAmong h A (m : Int) = some ((sDeg (vw h.1 A) (fun k => m.testBit k) : Nat) : Int) := by
  have hn := hc.2.nC
  unfold q_X4_degradedAmong
  refine zsetloop (L := fun f a i => q_X4_degradedAmong_L4 h A (m : Int) (fun x _ => some x) f a i) (kf := fun a => some a) (fun k => m.testBit k && decide (sMarg (vw h.1 A) k (vw h.1 A (5 + 2 * (vw h.1 A (25 + k) 0).toNat) 5) (vw h.1 A 0 0) < 0)) hn.2 (fun f i hi => ?_) (fun f => ?_)
  · have hi16 : i < 16 := by omega
    show q_X4_degradedAmong_L4 h A (m : Int) _ (f + 1) _ (i : Int) = _
    rw [q_X4_degradedAmong_L4]
    simp only [zlet_b]
    rw [a_n7 hc, if_neg (by omega), e_isIn hm hi16, zbp_some, zw_s (by omega)]
    by_cases hq : m.testBit i = true
    · rw [if_pos hq, if_neg one0, zgi_pos (by omega) (by omega), Int.toNat_natCast, a_call hc, e4_pmarg hc (by omega), zbp_some]
      generalize sMarg (vw h.1 A) i _ _ = g
      by_cases hg : 0 ≤ g
      · rw [if_pos hg, if_neg]
        simp only [Bool.and_eq_true, decide_eq_true_eq]
        omega
      · rw [if_neg hg, if_pos]
        simp only [Bool.and_eq_true, decide_eq_true_eq]
        exact ⟨hq, by omega⟩
    · rw [if_neg hq, if_pos rfl, if_neg]
      simp only [Bool.and_eq_true, decide_eq_true_eq]
      exact fun q => hq q.1
  · show q_X4_degradedAmong_L4 h A (m : Int) _ (f + 1) _ (nCl (vw h.1 A) : Int) = _
    rw [q_X4_degradedAmong_L4, a_n7 hc, if_pos (Int.le_refl _)]
theorem nset_congr {P Q : Nat → Bool} : ∀ n, (∀ k, k < n → P k = Q k) → nset P n = nset Q n := by
  intro n
  induction n with
  | zero => intro _; rfl
  | succ n ih =>
    intro h
    unfold nset
    rw [h n (by omega), ih (fun k q => h k (by omega))]
end OPS
/-- how many k below n are so -/
def nct (P : Nat → Bool) : Nat → Nat
  | 0 => 0
  | n + 1 => if P n = true then nct P n + 1 else nct P n
theorem nct_le {P : Nat → Bool} : ∀ n, nct P n ≤ n := by
  intro n
  induction n with
  | zero => exact Nat.le_refl _
  | succ n ih =>
    unfold nct
    split <;> omega
theorem nct_s {P : Nat → Bool} {n : Nat} : nct P (n + 1) = if P n = true then nct P n + 1 else nct P n := rfl
theorem nct_congr {P Q : Nat → Bool} : ∀ n, (∀ k, k < n → P k = Q k) → nct P n = nct Q n := by
  intro n
  induction n with
  | zero => intro _; rfl
  | succ n ih =>
    intro h
    unfold nct
    rw [h n (by omega), ih (fun k q => h k (by omega))]
/-- a loop that counts -/
theorem zctloop {ρ : Type} {L : Nat → Int → Int → ρ} {N : Nat} (P : Nat → Bool) {kf : Int → ρ} (hN : N < 1000)
    (h1 : ∀ n i, i < N → L (n + 1) ((nct P i : Nat) : Int) (i : Int) = L n (if P i = true then ((nct P i + 1 : Nat) : Int) else ((nct P i : Nat) : Int)) ((i + 1 : Nat) : Int))
    (h2 : ∀ n, L (n + 1) ((nct P N : Nat) : Int) (N : Int) = kf ((nct P N : Nat) : Int)) : L zF 0 0 = kf ((nct P N : Nat) : Int) := by
  have e : ∀ i, zit (fun (a : Int) k => if P k = true then a + 1 else a) i 0 = ((nct P i : Nat) : Int) := by
    intro i
    induction i with
    | zero => rfl
    | succ i ih =>
      rw [zit_s, ih, nct_s]
      by_cases hp : P i = true
      · rw [if_pos hp, if_pos hp]; omega
      · rw [if_neg hp, if_neg hp]
  have := zloop0 (L := L) (N := N) (fun (a : Int) k => if P k = true then a + 1 else a) (s0 := 0) (kf := kf) (by omega) (fun n i hi => by
    rw [e i, e (i + 1), h1 n i hi, nct_s]
    by_cases hp : P i = true
    · rw [if_pos hp, if_pos hp]
    · rw [if_neg hp, if_neg hp]) (fun n => by rw [e N, h2 n])
  rw [e N] at this
  exact this
theorem WF.act {v : Nat → Nat → Int} (w : WF v) {k : Nat} (hk : (k : Int) < v 0 7) (h5 : v (25 + k) 5 = 1) : 0 ≤ v (25 + k) 9 ∧ (0 ≤ v (25 + k) 6 ∧ v (25 + k) 6 < v 0 1) ∧ (v 1 2 + v 1 1 ≤ v (25 + k) 7 ∧ v (25 + k) 7 + v (25 + k) 3 + v 1 1 ≤ v 1 0) := (w.2.2.2.2.2.2.2.2 k hk).2.2.2.2.2.2.2.2.2.2.2 h5
theorem zdec {p : Prop} [Decidable p] : decide p = true ↔ p := decide_eq_true_iff
section OPS
variable {B : Nat}
/-- the first call that is so, or -1 -/
def sFst (P : Nat → Bool) (n : Nat) : Int := match zfs P n 0 with | none => -1 | some k => (k : Int)
/-- the bursts of a carrier that begin before t -/
def sBef (v : Nat → Nat → Int) (c t : Int) : Nat := nct (fun k => decide (v (25 + k) 5 = 1 ∧ v (25 + k) 6 = c ∧ v (25 + k) 7 < t)) (nCl v)
theorem e4_before {h : zH} {A : Nat} (hc : CV h A) (c t : Int) : q_X4_burstsBefore h A c t = some ((sBef (vw h.1 A) c t : Nat) : Int) := by
  have hn := hc.2.nC
  unfold q_X4_burstsBefore
  refine zctloop (L := fun f a i => q_X4_burstsBefore_L5 h A c t (fun x _ => some x) f a i) (kf := fun a => some a) (fun k => decide (vw h.1 A (25 + k) 5 = 1 ∧ vw h.1 A (25 + k) 6 = c ∧ vw h.1 A (25 + k) 7 < t)) (by omega) (fun f i hi => ?_) (fun f => ?_)
  · have hi16 : i < 16 := by omega
    have hl := nct_le (P := fun k => decide (vw h.1 A (25 + k) 5 = 1 ∧ vw h.1 A (25 + k) 6 = c ∧ vw h.1 A (25 + k) 7 < t)) i
    show q_X4_burstsBefore_L5 h A c t _ (f + 1) _ (i : Int) = _
    rw [q_X4_burstsBefore_L5]
    simp only [zlet_b, zdec]
    generalize nct _ i = a at hl
    rw [a_n7 hc, if_neg (by omega), zgi_pos (by omega) (by omega), Int.toNat_natCast, a_call hc, e4_isOn hi16, zbp_some, zw_s (by omega), zgi_pos (by omega) (by omega), a_c hi16, zw_s (by omega)]
    by_cases hq : vw h.1 A (25 + i) 5 = 1 ∧ vw h.1 A (25 + i) 6 = c
    · rw [if_pos hq, if_neg one0]
      by_cases q1 : t ≤ vw h.1 A (25 + i) 7
      · rw [if_pos q1, if_neg (fun q => by omega)]
      · rw [if_neg q1, if_pos ⟨hq.1, hq.2, by omega⟩]
    · rw [if_neg hq, if_pos rfl, if_neg (fun q => hq ⟨q.1, q.2.1⟩)]
  · show q_X4_burstsBefore_L5 h A c t _ (f + 1) _ (nCl (vw h.1 A) : Int) = _
    rw [q_X4_burstsBefore_L5, a_n7 hc, if_pos (Int.le_refl _)]
/-- the active calls with a station -/
def sWith (v : Nat → Nat → Int) (s : Int) : Nat := nct (fun k => decide (v (25 + k) 5 = 1 ∧ (v (25 + k) 0 = s ∨ v (25 + k) 1 = s))) (nCl v)
def sBus (v : Nat → Nat → Int) : Int × Int := zit (fun (p : Int × Int) s => if ((sWith v (s : Int) : Nat) : Int) ≤ p.2 then p else ((s : Int), ((sWith v (s : Int) : Nat) : Int))) (nSt v) (-1, 0)
theorem nset_none {P : Nat → Bool} : ∀ n, (∀ k, k < n → ¬ P k = true) → nset P n = 0 := by
  intro n
  induction n with
  | zero => intro _; rfl
  | succ n ih =>
    intro h
    unfold nset
    rw [if_neg (h n (by omega)), ih (fun k q => h k (by omega))]
end OPS
theorem zxor_neg {x y : Int} (hx : zR x) (h0 : 0 ≤ y ∧ y < 2147483648) : zxor x y < 0 ↔ x < 0 := by
  have ex : (zi x).toBitVec.toInt = x := zi_toInt hx
  have ey : (zi y).toBitVec.toInt = y := zi_toInt ⟨by omega, by omega⟩
  have mx := BitVec.msb_eq_toInt (x := (zi x).toBitVec)
  have my := BitVec.msb_eq_toInt (x := (zi y).toBitVec)
  have mz := BitVec.msb_eq_toInt (x := (zi x).toBitVec ^^^ (zi y).toBitVec)
  rw [BitVec.msb_xor, mx, my, ex, ey] at mz
  have e : zxor x y = ((zi x).toBitVec ^^^ (zi y).toBitVec).toInt := by
    unfold zxor
    show (zi x ^^^ zi y).toBitVec.toInt = _
    rw [Int32.toBitVec_xor]
  rw [e]
  have hy : decide (y < 0) = false := by
    rw [decide_eq_false_iff_not]; omega
  rw [hy, Bool.xor_false] at mz
  have := decide_eq_decide.mp mz
  exact this.symm
theorem tmodB {x y : Int} (h : 0 < y) : x.tmod y < y ∧ -y < x.tmod y := by
  have h1 := Int.tmod_lt_of_pos x h
  have h2 := Int.tmod_lt_of_pos (-x) h
  rw [Int.neg_tmod] at h2
  omega
theorem sFM_eq {x y : Int} (hx : -1000000 ≤ x ∧ x ≤ 1000000) (hy : 1 ≤ y ∧ y ≤ 1000000) : sFM x y = if 0 ≤ x.tmod y then x.tmod y else x.tmod y + y := by
  unfold sFM
  have hb := tmodB (x := x) (y := y) (by omega)
  have hz := zxor_neg (x := x) (y := y) ⟨by omega, by omega⟩ ⟨by omega, by omega⟩
  by_cases hneg : x < 0
  · have h3 : x.tmod y ≤ 0 := by
      have := Int.tmod_nonneg (a := -x) y (by omega)
      rw [Int.neg_tmod] at this
      omega
    by_cases h4 : x.tmod y = 0
    · rw [if_neg (fun q => q.2 h4), if_pos (by omega)]
    · rw [if_pos ⟨hz.mpr hneg, h4⟩, if_neg (by omega), zw_id ⟨by omega, by omega⟩]
  · have h3 := Int.tmod_nonneg (a := x) y (by omega)
    rw [if_neg (fun q => hneg (hz.mp q.1)), if_pos h3]
theorem thr1 : ¬ ((1 : Int) = 0) := by decide
section OPS
variable {B : Nat}
def sSnd (v : Nat → Nat → Int) (k : Nat) : Int := if v (25 + k) 5 = 1 then (if 0 ≤ (v (25 + k) 7 - v (5 + 2 * (v (25 + k) 0).toNat) 1).tmod (v 1 0) then (v (25 + k) 7 - v (5 + 2 * (v (25 + k) 0).toNat) 1).tmod (v 1 0) else (v (25 + k) 7 - v (5 + 2 * (v (25 + k) 0).toNat) 1).tmod (v 1 0) + v 1 0) else -1
/-- the power of a station in the frame f, after p -/
def sNext (v : Nat → Nat → Int) (s : Nat) (p f : Int) : Int := if zmin (v (5 + 2 * s) 4) (v (5 + 2 * s) 3 + sFade v (s : Int) f) ≤ p then zmax (zmin (v (5 + 2 * s) 4) (v (5 + 2 * s) 3 + sFade v (s : Int) f)) (p - v 1 5) else zmin (zmin (v (5 + 2 * s) 4) (v (5 + 2 * s) 3 + sFade v (s : Int) f)) (p + v 1 5)
theorem sNext_b {v : Nat → Nat → Int} (w : WF v) {s : Nat} (hs : (s : Int) < v 0 3) {p : Int} (hp : 0 ≤ p ∧ p ≤ 999) (f : Int) : 0 ≤ sNext v s p f ∧ sNext v s p f ≤ 999 := by
  have hb := sFade_b w (s : Int) f
  have h1 := (w.2.2.2.2.2.2.1 s hs).2.2.1
  have h2 := w.set.2.2.2.2.2.1
  unfold sNext zmin zmax
  generalize sFade v (s : Int) f = g at hb
  repeat' split
  all_goals omega
theorem e4_next {h : zH} {A : Nat} (hc : CV h A) {s : Nat} (hs : (s : Int) < vw h.1 A 0 3) {p : Int} (hp : 0 ≤ p ∧ p ≤ 999) (f : Int) : q_X4_nextPower h A (s : Int) p f = some (sNext (vw h.1 A) s p f) := by
  have w := hc.2
  have hns := w.nS
  have hb := sFade_b w (s : Int) f
  have h1 := (w.2.2.2.2.2.2.1 s hs).2.2.1
  have h2 := w.set.2.2.2.2.2.1
  unfold q_X4_nextPower
  simp only [zlet_b]
  rw [a_set hc, zgi_pos (by omega) (by omega), e4_fade hc, zbp_some, zgi_pos (by omega) (by omega), Int.toNat_natCast, a_stn hc, a_s (by omega), a_s (by omega)]
  congr 1
  unfold sNext
  generalize sFade (vw h.1 A) (s : Int) f = g at hb
  rw [zw_id (x := _ + g) ⟨by omega, by omega⟩, zw_id (x := -_) ⟨by omega, by omega⟩]
  generalize vw h.1 A (5 + 2 * s) 3 = b at h1
  generalize vw h.1 A (5 + 2 * s) 4 = c at h1
  generalize vw h.1 A 1 5 = d at h2
  have hmin : zmin (b + g) c = zmin c (b + g) := by unfold zmin; split <;> split <;> omega
  rw [hmin]
  have hr : 0 ≤ zmin c (b + g) ∧ zmin c (b + g) ≤ 999 := by unfold zmin; split <;> omega
  generalize zmin c (b + g) = t at hr
  rw [zw_id (x := t - p) ⟨by omega, by omega⟩]
  have hq : -100 ≤ zmax (-d) (zmin d (t - p)) ∧ zmax (-d) (zmin d (t - p)) ≤ 100 := by
    unfold zmin zmax
    repeat' split
    all_goals omega
  rw [zw_id (x := p + _) ⟨by omega, by omega⟩]
  unfold zmin zmax
  repeat' split
  all_goals omega
/-- the power of a station n frames from now -/
def sPow (v : Nat → Nat → Int) (s n : Nat) : Int := zit (fun p i => sNext v s p (v 0 0 + 1 + (i : Int))) n (v (5 + 2 * s) 5)
theorem sPow_b {v : Nat → Nat → Int} (w : WF v) {s : Nat} (hs : (s : Int) < v 0 3) (n : Nat) : 0 ≤ sPow v s n ∧ sPow v s n ≤ 999 := by
  refine zit_inv (fun _ p => 0 ≤ p ∧ p ≤ 999) (w.2.2.2.2.2.2.1 s hs).2.2.2.1 n (fun i _ x hx => sNext_b w hs hx _)
/-- the power before the look at the frame i from now -/
def sPre (v : Nat → Nat → Int) (s i : Nat) : Int := sPow v s (i - 1)
def sClr (v : Nat → Nat → Int) (k s : Nat) : Int := match zfs (fun i => decide (0 ≤ sMarg v k (sPow v s i) (v 0 0 + (i : Int)))) ((zmin (v 0 0 + 200) 9999 - v 0 0 + 1).toNat) 0 with | none => -1 | some i => v 0 0 + (i : Int)
end OPS
