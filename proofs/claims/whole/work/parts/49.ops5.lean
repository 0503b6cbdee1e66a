/-! Sets of calls as numbers; conflicts, degraded calls, places on a carrier. -/
/-- the set of the k below n that are so -/
def nset (P : Nat → Bool) : Nat → Nat
  | 0 => 0
  | n + 1 => if P n = true then nset P n ||| 2 ^ n else nset P n
theorem nset_lt {P : Nat → Bool} : ∀ n, nset P n < 2 ^ n := by
  intro n
  induction n with
  | zero => exact Nat.one_pos
  | succ n ih =>
    have e : 2 ^ (n + 1) = 2 ^ n + 2 ^ n := by rw [Nat.pow_succ]; omega
    unfold nset
    split
    · exact Nat.or_lt_two_pow (by omega) (by omega)
    · omega
theorem nset_16 {P : Nat → Bool} {n : Nat} (hn : n ≤ 16) : nset P n < 65536 := Nat.lt_of_lt_of_le (nset_lt n) (Nat.pow_le_pow_right (by decide) hn)
theorem nset_bit {P : Nat → Bool} {k : Nat} : ∀ n, (nset P n).testBit k = (decide (k < n) && P k) := by
  intro n
  induction n with
  | zero => simp [nset]
  | succ n ih =>
    unfold nset
    by_cases hp : P n = true
    · rw [if_pos hp, Nat.testBit_or, ih, Nat.testBit_two_pow]
      by_cases hk : n = k
      · subst hk
        simp [hp]
      · have e : decide (k < n + 1) = decide (k < n) := by
          apply decide_eq_decide.mpr
          omega
        rw [e]
        simp [hk]
    · rw [if_neg hp, ih]
      by_cases hk : n = k
      · subst hk
        simp [hp]
      · have e : decide (k < n + 1) = decide (k < n) := by
          apply decide_eq_decide.mpr
          omega
        rw [e]
theorem zor_set {m k : Nat} (hm : m < 65536) (hk : k < 16) : zor (m : Int) (zshl 1 (k : Int)) = ((m ||| 2 ^ k : Nat) : Int) := by
  rw [zshl_1 k hk, zor_nat hm]
  exact Nat.lt_of_lt_of_le (Nat.pow_lt_pow_right (by decide) hk) (Nat.le_refl _)
theorem zor_z {m : Nat} (hm : m < 65536) : zor (m : Int) 0 = (m : Int) := by
  have := zor_nat (n := 0) hm (by decide)
  rw [Nat.or_zero] at this
  exact this
theorem nset_s {P : Nat → Bool} {i : Nat} (hi : i < 16) : ((nset P (i + 1) : Nat) : Int) = if P i = true then zor ((nset P i : Nat) : Int) (zshl 1 (i : Int)) else ((nset P i : Nat) : Int) := by
  show ((if P i = true then nset P i ||| 2 ^ i else nset P i : Nat) : Int) = _
  by_cases h : P i = true
  · rw [if_pos h, if_pos h, zor_set (nset_16 (by omega)) hi]
  · rw [if_neg h, if_neg h]
/-- a loop that gathers a set -/
theorem zsetloop {ρ : Type} {L : Nat → Int → Int → ρ} {N : Nat} (P : Nat → Bool) {kf : Int → ρ} (hN : N ≤ 16)
    (h1 : ∀ n i, i < N → L (n + 1) ((nset P i : Nat) : Int) (i : Int) = L n (if P i = true then zor ((nset P i : Nat) : Int) (zshl 1 (i : Int)) else ((nset P i : Nat) : Int)) ((i + 1 : Nat) : Int))
    (h2 : ∀ n, L (n + 1) ((nset P N : Nat) : Int) (N : Int) = kf ((nset P N : Nat) : Int)) : L zF 0 0 = kf ((nset P N : Nat) : Int) := by
  have e : ∀ i, i ≤ 16 → zit (fun (a : Int) k => if P k = true then zor a (zshl 1 (k : Int)) else a) i 0 = ((nset P i : Nat) : Int) := by
    intro i
    induction i with
    | zero => intro _; rfl
    | succ i ih =>
      intro hi
      rw [zit_s, ih (by omega), nset_s (by omega)]
  have := zloop0 (L := L) (N := N) (fun (a : Int) k => if P k = true then zor a (zshl 1 (k : Int)) else a) (s0 := 0) (kf := kf) (by omega) (fun n i hi => by
    rw [e i (by omega), e (i + 1) (by omega), h1 n i hi, nset_s (by omega)]) (fun n => by rw [e N hN, h2 n])
  rw [e N hN] at this
  exact this
section OPS
variable {B : Nat}
/-- the calls of a state -/
def sIn (v : Nat → Nat → Int) (st : Int) : Nat := nset (fun k => decide (v (25 + k) 5 = st)) (nCl v)
theorem e4_callsIn {h : zH} {A : Nat} (hc : CV h A) (st : Int) : q_X4_callsIn h A st = some ((sIn (vw h.1 A) st : Nat) : Int) := by
  have hn := hc.2.nC
  unfold q_X4_callsIn
  refine zsetloop (L := fun f a i => q_X4_callsIn_L4 h A st (fun x _ => some x) f a i) (kf := fun a => some a) (fun k => decide (vw h.1 A (25 + k) 5 = st)) hn.2 (fun f i hi => ?_) (fun f => ?_)
  · have hi16 : i < 16 := by omega
    show q_X4_callsIn_L4 h A st _ (f + 1) _ (i : Int) = _
    rw [q_X4_callsIn_L4]
    simp only [zlet_b]
    rw [a_n7 hc, if_neg (by omega), zgi_pos (by omega) (by omega), Int.toNat_natCast, a_call hc, a_c hi16, zw_s (by omega)]
    by_cases hq : vw h.1 A (25 + i) 5 = st
    · rw [if_pos hq, if_pos (by rw [decide_eq_true_eq]; exact hq)]
    · rw [if_neg hq, if_neg (by rw [decide_eq_true_eq]; exact hq)]
  · show q_X4_callsIn_L4 h A st _ (f + 1) _ (nCl (vw h.1 A) : Int) = _
    rw [q_X4_callsIn_L4, a_n7 hc, if_pos (Int.le_refl _)]
/-- the degraded among a set -/
def sDeg (v : Nat → Nat → Int) (P : Nat → Bool) : Nat := nset (fun k => P k && decide (sMarg v k (v (5 + 2 * (v (25 + k) 0).toNat) 5) (v 0 0) < 0)) (nCl v)
theorem e4_degAmong {h : zH} {A m : Nat} (hc : CV h A) (hm : m < 65536) : q_X4_degradedAmong h A (m : Int) = some ((sDeg (vw h.1 A) (fun k => m.testBit k) : Nat) : Int) := by
  have hn := hc.2.nC
  unfold q_X4_degradedAmong
  refine zsetloop (L := fun f a i => q_X4_degradedAmong_L4 h A (m : Int) (fun x _ => some x) f a i) (kf := fun a => some a) (fun k => m.testBit k && decide (sMarg (vw h.1 A) k (vw h.1 A (5 + 2 * (vw h.1 A (25 + k) 0).toNat) 5) (vw h.1 A 0 0) < 0)) hn.2 (fun f i hi => ?_) (fun f => ?_)
  · have hi16 : i < 16 := by omega
    show q_X4_degradedAmong_L4 h A (m : Int) _ (f + 1) _ (i : Int) = _
    rw [q_X4_degradedAmong_L4]
    simp only [zlet_b]
    rw [a_n7 hc, if_neg (by omega), e_isIn hm hi16, zbp_some, zw_s (by omega)]
    by_cases hq : m.testBit i = true
    · rw [if_pos hq, if_neg one0, zgi_pos (by omega) (by omega), Int.toNat_natCast, a_call hc, e4_pmarg hc (by omega), zbp_some]
      generalize sMarg (vw h.1 A) i _ _ = g
      by_cases hg : 0 ≤ g
      · rw [if_pos hg, if_neg]
        simp only [Bool.and_eq_true, decide_eq_true_eq]
        omega
      · rw [if_neg hg, if_pos]
        simp only [Bool.and_eq_true, decide_eq_true_eq]
        exact ⟨hq, by omega⟩
    · rw [if_neg hq, if_pos rfl, if_neg]
      simp only [Bool.and_eq_true, decide_eq_true_eq]
      exact fun q => hq q.1
  · show q_X4_degradedAmong_L4 h A (m : Int) _ (f + 1) _ (nCl (vw h.1 A) : Int) = _
    rw [q_X4_degradedAmong_L4, a_n7 hc, if_pos (Int.le_refl _)]
theorem nset_congr {P Q : Nat → Bool} : ∀ n, (∀ k, k < n → P k = Q k) → nset P n = nset Q n := by
  intro n
  induction n with
  | zero => intro _; rfl
  | succ n ih =>
    intro h
    unfold nset
    rw [h n (by omega), ih (fun k q => h k (by omega))]
theorem op_52 : zI_52 (zInv B) B (B + 541) (B + 552) := by
  intro h hI hG
  have hcv := hI.cv
  have hn := hcv.2.nC
  have s1 : zSame B h (zput h (B + 541) 0 0) := zSame.rf.put sM0
  have hm := hI.mv.same s1
  refine ⟨zput h (B + 541) 0 0, ⟨((sDeg (vw h.1 (B + 1)) (fun k => decide (vw h.1 (B + 1) (25 + k) 5 = 1)) : Nat) : Int), ?_, ?_⟩, hI.same s1⟩
  · unfold q_X7_degradedNow
    have hs : sIn (vw h.1 (B + 1)) 1 < 65536 := nset_16 hn.2
    rw [hI.r0, e4_callsIn hcv, zbp_some, e4_degAmong hcv hs, zbp_some]
    have e : sDeg (vw h.1 (B + 1)) (fun k => (sIn (vw h.1 (B + 1)) 1).testBit k) = sDeg (vw h.1 (B + 1)) (fun k => decide (vw h.1 (B + 1) (25 + k) 5 = 1)) := by
      unfold sDeg
      refine nset_congr _ fun k hk => ?_
      have e2 : (sIn (vw h.1 (B + 1)) 1).testBit k = decide (vw h.1 (B + 1) (25 + k) 5 = 1) := by
        unfold sIn
        rw [nset_bit]
        simp [hk]
      show ((sIn (vw h.1 (B + 1)) 1).testBit k && _) = (decide (vw h.1 (B + 1) (25 + k) 5 = 1) && _)
      rw [e2]
    rw [e]
  · unfold q_X8_degradedNow
    simp only [zlet_b]
    refine zsetloop (L := fun f a i => q_X8_degradedNow_L9 (B + 541) (fun x _ h12 => some (x, h12)) f a i (zput h (B + 541) 0 0)) (kf := fun a => some (a, zput h (B + 541) 0 0)) (fun k => decide (vw h.1 (B + 1) (25 + k) 5 = 1) && decide (sMarg (vw h.1 (B + 1)) k (vw h.1 (B + 1) (5 + 2 * (vw h.1 (B + 1) (25 + k) 0).toNat) 5) (vw h.1 (B + 1) 0 0) < 0)) hn.2 (fun f i hi => ?_) (fun f => ?_)
    · have hi7 : (i : Int) < vw h.1 (B + 1) 0 7 := by omega
      show q_X8_degradedNow_L9 (B + 541) _ (f + 1) _ (i : Int) _ = _
      rw [q_X8_degradedNow_L9]
      simp only [zlet_b]
      rw [m_n7 hm, if_neg (by omega), m_act hm hi7, zbp_some, zor_z (nset_16 (by omega)), zw_s (by omega)]
      by_cases h5 : vw h.1 (B + 1) (25 + i) 5 = 1
      · rw [if_pos h5, if_neg one0, e8_marginNow hm hi7, zbp_some]
        generalize sMarg (vw h.1 (B + 1)) i _ _ = g
        by_cases hg : 0 ≤ g
        · rw [if_pos hg, if_neg]
          simp only [Bool.and_eq_true, decide_eq_true_eq]
          omega
        · rw [if_neg hg, if_pos]
          simp only [Bool.and_eq_true, decide_eq_true_eq]
          exact ⟨h5, by omega⟩
      · rw [if_neg h5, if_pos rfl, if_neg]
        simp only [Bool.and_eq_true, decide_eq_true_eq]
        exact fun q => h5 q.1
    · show q_X8_degradedNow_L9 (B + 541) _ (f + 1) _ (nCl (vw h.1 (B + 1)) : Int) _ = _
      rw [q_X8_degradedNow_L9, m_n7 hm, if_pos (Int.le_refl _)]
theorem op_12 : zI_12 (zInv B) B (B + 541) (B + 552) := by
  intro h hI hG a1 r1
  have hf := hI.wf.1
  refine lk_station hI (q7 := q_X7_timingError h B a1) (q8 := fun h' => q_X8_timingError h' (B + 541) a1) (fun n => vw h.1 (B + 1) (6 + 2 * n) (vw h.1 (B + 1) 0 0 % 64).toNat) (fun _ => rfl) (fun _ _ => rfl) (fun n hx hn => ?_) (fun n h' h2 hx hn hs hm h0 => ?_)
  · subst hx
    unfold q_X7_timingError
    rw [e7_station hI hn, zbp_some, hI.r0, a_0, e5_err hI.cv (n6 hI hn) hf.1 (by omega), zbp_some]
  · subst hx
    refine ⟨h2, ?_, zSame.rf, h0, rfl⟩
    have h6 := n6 hI hn
    have hj : (vw h.1 (B + 1) 0 0 % 64).toNat < 64 := by omega
    have t7 := (m_s hm hn).2.2.2.2.2.2.2 (vw h.1 (B + 1) 0 0 % 64).toNat hj
    have ep : q_X8_errorPlaceOf h2 (B + 541) (n : Int) (vw h.1 (B + 1) 0 0) = some (((20 + 64 * n + (vw h.1 (B + 1) 0 0 % 64).toNat : Nat)) : Int) := by
      unfold q_X8_errorPlaceOf
      have et : (vw h.1 (B + 1) 0 0).tmod 64 = ((vw h.1 (B + 1) 0 0 % 64).toNat : Int) := by
        rw [Int.tmod_eq_emod_of_nonneg hf.1]
        omega
      rw [zgz_pos (by decide), et, zw_id (x := 64 * (n : Int)) ⟨by omega, by omega⟩, zw_id (x := 20 + 64 * (n : Int)) ⟨by omega, by omega⟩, zw_id ⟨by omega, by omega⟩]
      congr 1
    show (if (1 : Int) = 0 then _ else _) = _
    rw [if_neg one0, m_now hm, ep, zbp_some, zgi_pos (by omega) (by omega), Int.toNat_natCast, t7]
end OPS
