/-! Places on a carrier, conflicts, the busiest station. -/
/-- how many k below n are so -/
def nct (P : Nat → Bool) : Nat → Nat
  | 0 => 0
  | n + 1 => if P n = true then nct P n + 1 else nct P n
theorem nct_le {P : Nat → Bool} : ∀ n, nct P n ≤ n := by
  intro n
  induction n with
  | zero => exact Nat.le_refl _
  | succ n ih =>
    unfold nct
    split <;> omega
theorem nct_s {P : Nat → Bool} {n : Nat} : nct P (n + 1) = if P n = true then nct P n + 1 else nct P n := rfl
theorem nct_congr {P Q : Nat → Bool} : ∀ n, (∀ k, k < n → P k = Q k) → nct P n = nct Q n := by
  intro n
  induction n with
  | zero => intro _; rfl
  | succ n ih =>
    intro h
    unfold nct
    rw [h n (by omega), ih (fun k q => h k (by omega))]
/-- a loop that counts -/
theorem zctloop {ρ : Type} {L : Nat → Int → Int → ρ} {N : Nat} (P : Nat → Bool) {kf : Int → ρ} (hN : N < 1000)
    (h1 : ∀ n i, i < N → L (n + 1) ((nct P i : Nat) : Int) (i : Int) = L n (if P i = true then ((nct P i + 1 : Nat) : Int) else ((nct P i : Nat) : Int)) ((i + 1 : Nat) : Int))
    (h2 : ∀ n, L (n + 1) ((nct P N : Nat) : Int) (N : Int) = kf ((nct P N : Nat) : Int)) : L zF 0 0 = kf ((nct P N : Nat) : Int) := by
  have e : ∀ i, zit (fun (a : Int) k => if P k = true then a + 1 else a) i 0 = ((nct P i : Nat) : Int) := by
    intro i
    induction i with
    | zero => rfl
    | succ i ih =>
      rw [zit_s, ih, nct_s]
      by_cases hp : P i = true
      · rw [if_pos hp, if_pos hp]; omega
      · rw [if_neg hp, if_neg hp]
  have := zloop0 (L := L) (N := N) (fun (a : Int) k => if P k = true then a + 1 else a) (s0 := 0) (kf := kf) (by omega) (fun n i hi => by
    rw [e i, e (i + 1), h1 n i hi, nct_s]
    by_cases hp : P i = true
    · rw [if_pos hp, if_pos hp]
    · rw [if_neg hp, if_neg hp]) (fun n => by rw [e N, h2 n])
  rw [e N] at this
  exact this
theorem WF.act {v : Nat → Nat → Int} (w : WF v) {k : Nat} (hk : (k : Int) < v 0 7) (h5 : v (25 + k) 5 = 1) : 0 ≤ v (25 + k) 9 ∧ (0 ≤ v (25 + k) 6 ∧ v (25 + k) 6 < v 0 1) ∧ (v 1 2 + v 1 1 ≤ v (25 + k) 7 ∧ v (25 + k) 7 + v (25 + k) 3 + v 1 1 ≤ v 1 0) := (w.2.2.2.2.2.2.2.2 k hk).2.2.2.2.2.2.2.2.2.2.2 h5
theorem zdec {p : Prop} [Decidable p] : decide p = true ↔ p := decide_eq_true_iff
section OPS
variable {B : Nat}
/-- the first call that is so, or -1 -/
def sFst (P : Nat → Bool) (n : Nat) : Int := match zfs P n 0 with | none => -1 | some k => (k : Int)
theorem op_44 : zI_44 (zInv B) B (B + 541) (B + 552) := by
  intro h hI hG a1 a2 r1 r2
  have hcv := hI.cv
  have hn := hcv.2.nC
  have hw := hcv.2
  have hset := hw.set
  generalize hv : vw h.1 (B + 1) = v at hn hw hset
  let P : Nat → Nat → Bool := fun c k => decide (v (25 + k) 5 = 1 ∧ v (25 + k) 6 = (c : Int) ∧ v (25 + k) 7 ≤ a2 ∧ a2 < v (25 + k) 7 + v (25 + k) 3)
  have hP : ∀ c k, P c k = true ↔ (v (25 + k) 5 = 1 ∧ v (25 + k) 6 = (c : Int) ∧ v (25 + k) 7 ≤ a2 ∧ a2 < v (25 + k) 7 + v (25 + k) 3) := fun c k => zdec
  refine lk_carrier hI (q7 := q_X7_callOver h B a1 a2) (q8 := fun h' => q_X8_callOver h' (B + 541) a1 a2) (fun n => sFst (P n) (nCl v)) (fun _ => rfl) (fun _ _ => rfl) (fun n hx hn' => ?_) (fun n h' h2 hx hn' hs hm h0 => ?_)
  · subst hx
    unfold q_X7_callOver
    rw [e7_carrier hI (by omega) (by omega), zbp_some]
    have key := zfind0 (L := fun f i => q_X7_callOver_L7 h B (n : Int) a2 (fun _ => some (-1)) f i) (N := nCl v) (P n) (r := fun k => some (k : Int)) (kf := some (-1)) (by omega) (fun f i hi => ?_) (fun f => ?_)
    · refine key.trans ?_
      unfold sFst
      generalize zfs _ _ _ = o
      cases o <;> rfl
    · have hi16 : i < 16 := by omega
      have e7 := a_n7 hcv
      rw [hv] at e7
      show q_X7_callOver_L7 h B (n : Int) a2 _ (f + 1) (i : Int) = _
      rw [q_X7_callOver_L7]
      simp only [zlet_b]
      rw [hI.r0, e7, if_neg (by omega), zgi_pos (by omega) (by omega), Int.toNat_natCast, a_call hcv, e4_isOn hi16, zbp_some, zw_s (by omega), a_c hi16, a_c hi16, hv]
      by_cases hq : v (25 + i) 5 = 1 ∧ v (25 + i) 6 = (n : Int)
      · have ha := hw.act (by omega) hq.1
        have hb := (hw.2.2.2.2.2.2.2.2 i (by omega)).2.2.2.2.1
        rw [if_pos hq, if_neg one0, zw_id (x := v (25 + i) 7 + v (25 + i) 3) ⟨by omega, by omega⟩]
        by_cases q1 : a2 < v (25 + i) 7
        · rw [if_pos q1, if_neg (fun q => by have := (hP n i).mp q; omega)]
        · rw [if_neg q1]
          by_cases q2 : v (25 + i) 7 + v (25 + i) 3 ≤ a2
          · rw [if_pos q2, if_neg (fun q => by have := (hP n i).mp q; omega)]
          · rw [if_neg q2, if_pos ((hP n i).mpr ⟨hq.1, hq.2, by omega, by omega⟩)]
      · rw [if_neg hq, if_pos rfl, if_neg (fun q => hq ⟨((hP n i).mp q).1, ((hP n i).mp q).2.1⟩)]
    · have e7 := a_n7 hcv
      rw [hv] at e7
      show q_X7_callOver_L7 h B (n : Int) a2 _ (f + 1) (nCl v : Int) = _
      rw [q_X7_callOver_L7, hI.r0, e7, if_pos (Int.le_refl _)]
  · subst hx
    rw [hv] at hm
    refine ⟨h2, ?_, zSame.rf, h0, rfl⟩
    show (if (1 : Int) = 0 then _ else _) = _
    rw [if_neg one0]
    have key := zfind0 (L := fun f i => q_X8_callOver_L16 (B + 541) (n : Int) a2 (fun _ h14 => some (-1, h14)) f i h2) (N := nCl v) (P n) (r := fun k => some ((k : Int), h2)) (kf := some (-1, h2)) (by omega) (fun f i hi => ?_) (fun f => ?_)
    · refine key.trans ?_
      unfold sFst
      generalize zfs _ _ _ = o
      cases o <;> rfl
    · have hi7 : (i : Int) < v 0 7 := by omega
      show q_X8_callOver_L16 (B + 541) (n : Int) a2 _ (f + 1) (i : Int) h2 = _
      rw [q_X8_callOver_L16]
      simp only [zlet_b]
      rw [m_n7 hm, if_neg (by omega), m_act hm hi7, zbp_some, zw_s (by omega)]
      by_cases h5 : v (25 + i) 5 = 1
      · have ha := hw.act (by omega) h5
        have hb := (hw.2.2.2.2.2.2.2.2 i (by omega)).2.2.2.2.1
        rw [if_pos h5, if_neg one0, m_6 hm hi7 h5, zbp_some]
        by_cases h6 : v (25 + i) 6 = (n : Int)
        · rw [if_pos h6, m_7 hm hi7 h5, zbp_some]
          by_cases q1 : a2 < v (25 + i) 7
          · rw [if_pos q1, if_neg (fun q => by have := (hP n i).mp q; omega)]
          · rw [if_neg q1, zbp_some, m_burst hm hi7, zbp_some, zw_id (x := v (25 + i) 7 + v (25 + i) 3) ⟨by omega, by omega⟩]
            by_cases q2 : v (25 + i) 7 + v (25 + i) 3 ≤ a2
            · rw [if_pos q2, if_neg (fun q => by have := (hP n i).mp q; omega)]
            · rw [if_neg q2, if_pos ((hP n i).mpr ⟨h5, h6, by omega, by omega⟩)]
        · rw [if_neg h6, if_neg (fun q => h6 ((hP n i).mp q).2.1)]
      · rw [if_neg h5, if_pos rfl, if_neg (fun q => h5 ((hP n i).mp q).1)]
    · show q_X8_callOver_L16 (B + 541) (n : Int) a2 _ (f + 1) (nCl v : Int) h2 = _
      rw [q_X8_callOver_L16, m_n7 hm, if_pos (Int.le_refl _)]
/-- the bursts of a carrier that begin before t -/
def sBef (v : Nat → Nat → Int) (c t : Int) : Nat := nct (fun k => decide (v (25 + k) 5 = 1 ∧ v (25 + k) 6 = c ∧ v (25 + k) 7 < t)) (nCl v)
theorem e4_before {h : zH} {A : Nat} (hc : CV h A) (c t : Int) : q_X4_burstsBefore h A c t = some ((sBef (vw h.1 A) c t : Nat) : Int) := by
  have hn := hc.2.nC
  unfold q_X4_burstsBefore
  refine zctloop (L := fun f a i => q_X4_burstsBefore_L5 h A c t (fun x _ => some x) f a i) (kf := fun a => some a) (fun k => decide (vw h.1 A (25 + k) 5 = 1 ∧ vw h.1 A (25 + k) 6 = c ∧ vw h.1 A (25 + k) 7 < t)) (by omega) (fun f i hi => ?_) (fun f => ?_)
  · have hi16 : i < 16 := by omega
    have hl := nct_le (P := fun k => decide (vw h.1 A (25 + k) 5 = 1 ∧ vw h.1 A (25 + k) 6 = c ∧ vw h.1 A (25 + k) 7 < t)) i
    show q_X4_burstsBefore_L5 h A c t _ (f + 1) _ (i : Int) = _
    rw [q_X4_burstsBefore_L5]
    simp only [zlet_b, zdec]
    generalize nct _ i = a at hl
    rw [a_n7 hc, if_neg (by omega), zgi_pos (by omega) (by omega), Int.toNat_natCast, a_call hc, e4_isOn hi16, zbp_some, zw_s (by omega), zgi_pos (by omega) (by omega), a_c hi16, zw_s (by omega)]
    by_cases hq : vw h.1 A (25 + i) 5 = 1 ∧ vw h.1 A (25 + i) 6 = c
    · rw [if_pos hq, if_neg one0]
      by_cases q1 : t ≤ vw h.1 A (25 + i) 7
      · rw [if_pos q1, if_neg (fun q => by omega)]
      · rw [if_neg q1, if_pos ⟨hq.1, hq.2, by omega⟩]
    · rw [if_neg hq, if_pos rfl, if_neg (fun q => hq ⟨q.1, q.2.1⟩)]
  · show q_X4_burstsBefore_L5 h A c t _ (f + 1) _ (nCl (vw h.1 A) : Int) = _
    rw [q_X4_burstsBefore_L5, a_n7 hc, if_pos (Int.le_refl _)]
theorem op_30 : zI_30 (zInv B) B (B + 541) (B + 552) := by
  intro h hI hG a1 a2 r1 r2
  have hcv := hI.cv
  have hn := hcv.2.nC
  have hw := hcv.2
  have eb := fun c t => e4_before hcv c t
  generalize hv : vw h.1 (B + 1) = v at hn hw eb
  let P : Nat → Nat → Bool := fun c k => decide (v (25 + k) 5 = 1 ∧ v (25 + k) 6 = (c : Int) ∧ ((sBef v (c : Int) (v (25 + k) 7) : Nat) : Int) = a2)
  have hP : ∀ c k, P c k = true ↔ (v (25 + k) 5 = 1 ∧ v (25 + k) 6 = (c : Int) ∧ ((sBef v (c : Int) (v (25 + k) 7) : Nat) : Int) = a2) := fun c k => zdec
  refine lk_carrier hI (q7 := q_X7_callAt h B a1 a2) (q8 := fun h' => q_X8_callAt h' (B + 541) a1 a2) (fun n => sFst (P n) (nCl v)) (fun _ => rfl) (fun _ _ => rfl) (fun n hx hn' => ?_) (fun n h' h2 hx hn' hs hm h0 => ?_)
  · subst hx
    unfold q_X7_callAt
    rw [e7_carrier hI (by omega) (by omega), zbp_some]
    have key := zfind0 (L := fun f i => q_X7_callAt_L7 h B (n : Int) a2 (fun _ => some (-1)) f i) (N := nCl v) (P n) (r := fun k => some (k : Int)) (kf := some (-1)) (by omega) (fun f i hi => ?_) (fun f => ?_)
    · refine key.trans ?_
      unfold sFst
      generalize zfs _ _ _ = o
      cases o <;> rfl
    · have hi16 : i < 16 := by omega
      have e7 := a_n7 hcv
      rw [hv] at e7
      show q_X7_callAt_L7 h B (n : Int) a2 _ (f + 1) (i : Int) = _
      rw [q_X7_callAt_L7]
      simp only [zlet_b]
      rw [hI.r0, e7, if_neg (by omega), zgi_pos (by omega) (by omega), Int.toNat_natCast, a_call hcv, e4_isOn hi16, zbp_some, zw_s (by omega), zgi_pos (by omega) (by omega), a_c hi16, eb, zbp_some, hv]
      by_cases hq : v (25 + i) 5 = 1 ∧ v (25 + i) 6 = (n : Int)
      · rw [if_pos hq, if_neg one0]
        by_cases q1 : ((sBef v (n : Int) (v (25 + i) 7) : Nat) : Int) = a2
        · rw [if_pos q1, if_pos ((hP n i).mpr ⟨hq.1, hq.2, q1⟩)]
        · rw [if_neg q1, if_neg (fun q => q1 ((hP n i).mp q).2.2)]
      · rw [if_neg hq, if_pos rfl, if_neg (fun q => hq ⟨((hP n i).mp q).1, ((hP n i).mp q).2.1⟩)]
    · have e7 := a_n7 hcv
      rw [hv] at e7
      show q_X7_callAt_L7 h B (n : Int) a2 _ (f + 1) (nCl v : Int) = _
      rw [q_X7_callAt_L7, hI.r0, e7, if_pos (Int.le_refl _)]
  · subst hx
    rw [hv] at hm
    refine ⟨h2, ?_, zSame.rf, h0, rfl⟩
    show (if (1 : Int) = 0 then _ else _) = _
    rw [if_neg one0]
    have inner : ∀ (i : Nat), (i : Int) < v 0 7 → v (25 + i) 5 = 1 → ∀ kk : Int → Int → zH → Option (Int × zH), q_X8_callAt_L56 (B + 541) (n : Int) a2 (i : Int) kk zF 0 0 h2 = kk ((sBef v (n : Int) (v (25 + i) 7) : Nat) : Int) (nCl v : Int) h2 := by
      intro i hi hi5 kk
      refine zctloop (L := fun f a j => q_X8_callAt_L56 (B + 541) (n : Int) a2 (i : Int) kk f a j h2) (kf := fun a => kk a (nCl v : Int) h2) (fun k => decide (v (25 + k) 5 = 1 ∧ v (25 + k) 6 = (n : Int) ∧ v (25 + k) 7 < v (25 + i) 7)) (by omega) (fun f j hj => ?_) (fun f => ?_)
      · have hj7 : (j : Int) < v 0 7 := by omega
        have hl := nct_le (P := fun k => decide (v (25 + k) 5 = 1 ∧ v (25 + k) 6 = (n : Int) ∧ v (25 + k) 7 < v (25 + i) 7)) j
        show q_X8_callAt_L56 (B + 541) (n : Int) a2 (i : Int) kk (f + 1) _ (j : Int) h2 = _
        rw [q_X8_callAt_L56]
        simp only [zlet_b, zdec]
        generalize nct _ j = a at hl
        rw [m_n7 hm, if_neg (by omega), m_act hm hj7, zbp_some, zw_s (i := j) (by omega), zw_0 ⟨by omega, by omega⟩, zw_s (i := a) (by omega)]
        by_cases h5 : v (25 + j) 5 = 1
        · rw [if_pos h5, if_neg one0, m_6 hm hj7 h5, zbp_some]
          by_cases h6 : v (25 + j) 6 = (n : Int)
          · rw [if_pos h6, m_7 hm hj7 h5, zbp_some, m_7 hm hi hi5, zbp_some]
            by_cases q1 : v (25 + i) 7 ≤ v (25 + j) 7
            · rw [if_pos q1, if_neg (fun q => by omega)]
            · rw [if_neg q1, if_pos ⟨h5, h6, by omega⟩]
          · rw [if_neg h6, if_neg (fun q => h6 q.2.1)]
        · rw [if_neg h5, if_pos rfl, if_neg (fun q => h5 q.1)]
      · show q_X8_callAt_L56 (B + 541) (n : Int) a2 (i : Int) kk (f + 1) _ (nCl v : Int) h2 = _
        rw [q_X8_callAt_L56, m_n7 hm, if_pos (Int.le_refl _)]
    have key := zfind0 (L := fun f i => q_X8_callAt_L16 (B + 541) (n : Int) a2 (fun _ h14 => some (-1, h14)) f i h2) (N := nCl v) (P n) (r := fun k => some ((k : Int), h2)) (kf := some (-1, h2)) (by omega) (fun f i hi => ?_) (fun f => ?_)
    · refine key.trans ?_
      unfold sFst
      generalize zfs _ _ _ = o
      cases o <;> rfl
    · have hi7 : (i : Int) < v 0 7 := by omega
      show q_X8_callAt_L16 (B + 541) (n : Int) a2 _ (f + 1) (i : Int) h2 = _
      rw [q_X8_callAt_L16]
      simp only [zlet_b]
      rw [m_n7 hm, if_neg (by omega), m_act hm hi7, zbp_some, zw_s (by omega)]
      by_cases h5 : v (25 + i) 5 = 1
      · rw [if_pos h5, if_neg one0, m_6 hm hi7 h5, zbp_some]
        by_cases h6 : v (25 + i) 6 = (n : Int)
        · rw [if_pos h6, inner i hi7 h5]
          by_cases q1 : ((sBef v (n : Int) (v (25 + i) 7) : Nat) : Int) = a2
          · rw [if_pos q1, if_pos ((hP n i).mpr ⟨h5, h6, q1⟩)]
          · rw [if_neg q1, if_neg (fun q => q1 ((hP n i).mp q).2.2)]
        · rw [if_neg h6, if_neg (fun q => h6 ((hP n i).mp q).2.1)]
      · rw [if_neg h5, if_pos rfl, if_neg (fun q => h5 ((hP n i).mp q).1)]
    · show q_X8_callAt_L16 (B + 541) (n : Int) a2 _ (f + 1) (nCl v : Int) h2 = _
      rw [q_X8_callAt_L16, m_n7 hm, if_pos (Int.le_refl _)]
/-- the active calls with a station -/
def sWith (v : Nat → Nat → Int) (s : Int) : Nat := nct (fun k => decide (v (25 + k) 5 = 1 ∧ (v (25 + k) 0 = s ∨ v (25 + k) 1 = s))) (nCl v)
theorem e4_with {h : zH} {A : Nat} (hc : CV h A) (s : Int) : q_X4_activeCallsWith h A s = some ((sWith (vw h.1 A) s : Nat) : Int) := by
  have hn := hc.2.nC
  unfold q_X4_activeCallsWith
  refine zctloop (L := fun f a i => q_X4_activeCallsWith_L4 h A s (fun x _ => some x) f a i) (kf := fun a => some a) (fun k => decide (vw h.1 A (25 + k) 5 = 1 ∧ (vw h.1 A (25 + k) 0 = s ∨ vw h.1 A (25 + k) 1 = s))) (by omega) (fun f i hi => ?_) (fun f => ?_)
  · have hi16 : i < 16 := by omega
    have hl := nct_le (P := fun k => decide (vw h.1 A (25 + k) 5 = 1 ∧ (vw h.1 A (25 + k) 0 = s ∨ vw h.1 A (25 + k) 1 = s))) i
    show q_X4_activeCallsWith_L4 h A s _ (f + 1) _ (i : Int) = _
    rw [q_X4_activeCallsWith_L4]
    simp only [zlet_b, zdec]
    generalize nct _ i = a at hl
    rw [a_n7 hc, if_neg (by omega), zgi_pos (by omega) (by omega), Int.toNat_natCast, a_call hc, a_c hi16, a_c hi16, a_c hi16, zw_s (i := i) (by omega), zw_s (i := a) (by omega)]
    by_cases h5 : vw h.1 A (25 + i) 5 = 1
    · rw [if_pos h5]
      by_cases q0 : vw h.1 A (25 + i) 0 = s
      · rw [if_pos q0, if_pos ⟨h5, Or.inl q0⟩]
      · rw [if_neg q0]
        by_cases q1 : vw h.1 A (25 + i) 1 = s
        · rw [if_pos q1, if_pos ⟨h5, Or.inr q1⟩]
        · rw [if_neg q1, if_neg (fun q => q.2.elim q0 q1)]
    · rw [if_neg h5, if_neg (fun q => h5 q.1)]
  · show q_X4_activeCallsWith_L4 h A s _ (f + 1) _ (nCl (vw h.1 A) : Int) = _
    rw [q_X4_activeCallsWith_L4, a_n7 hc, if_pos (Int.le_refl _)]
def sBus (v : Nat → Nat → Int) : Int × Int := zit (fun (p : Int × Int) s => if ((sWith v (s : Int) : Nat) : Int) ≤ p.2 then p else ((s : Int), ((sWith v (s : Int) : Nat) : Int))) (nSt v) (-1, 0)
theorem op_47 : zI_47 (zInv B) B (B + 541) (B + 552) := by
  intro h hI hG
  have hcv := hI.cv
  have hn := hcv.2.nC
  have hns := hcv.2.nS
  have s1 : zSame B h (zput h (B + 541) 0 0) := zSame.rf.put sM0
  have hm := hI.mv.same s1
  have ew := fun s => e4_with hcv s
  have e3 := a_n3 hcv
  generalize hv : vw h.1 (B + 1) = v at hn hm ew hns e3
  refine ⟨zput h (B + 541) 0 0, ⟨(sBus v).1, ?_, ?_⟩, hI.same s1⟩
  · unfold q_X7_busiestStation
    refine zloopS (N := nSt v) (s0 := ((-1 : Int), (0 : Int))) (L := fun f (p : Int × Int) i => q_X7_busiestStation_L6 h B (fun x _ _ => some x) f p.1 p.2 i) (kf := fun p => some p.1) (fun (p : Int × Int) s => if ((sWith v (s : Int) : Nat) : Int) ≤ p.2 then p else ((s : Int), ((sWith v (s : Int) : Nat) : Int))) (by omega) (fun f p i hi => ?_) (fun f p => ?_)
    · show q_X7_busiestStation_L6 h B _ (f + 1) p.1 p.2 (i : Int) = _
      rw [q_X7_busiestStation_L6]
      simp only [zlet_b]
      rw [hI.r0, e3, if_neg (by omega), ew, zbp_some, zw_s (by omega)]
      by_cases q : ((sWith v (i : Int) : Nat) : Int) ≤ p.2
      · rw [if_pos q, if_pos q]
      · rw [if_neg q, if_neg q]
    · show q_X7_busiestStation_L6 h B _ (f + 1) p.1 p.2 (nSt v : Int) = _
      rw [q_X7_busiestStation_L6, hI.r0, e3, if_pos (Int.le_refl _)]
  · unfold q_X8_busiestStation
    simp only [zlet_b]
    generalize zput h (B + 541) 0 0 = h2 at hm
    have inner : ∀ (x1 x2 : Int) (s : Nat) (kk : Int → Int → zH → Option (Int × zH)), q_X8_busiestStation_L28 (B + 541) x1 x2 (s : Int) kk zF 0 0 h2 = kk ((sWith v (s : Int) : Nat) : Int) (nCl v : Int) h2 := by
      intro x1 x2 s kk
      refine zctloop (L := fun f a j => q_X8_busiestStation_L28 (B + 541) x1 x2 (s : Int) kk f a j h2) (kf := fun a => kk a (nCl v : Int) h2) (fun k => decide (v (25 + k) 5 = 1 ∧ (v (25 + k) 0 = (s : Int) ∨ v (25 + k) 1 = (s : Int)))) (by omega) (fun f j hj => ?_) (fun f => ?_)
      · have hj7 : (j : Int) < v 0 7 := by omega
        have hl := nct_le (P := fun k => decide (v (25 + k) 5 = 1 ∧ (v (25 + k) 0 = (s : Int) ∨ v (25 + k) 1 = (s : Int)))) j
        show q_X8_busiestStation_L28 (B + 541) x1 x2 (s : Int) kk (f + 1) _ (j : Int) h2 = _
        rw [q_X8_busiestStation_L28]
        simp only [zlet_b, zdec]
        generalize nct _ j = a at hl
        rw [m_n7 hm, if_neg (by omega), m_act hm hj7, zbp_some, zw_s (i := j) (by omega), zw_0 ⟨by omega, by omega⟩, zw_s (i := a) (by omega), m_0 hm hj7, zbp_some, m_1 hm hj7, zbp_some]
        by_cases h5 : v (25 + j) 5 = 1
        · rw [if_pos h5, if_neg one0]
          by_cases q0 : v (25 + j) 0 = (s : Int)
          · rw [if_pos q0, if_pos ⟨h5, Or.inl q0⟩]
          · rw [if_neg q0]
            by_cases q1 : v (25 + j) 1 = (s : Int)
            · rw [if_pos q1, if_pos ⟨h5, Or.inr q1⟩]
            · rw [if_neg q1, if_neg (fun q => q.2.elim q0 q1)]
        · rw [if_neg h5, if_pos rfl, if_neg (fun q => h5 q.1)]
      · show q_X8_busiestStation_L28 (B + 541) x1 x2 (s : Int) kk (f + 1) _ (nCl v : Int) h2 = _
        rw [q_X8_busiestStation_L28, m_n7 hm, if_pos (Int.le_refl _)]
    refine zloopS (N := nSt v) (s0 := ((-1 : Int), (0 : Int))) (L := fun f (p : Int × Int) i => q_X8_busiestStation_L11 (B + 541) (fun x _ _ h21 => some (x, h21)) f p.1 p.2 i h2) (kf := fun p => some (p.1, h2)) (fun (p : Int × Int) s => if ((sWith v (s : Int) : Nat) : Int) ≤ p.2 then p else ((s : Int), ((sWith v (s : Int) : Nat) : Int))) (by omega) (fun f p i hi => ?_) (fun f p => ?_)
    · show q_X8_busiestStation_L11 (B + 541) _ (f + 1) p.1 p.2 (i : Int) h2 = _
      rw [q_X8_busiestStation_L11]
      simp only [zlet_b]
      rw [m_n3 hm, if_neg (by omega), inner, zw_s (by omega)]
      by_cases q : ((sWith v (i : Int) : Nat) : Int) ≤ p.2
      · rw [if_neg (by omega), if_pos q]
      · rw [if_pos (by omega), if_neg q]
    · show q_X8_busiestStation_L11 (B + 541) _ (f + 1) p.1 p.2 (nSt v : Int) h2 = _
      rw [q_X8_busiestStation_L11, m_n3 hm, if_pos (Int.le_refl _)]
theorem nset_none {P : Nat → Bool} : ∀ n, (∀ k, k < n → ¬ P k = true) → nset P n = 0 := by
  intro n
  induction n with
  | zero => intro _; rfl
  | succ n ih =>
    intro h
    unfold nset
    rw [if_neg (h n (by omega)), ih (fun k q => h k (by omega))]
theorem op_46 : zI_46 (zInv B) B (B + 541) (B + 552) := by
  intro h hI hG a1 r1
  have hcv := hI.cv
  have hn := hcv.2.nC
  have e7 := a_n7 hcv
  generalize hv : vw h.1 (B + 1) = v at hn e7
  let P : Nat → Nat → Bool := fun n k => decide (k ≠ n ∧ v (25 + n) 5 = 1 ∧ v (25 + k) 5 = 1 ∧ (v (25 + k) 6 = v (25 + n) 6 ∨ v (25 + k) 0 = v (25 + n) 0 ∨ v (25 + k) 1 = v (25 + n) 1))
  have hP : ∀ n k, P n k = true ↔ (k ≠ n ∧ v (25 + n) 5 = 1 ∧ v (25 + k) 5 = 1 ∧ (v (25 + k) 6 = v (25 + n) 6 ∨ v (25 + k) 0 = v (25 + n) 0 ∨ v (25 + k) 1 = v (25 + n) 1)) := fun n k => zdec
  refine lk_call hI (q7 := q_X7_conflicts h B a1) (q8 := fun h' => q_X8_conflicts h' (B + 541) a1) (fun n => ((nset (P n) (nCl v) : Nat) : Int)) (fun _ => rfl) (fun _ _ => rfl) (fun n hx hn' => ?_) (fun n h' h2 hx hn' hs hm h0 => ?_)
  · subst hx
    rw [hv] at hn'
    have hn16 : n < 16 := by omega
    unfold q_X7_conflicts
    rw [e7_call hI (by rw [hv]; exact hn'), zbp_some, a_c hn16, hv]
    by_cases ha : v (25 + n) 5 = 1
    · rw [if_pos ha]
      refine zsetloop (L := fun f a i => q_X7_conflicts_L21 h B (n : Int) (B + 1 + (25 + n)) (fun x _ => some x) f a i) (kf := fun a => some a) (P n) hn.2 (fun f i hi => ?_) (fun f => ?_)
      · have hi16 : i < 16 := by omega
        show q_X7_conflicts_L21 h B (n : Int) _ _ (f + 1) _ (i : Int) = _
        rw [q_X7_conflicts_L21]
        simp only [zlet_b]
        unfold q_X0_conflictsWith
        rw [hI.r0, e7, if_neg (by omega), zgi_pos (by omega) (by omega), Int.toNat_natCast, a_call hcv, a_c hi16, a_c hi16, a_c hi16, a_c hi16, a_c hn16, a_c hn16, a_c hn16, zw_s (by omega), hv]
        by_cases hq : (i : Int) = (n : Int)
        · rw [if_pos hq, if_neg (fun q => ((hP n i).mp q).1 (by omega))]
        · rw [if_neg hq]
          by_cases h5 : v (25 + i) 5 = 1
          · rw [if_pos h5]
            by_cases q6 : v (25 + i) 6 = v (25 + n) 6
            · rw [if_pos q6, zbp_some, if_neg one0, if_pos ((hP n i).mpr ⟨by omega, ha, h5, Or.inl q6⟩)]
            · rw [if_neg q6]
              by_cases q0 : v (25 + i) 0 = v (25 + n) 0
              · rw [if_pos q0, zbp_some, if_neg one0, if_pos ((hP n i).mpr ⟨by omega, ha, h5, Or.inr (Or.inl q0)⟩)]
              · rw [if_neg q0]
                by_cases q1 : v (25 + i) 1 = v (25 + n) 1
                · rw [if_pos q1, zbp_some, if_neg one0, if_pos ((hP n i).mpr ⟨by omega, ha, h5, Or.inr (Or.inr q1)⟩)]
                · rw [if_neg q1, zbp_some, if_pos rfl, if_neg (fun q => ((hP n i).mp q).2.2.2.elim q6 (fun z => z.elim q0 q1))]
          · rw [if_neg h5, if_neg (fun q => h5 ((hP n i).mp q).2.2.1)]
      · show q_X7_conflicts_L21 h B (n : Int) _ _ (f + 1) _ (nCl v : Int) = _
        rw [q_X7_conflicts_L21, hI.r0, e7, if_pos (Int.le_refl _)]
    · rw [if_neg ha, nset_none _ (fun k _ q => ha ((hP n k).mp q).2.1)]
      rfl
  · subst hx
    rw [hv] at hm hn'
    refine ⟨h2, ?_, zSame.rf, h0, rfl⟩
    show (if (1 : Int) = 0 then _ else _) = _
    rw [if_neg one0]
    refine zsetloop (L := fun f a i => q_X8_conflicts_L18 (B + 541) (n : Int) (fun x _ h25 => some (x, h25)) f a i h2) (kf := fun a => some (a, h2)) (P n) hn.2 (fun f i hi => ?_) (fun f => ?_)
    · have hi7 : (i : Int) < v 0 7 := by omega
      have hl : nset (P n) i < 65536 := nset_16 (by omega)
      show q_X8_conflicts_L18 (B + 541) (n : Int) _ (f + 1) _ (i : Int) h2 = _
      rw [q_X8_conflicts_L18]
      simp only [zlet_b]
      rw [m_n7 hm, if_neg (by omega), m_act hm hi7, zbp_some, zw_s (by omega), m_act hm hn', zbp_some, zor_z hl, m_0 hm hi7, m_0 hm hn', m_1 hm hi7, m_1 hm hn', zbp_some, zbp_some, zbp_some, zbp_some]
      by_cases hq : (i : Int) = (n : Int)
      · rw [if_pos hq, if_neg (fun q => ((hP n i).mp q).1 (by omega))]
      · rw [if_neg hq]
        by_cases h5 : v (25 + i) 5 = 1
        · rw [if_pos h5, if_neg one0]
          by_cases ha : v (25 + n) 5 = 1
          · rw [if_pos ha, if_neg one0, m_6 hm hi7 h5, m_6 hm hn' ha, zbp_some, zbp_some]
            by_cases q6 : v (25 + i) 6 = v (25 + n) 6
            · rw [if_pos q6, if_neg one0, if_pos ((hP n i).mpr ⟨by omega, ha, h5, Or.inl q6⟩)]
            · rw [if_neg q6]
              by_cases q0 : v (25 + i) 0 = v (25 + n) 0
              · rw [if_pos q0, if_neg one0, if_pos ((hP n i).mpr ⟨by omega, ha, h5, Or.inr (Or.inl q0)⟩)]
              · rw [if_neg q0]
                by_cases q1 : v (25 + i) 1 = v (25 + n) 1
                · rw [if_pos q1, if_neg one0, if_pos ((hP n i).mpr ⟨by omega, ha, h5, Or.inr (Or.inr q1)⟩)]
                · rw [if_neg q1, if_pos trivial, if_neg (fun q => ((hP n i).mp q).2.2.2.elim q6 (fun z => z.elim q0 q1))]
          · rw [if_neg ha, if_pos rfl, if_neg (fun q => ha ((hP n i).mp q).2.1)]
        · rw [if_neg h5, if_pos rfl, if_neg (fun q => h5 ((hP n i).mp q).2.2.1)]
    · show q_X8_conflicts_L18 (B + 541) (n : Int) _ (f + 1) _ (nCl v : Int) h2 = _
      rw [q_X8_conflicts_L18, m_n7 hm, if_pos (Int.le_refl _)]
end OPS
