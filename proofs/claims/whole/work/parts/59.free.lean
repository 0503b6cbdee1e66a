/-! Whether a start is free among laid bursts: the reference. -/
theorem zfs_none {P : Nat → Bool} : ∀ (m i : Nat), (∀ k, i ≤ k → k < i + m → ¬ P k = true) → zfs P m i = none := by
  intro m
  induction m with
  | zero => intro i _; rfl
  | succ m ih =>
    intro i h
    unfold zfs
    rw [if_neg (h i (Nat.le_refl _) (by omega))]
    exact ih (i + 1) (fun k h1 h2 => h k (by omega) (by omega))
theorem zfs_some {P : Nat → Bool} : ∀ (m i : Nat), (∃ k, i ≤ k ∧ k < i + m ∧ P k = true) → ∃ k, zfs P m i = some k := by
  intro m
  induction m with
  | zero => rintro i ⟨k, h1, h2, h3⟩; omega
  | succ m ih =>
    rintro i ⟨k, h1, h2, h3⟩
    unfold zfs
    by_cases q : P i = true
    · rw [if_pos q]; exact ⟨i, rfl⟩
    · rw [if_neg q]
      have : k ≠ i := fun z => q (z ▸ h3)
      exact ih (i + 1) ⟨k, by omega, by omega, h3⟩
section ML
variable {B : Nat} {h : zH} {v : Nat → Nat → Int}
/-- the laid burst l blocks k at t -/
abbrev isBlk (v : Nat → Nat → Int) (cr sr : Nat → Int) (k : Nat) (c t : Int) (l : Nat) : Prop := cr l ≠ -1 ∧ t < sr l + v (25 + l) 3 + v 1 1 ∧ sr l < t + v (25 + k) 3 + v 1 1 ∧ (cr l = c ∨ v (25 + l) 0 = v (25 + k) 0 ∨ v (25 + l) 1 = v (25 + k) 1)
def FitR (v : Nat → Nat → Int) (cr sr : Nat → Int) (k : Nat) (c t : Int) : Prop := t + v (25 + k) 3 + v 1 1 ≤ v 1 0 ∧ ∀ l, l < nCl v → ¬ isBlk v cr sr k c t l
theorem e8_isFree {T : Nat → Int} (hm : MVt h (B + 541) v T) {k : Nat} (hk : (k : Int) < v 0 7) (c : Int) {t : Int} (ht : 0 ≤ t ∧ t ≤ 10000) {cr sr : Nat → Int} (hc : ∀ l, l < nCl v → h.1 (B + 541 + 8) l = cr l) (hs : ∀ l, l < nCl v → h.1 (B + 541 + 9) l = sr l) (hb : ∀ l, l < nCl v → -1 ≤ sr l ∧ sr l ≤ 10000) :
    (FitR v cr sr k c t → q_X8_isFree h (B + 541) (k : Int) c t = some 1) ∧ (¬ FitR v cr sr k c t → q_X8_isFree h (B + 541) (k : Int) c t = some 0) := by
  have w := hm.2.1
  have hn := w.nC
  have hset := w.set
  have hbk := (w.2.2.2.2.2.2.2.2 k hk).2.2.2.2.1
  have m0 : h.1 (h.2 (B + 541) 5) 1 = v 1 0 := m_set hm (j := 0) (by decide)
  have m1 : h.1 (h.2 (B + 541) 5) 2 = v 1 1 := m_set hm (j := 1) (by decide)
  have e23 : h.2 (B + 541) 23 = B + 541 + 8 := hm.1 23
  have e24 : h.2 (B + 541) 24 = B + 541 + 9 := hm.1 24
  have w1 : zw (t + v (25 + k) 3) = t + v (25 + k) 3 := zw_id ⟨by omega, by omega⟩
  have w2 : zw (t + v (25 + k) 3 + v 1 1) = t + v (25 + k) 3 + v 1 1 := by clear w1; exact zw_id ⟨by omega, by omega⟩
  have key : q_X8_isFree h (B + 541) (k : Int) c t = (if t + v (25 + k) 3 + v 1 1 ≤ v 1 0 then (match zfs (fun l => decide (isBlk v cr sr k c t l)) (nCl v) 0 with | none => some (1 : Int) | some _ => some (0 : Int)) else some (0 : Int) : Option Int) := by
    unfold q_X8_isFree
    simp only [zlet_b]
    rw [m_burst hm hk, zbp_some, m0, m1, w1, w2]
    by_cases hq : t + v (25 + k) 3 + v 1 1 ≤ v 1 0
    · rw [if_pos hq, if_pos hq]
      refine zfind0 (L := fun f i => q_X8_isFree_L36 h (B + 541) (k : Int) c t (v 1 1) (t + v (25 + k) 3) (fun _ => some 1) f i) (N := nCl v) (fun l => decide (isBlk v cr sr k c t l)) (r := fun _ => some 0) (kf := some 1) (by clear w1 w2; omega) (fun f i hi => ?_) (fun f => ?_)
      · have hi7 : (i : Int) < v 0 7 := by clear w1 w2; omega
        have hi16 : i < 16 := by clear w1 w2; omega
        have hi6 : i < 1000000 := by clear w1 w2; omega
        have hni : ¬ (nCl v : Int) ≤ (i : Int) := by clear w1 w2; omega
        have hbi := hb i hi
        have hbu := (w.2.2.2.2.2.2.2.2 i hi7).2.2.2.2.1
        show q_X8_isFree_L36 h (B + 541) (k : Int) c t (v 1 1) (t + v (25 + k) 3) _ (f + 1) (i : Int) = _
        rw [q_X8_isFree_L36]
        simp only [zlet_b, zdec]
        rw [m_n7 hm, if_neg hni]
        simp only [zgpos hi16]
        rw [Int.toNat_natCast, e23, e24, hc i hi, hs i hi, zw_s hi6, m_0 hm hi7, m_0 hm hk, m_1 hm hi7, m_1 hm hk, m_burst hm hi7, w2]
        simp only [zbp_some]
        have w3 : zw (sr i + v (25 + i) 3) = sr i + v (25 + i) 3 := by clear w1 w2; exact zw_id ⟨by omega, by omega⟩
        have w4 : zw (sr i + v (25 + i) 3 + v 1 1) = sr i + v (25 + i) 3 + v 1 1 := by clear w1 w2 w3; exact zw_id ⟨by omega, by omega⟩
        rw [w3, w4]
        clear w1 w2 w3 w4
        by_cases q0 : cr i = -1
        · rw [if_pos q0, if_neg (fun z => z.1 q0)]
        · rw [if_neg q0]
          by_cases q1 : sr i + v (25 + i) 3 + v 1 1 ≤ t
          · rw [if_pos q1, if_neg one0, if_pos trivial, if_neg (show ¬ isBlk v cr sr k c t i from fun z => by have := z.2.1; omega)]
            split
            · rfl
            · split
              · rfl
              · split
                · rfl
                · rfl
          · by_cases q2 : t + v (25 + k) 3 + v 1 1 ≤ sr i
            · rw [if_neg q1, if_pos q2, if_neg one0, if_pos trivial, if_neg (show ¬ isBlk v cr sr k c t i from fun z => by have := z.2.2.1; omega)]
              split
              · rfl
              · split
                · rfl
                · split
                  · rfl
                  · rfl
            · rw [if_neg q1, if_neg q2, if_neg one0, if_pos trivial]
              by_cases q6 : cr i = c
              · rw [if_pos q6, if_pos ⟨q0, by omega, by omega, Or.inl q6⟩]
              · rw [if_neg q6]
                by_cases q7 : v (25 + i) 0 = v (25 + k) 0
                · rw [if_pos q7, if_pos ⟨q0, by omega, by omega, Or.inr (Or.inl q7)⟩]
                · rw [if_neg q7]
                  by_cases q8 : v (25 + i) 1 = v (25 + k) 1
                  · rw [if_pos q8, if_pos ⟨q0, by omega, by omega, Or.inr (Or.inr q8)⟩]
                  · rw [if_neg q8, if_neg (fun z => z.2.2.2.elim q6 (fun y => y.elim q7 q8))]
      · show q_X8_isFree_L36 h (B + 541) (k : Int) c t (v 1 1) (t + v (25 + k) 3) _ (f + 1) (nCl v : Int) = _
        rw [q_X8_isFree_L36, m_n7 hm, if_pos (Int.le_refl _)]
    · rw [if_neg hq, if_neg hq]
  clear w1 w2
  rw [key]
  constructor
  · intro hF
    rw [if_pos hF.1, zfs_none _ _ (fun l _ hl => by rw [zdec]; exact hF.2 l (by omega))]
  · intro hF
    by_cases hq : t + v (25 + k) 3 + v 1 1 ≤ v 1 0
    · rw [if_pos hq]
      obtain ⟨l, hl, hbl⟩ : ∃ l, l < nCl v ∧ isBlk v cr sr k c t l := by
        refine Classical.byContradiction fun z => hF ⟨hq, fun l hl hbl => z ⟨l, hl, hbl⟩⟩
      obtain ⟨j, hj⟩ := zfs_some (P := fun l => decide (isBlk v cr sr k c t l)) (nCl v) 0 ⟨l, Nat.zero_le _, by omega, by rw [zdec]; exact hbl⟩
      rw [hj]
    · rw [if_neg hq]
end ML
