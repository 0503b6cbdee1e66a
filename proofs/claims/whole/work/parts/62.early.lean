/-! The earliest start: the reference. -/
section ML
variable {B : Nat}
theorem layS_b {v : Nat → Nat → Int} (w : WF v) {x : Int} : ∀ l, l < nCl v → -1 ≤ layS v x l ∧ layS v x l ≤ 10000 := by
  intro l hl
  have hn := w.nC
  have hset := w.set
  unfold layS
  split
  · next q =>
    have ha := w.act (k := l) (by omega) q.1
    have hbu := (w.2.2.2.2.2.2.2.2 l (by omega)).2.2.2.2.1
    omega
  · omega
def lcand (v : Nat → Nat → Int) (x : Int) (l : Nat) : Int := if layC v x l = -1 then v 1 2 + v 1 1 else layS v x l + v (25 + l) 3 + v 1 1
theorem lcand_b {v : Nat → Nat → Int} (w : WF v) {x : Int} {l : Nat} (hl : l < nCl v) : 0 ≤ lcand v x l ∧ lcand v x l ≤ 10000 := by
  have hn := w.nC
  have hset := w.set
  unfold lcand layC layS
  by_cases q : v (25 + l) 5 = 1 ∧ ¬ awy x l = true
  · have ha := w.act (k := l) (by omega) q.1
    have hbu := (w.2.2.2.2.2.2.2.2 l (by omega)).2.2.2.2.1
    rw [if_pos q, if_pos q, if_neg (by omega)]
    omega
  · rw [if_neg q, if_pos rfl]
    omega
theorem m_early {h : zH} {v : Nat → Nat → Int} (hm : MV h (B + 541) v) {k : Nat} (hk : (k : Int) < v 0 7) (c x : Int) (hr : ∀ l, l < nCl v → h.1 (B + 541 + 8) l = layC v x l ∧ h.1 (B + 541 + 9) l = layS v x l) :
    ∀ (r i f : Nat) (b : Int), i + r = nCl v → r < f → Bst (Fit v (fun l => awy x l = true) k c) i (lcand v x) (v 1 2 + v 1 1) b →
    ∃ b', q_X8_earliestStart_L80 (B + 541) (k : Int) c (v 1 2 + v 1 1) (fun x26 _ h28 => some (x26, h28)) f b (i : Int) h = some (b', h) ∧ Bst (Fit v (fun l => awy x l = true) k c) (nCl v) (lcand v x) (v 1 2 + v 1 1) b' := by
  have w := hm.2.1
  have hn := w.nC
  have hset := w.set
  have hfree : ∀ t, v 1 2 + v 1 1 ≤ t → t ≤ 10000 → (Fit v (fun l => awy x l = true) k c t → q_X8_isFree h (B + 541) (k : Int) c t = some 1) ∧ (¬ Fit v (fun l => awy x l = true) k c t → q_X8_isFree h (B + 541) (k : Int) c t = some 0) := fun t h1 h2 => by
    have hf := e8_isFree hm hk c (t := t) (by omega) (cr := layC v x) (sr := layS v x) (fun l hl => (hr l hl).1) (fun l hl => (hr l hl).2) (layS_b w)
    exact ⟨fun z => hf.1 ((Fit.lay w).mp z).2, fun z => hf.2 (fun y => z ((Fit.lay w).mpr ⟨h1, y⟩))⟩
  have hpos : ∀ t, Fit v (fun l => awy x l = true) k c t → 1 ≤ t := fun t z => z.pos w
  intro r
  induction r with
  | zero =>
    intro i f b q1 q2 hB
    obtain ⟨f', rfl⟩ : ∃ f', f = f' + 1 := ⟨f - 1, by omega⟩
    have e : i = nCl v := by omega
    subst e
    refine ⟨b, ?_, hB⟩
    rw [q_X8_earliestStart_L80, m_n7 hm, if_pos (Int.le_refl _)]
  | succ r ih =>
    intro i f b q1 q2 hB
    obtain ⟨f', rfl⟩ : ∃ f', f = f' + 1 := ⟨f - 1, by omega⟩
    have hi7 : (i : Int) < v 0 7 := by omega
    have hi16 : i < 16 := by omega
    have hi6 : i < 1000000 := by omega
    have hni : ¬ (nCl v : Int) ≤ (i : Int) := by omega
    have e23 : h.2 (B + 541) 23 = B + 541 + 8 := hm.1 23
    have e24 : h.2 (B + 541) 24 = B + 541 + 9 := hm.1 24
    have m1 : h.1 (h.2 (B + 541) 5) 2 = v 1 1 := m_set hm (j := 1) (by decide)
    obtain ⟨s1, s2, s3, s4⟩ := hB.step hpos
    have hcb := lcand_b w (x := x) (l := i) (by omega)
    have next := fun b' hb' => ih (i + 1) f' b' (by omega) (by omega) hb'
    have go : ∃ b', (if lcand v x i < v 1 2 + v 1 1 then q_X8_earliestStart_L80 (B + 541) (k : Int) c (v 1 2 + v 1 1) (fun x26 _ h28 => some (x26, h28)) f' b ((i + 1 : Nat) : Int) h else (if b = -1 then (zbp (q_X8_isFree h (B + 541) (k : Int) c (lcand v x i)) (fun x11 => if x11 = 0 then q_X8_earliestStart_L80 (B + 541) (k : Int) c (v 1 2 + v 1 1) (fun x26 _ h28 => some (x26, h28)) f' b ((i + 1 : Nat) : Int) h else q_X8_earliestStart_L80 (B + 541) (k : Int) c (v 1 2 + v 1 1) (fun x26 _ h28 => some (x26, h28)) f' (lcand v x i) ((i + 1 : Nat) : Int) h)) else (if b ≤ lcand v x i then q_X8_earliestStart_L80 (B + 541) (k : Int) c (v 1 2 + v 1 1) (fun x26 _ h28 => some (x26, h28)) f' b ((i + 1 : Nat) : Int) h else (zbp (q_X8_isFree h (B + 541) (k : Int) c (lcand v x i)) (fun x11 => if x11 = 0 then q_X8_earliestStart_L80 (B + 541) (k : Int) c (v 1 2 + v 1 1) (fun x26 _ h28 => some (x26, h28)) f' b ((i + 1 : Nat) : Int) h else q_X8_earliestStart_L80 (B + 541) (k : Int) c (v 1 2 + v 1 1) (fun x26 _ h28 => some (x26, h28)) f' (lcand v x i) ((i + 1 : Nat) : Int) h))))) = some (b', h) ∧ Bst (Fit v (fun l => awy x l = true) k c) (nCl v) (lcand v x) (v 1 2 + v 1 1) b' := by
      by_cases q : lcand v x i < v 1 2 + v 1 1
      · rw [if_pos q]; exact next b (s1 q)
      · rw [if_neg q]
        obtain ⟨f1, f0⟩ := hfree (lcand v x i) (by omega) hcb.2
        by_cases qb : b = -1
        · rw [if_pos qb]
          by_cases hF : Fit v (fun l => awy x l = true) k c (lcand v x i)
          · rw [f1 hF, zbp_some, if_neg one0]; exact next _ (s4 (by omega) hF (Or.inl qb))
          · rw [f0 hF, zbp_some, if_pos rfl]; exact next _ (s2 (by omega) hF)
        · rw [if_neg qb]
          by_cases ql : b ≤ lcand v x i
          · rw [if_pos ql]; exact next _ (s3 qb ql)
          · rw [if_neg ql]
            by_cases hF : Fit v (fun l => awy x l = true) k c (lcand v x i)
            · rw [f1 hF, zbp_some, if_neg one0]; exact next _ (s4 (by omega) hF (Or.inr (by omega)))
            · rw [f0 hF, zbp_some, if_pos rfl]; exact next _ (s2 (by omega) hF)
    rw [q_X8_earliestStart_L80, m_n7 hm, if_neg hni]
    simp only [zlet_b, zgpos hi16]
    rw [Int.toNat_natCast, e23, e24, (hr i (by omega)).1, (hr i (by omega)).2, m_burst hm hi7, zw_s hi6, m1]
    simp only [zbp_some]
    by_cases qc : layC v x i = -1
    · have el : lcand v x i = v 1 2 + v 1 1 := by unfold lcand; rw [if_pos qc]
      rw [if_pos qc]
      rw [el] at go
      exact go
    · have el : lcand v x i = layS v x i + v (25 + i) 3 + v 1 1 := by unfold lcand; rw [if_neg qc]
      have hsb := layS_b w (x := x) i (by omega)
      have hbu := (w.2.2.2.2.2.2.2.2 i hi7).2.2.2.2.1
      have w1 : zw (layS v x i + v (25 + i) 3) = layS v x i + v (25 + i) 3 := zw_id ⟨by omega, by omega⟩
      have w2 : zw (layS v x i + v (25 + i) 3 + v 1 1) = layS v x i + v (25 + i) 3 + v 1 1 := by clear w1; exact zw_id ⟨by omega, by omega⟩
      rw [if_neg qc, w1, w2]
      rw [el] at go
      exact go
end ML
