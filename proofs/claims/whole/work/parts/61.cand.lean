/-! The least start is the first of all, or behind some burst. -/
theorem least_int {P : Int → Prop} {lo : Int} (hlo : ∀ t, P t → lo ≤ t) : ∀ (n : Nat) (t : Int), P t → t ≤ lo + (n : Int) → ∃ s, P s ∧ s ≤ t ∧ ∀ t', t' < s → ¬ P t' := by
  intro n
  induction n with
  | zero =>
    intro t ht hn
    refine ⟨t, ht, Int.le_refl _, fun t' h1 h2 => ?_⟩
    have := hlo t' h2
    omega
  | succ n ih =>
    intro t ht hn
    by_cases q : ∃ t', t' < t ∧ P t'
    · obtain ⟨t', h1, h2⟩ := q
      obtain ⟨s, s1, s2, s3⟩ := ih t' h2 (by omega)
      exact ⟨s, s1, by omega, s3⟩
    · exact ⟨t, ht, Int.le_refl _, fun t' h1 h2 => q ⟨t', h1, h2⟩⟩
theorem Fit.least {v : Nat → Nat → Int} (w : WF v) {W : Nat → Prop} {k : Nat} {c t : Int} (h : Fit v W k c t) : ∃ s, Fit v W k c s ∧ s ≤ t ∧ ∀ t', t' < s → ¬ Fit v W k c t' := by
  refine least_int (P := Fit v W k c) (lo := 1) (fun t' h' => h'.pos w) t.toNat t h ?_
  have := h.pos w
  omega
/-- where the least start may be -/
theorem Fit.cand {v : Nat → Nat → Int} {W : Nat → Prop} {k : Nat} {c s : Int} (h : Fit v W k c s) (hl : ∀ t', t' < s → ¬ Fit v W k c t') : s = v 1 2 + v 1 1 ∨ ∃ l : Nat, (l : Int) < v 0 7 ∧ v (25 + l) 5 = 1 ∧ ¬ W l ∧ s = v (25 + l) 7 + v (25 + l) 3 + v 1 1 := by
  by_cases q : s = v 1 2 + v 1 1
  · exact Or.inl q
  · right
    obtain ⟨h1, h2, h3⟩ := Fit.iff.mp h
    have hn := hl (s - 1) (by omega)
    refine Classical.byContradiction fun z => hn (Fit.iff.mpr ⟨by omega, by omega, fun l hl hW hw => ?_⟩)
    refine h3 l hl hW ⟨hw.1, ?_, ?_, hw.2.2.2⟩
    · have a := hw.2.1
      by_cases e : s = v (25 + l) 7 + v (25 + l) 3 + v 1 1
      · exact absurd ⟨l, hl, hw.1, hW, e⟩ z
      · omega
    · have := hw.2.2.1
      omega
/-- the best of the candidates below n -/
def Bst (F : Int → Prop) (n : Nat) (cand : Nat → Int) (t0 b : Int) : Prop := (b = -1 ∧ ¬ F t0 ∧ ∀ l, l < n → t0 ≤ cand l → ¬ F (cand l)) ∨ (F b ∧ b ≠ -1 ∧ (F t0 → b ≤ t0) ∧ ∀ l, l < n → t0 ≤ cand l → F (cand l) → b ≤ cand l)
theorem Bst.least {v : Nat → Nat → Int} (w : WF v) {W : Nat → Prop} {k : Nat} {c b : Int} {cand : Nat → Int} (h : Bst (Fit v W k c) (nCl v) cand (v 1 2 + v 1 1) b) (hcand : ∀ l : Nat, (l : Int) < v 0 7 → v (25 + l) 5 = 1 → ¬ W l → cand l = v (25 + l) 7 + v (25 + l) 3 + v 1 1) : LSt v W k c b := by
  have hn := w.nC
  rcases h with ⟨h1, h2, h3⟩ | ⟨h1, h2, h3, h4⟩
  · refine Or.inr ⟨h1, fun t ht => ?_⟩
    obtain ⟨s, s1, s2, s3⟩ := ht.least w
    rcases s1.cand s3 with e | ⟨l, l1, l2, l3, e⟩
    · exact h2 (e ▸ s1)
    · have ec := hcand l l1 l2 l3
      have s0 := s1.1
      exact h3 l (by omega) (by omega) (by rw [ec, ← e]; exact s1)
  · refine Or.inl ⟨h1, fun t ht hF => ?_⟩
    obtain ⟨s, s1, s2, s3⟩ := hF.least w
    rcases s1.cand s3 with e | ⟨l, l1, l2, l3, e⟩
    · have := h3 (e ▸ s1)
      omega
    · have ec := hcand l l1 l2 l3
      have s0 := s1.1
      have := h4 l (by omega) (by omega) (by rw [ec, ← e]; exact s1)
      omega
/-- one more candidate -/
theorem Bst.step {F : Int → Prop} {n : Nat} {cand : Nat → Int} {t0 b : Int} (hF : ∀ t, F t → 1 ≤ t) (h : Bst F n cand t0 b) : (cand n < t0 → Bst F (n + 1) cand t0 b) ∧ (t0 ≤ cand n → ¬ F (cand n) → Bst F (n + 1) cand t0 b) ∧ (b ≠ -1 → b ≤ cand n → Bst F (n + 1) cand t0 b) ∧ (t0 ≤ cand n → F (cand n) → (b = -1 ∨ cand n < b) → Bst F (n + 1) cand t0 (cand n)) := by
  have split : ∀ {l : Nat}, l < n + 1 → l < n ∨ l = n := fun h => by omega
  refine ⟨fun q => ?_, fun q q2 => ?_, fun q q2 => ?_, fun q q2 q3 => ?_⟩
  · rcases h with ⟨h1, h2, h3⟩ | ⟨h1, h2, h3, h4⟩
    · refine Or.inl ⟨h1, h2, fun l hl => ?_⟩
      rcases split hl with hl | rfl
      · exact h3 l hl
      · intro z; omega
    · refine Or.inr ⟨h1, h2, h3, fun l hl => ?_⟩
      rcases split hl with hl | rfl
      · exact h4 l hl
      · intro z; omega
  · rcases h with ⟨h1, h2, h3⟩ | ⟨h1, h2, h3, h4⟩
    · refine Or.inl ⟨h1, h2, fun l hl => ?_⟩
      rcases split hl with hl | rfl
      · exact h3 l hl
      · exact fun _ => q2
    · refine Or.inr ⟨h1, h2, h3, fun l hl => ?_⟩
      rcases split hl with hl | rfl
      · exact h4 l hl
      · exact fun _ z => absurd z q2
  · rcases h with ⟨h1, h2, h3⟩ | ⟨h1, h2, h3, h4⟩
    · exact absurd h1 q
    · refine Or.inr ⟨h1, h2, h3, fun l hl => ?_⟩
      rcases split hl with hl | rfl
      · exact h4 l hl
      · exact fun _ _ => q2
  · have hp := hF _ q2
    rcases h with ⟨h1, h2, h3⟩ | ⟨h1, h2, h3, h4⟩
    · refine Or.inr ⟨q2, by omega, fun z => absurd z h2, fun l hl z1 z2 => ?_⟩
      rcases split hl with hl | rfl
      · exact absurd z2 (h3 l hl z1)
      · exact Int.le_refl _
    · refine Or.inr ⟨q2, by omega, fun z => ?_, fun l hl z1 z2 => ?_⟩
      · have := h3 z
        omega
      · rcases split hl with hl | rfl
        · have := h4 l hl z1 z2
          omega
        · exact Int.le_refl _
