/-! Finding a burst among laid ones: the reference. -/
/-- the best of what was tried -/
def BT (F : Int → Int → Prop) (C : Int) (T : Int → Int → Prop) (fc fs : Int) : Prop := (fc = -1 ∧ fs = -1 ∧ ∀ c t, T c t → ¬ F c t) ∨ ((0 ≤ fc ∧ fc < C) ∧ F fc fs ∧ ∀ c t, T c t → F c t → fs < t ∨ (fs = t ∧ fc ≤ c))
theorem BT.keep {F : Int → Int → Prop} {C : Int} {T T' : Int → Int → Prop} {fc fs : Int} (h : BT F C T fc fs) (hT : ∀ c t, T' c t → F c t → T c t ∨ (fc ≠ -1 ∧ (fs < t ∨ (fs = t ∧ fc ≤ c)))) : BT F C T' fc fs := by
  rcases h with ⟨h1, h2, h3⟩ | ⟨h1, h2, h3⟩
  · refine Or.inl ⟨h1, h2, fun c t q z => ?_⟩
    rcases hT c t q z with y | y
    · exact h3 c t y z
    · exact y.1 h1
  · refine Or.inr ⟨h1, h2, fun c t q z => ?_⟩
    rcases hT c t q z with y | y
    · exact h3 c t y z
    · exact y.2
theorem BT.new {F : Int → Int → Prop} {C : Int} {T T' : Int → Int → Prop} {fc fs c0 t0 : Int} (h : BT F C T fc fs) (hc : 0 ≤ c0 ∧ c0 < C) (hF : F c0 t0) (hs : fc = -1 ∨ t0 < fs ∨ (t0 = fs ∧ c0 < fc)) (hT : ∀ c t, T' c t → T c t ∨ (c = c0 ∧ t = t0)) : BT F C T' c0 t0 := by
  refine Or.inr ⟨hc, hF, fun c t q z => ?_⟩
  rcases hT c t q with y | ⟨y1, y2⟩
  · rcases h with ⟨h1, h2, h3⟩ | ⟨h1, h2, h3⟩
    · exact absurd z (h3 c t y)
    · have := h3 c t y z
      omega
  · omega
theorem zput4 {h : zH} {M : Nat} {a b c d : Int} : zput (zput (zput (zput h M 26 a) M 27 b) M 26 c) M 27 d = zput (zput h M 26 c) M 27 d := by
  refine Prod.ext ?_ rfl
  funext q i
  simp only [zput_1]
  by_cases e1 : q = M ∧ i = 27
  · rw [if_pos e1, if_pos e1]
  · rw [if_neg e1, if_neg e1]
    by_cases e2 : q = M ∧ i = 26
    · rw [if_pos e2, if_neg e1, if_pos e2]
    · rw [if_neg e2, if_neg e1, if_neg e2, if_neg e2]
section ML
variable {B : Nat}
/-- what trying a start may write -/
def z2x (B : Nat) (h : zH) (a b : Int) : zH := zput (zput h (B + 541) 26 a) (B + 541) 27 b
theorem z2x_same {h : zH} {a b : Int} : zSame B h (z2x B h a b) := (zSame.rf.put (by unfold zScrt; omega)).put (by unfold zScrt; omega)
theorem z2x_26 {h : zH} {a b : Int} : (z2x B h a b).1 (B + 541) 26 = a := by unfold z2x; rw [zput_ne (by omega), zput_self]
theorem z2x_27 {h : zH} {a b : Int} : (z2x B h a b).1 (B + 541) 27 = b := by unfold z2x; rw [zput_self]
theorem z2x_ne {h : zH} {a b : Int} {q j : Nat} (hn : ¬ (q = B + 541 ∧ (j = 26 ∨ j = 27))) : (z2x B h a b).1 q j = h.1 q j := by unfold z2x; rw [zput_ne (by omega), zput_ne (by omega)]
theorem z2x_2 {h : zH} {a b : Int} : (z2x B h a b).2 = h.2 := rfl
theorem z2x_4 {h : zH} {a b c d : Int} : zput (zput (z2x B h a b) (B + 541) 26 c) (B + 541) 27 d = z2x B h c d := zput4
/-- where a laid burst may begin -/
abbrev FL (v : Nat → Nat → Int) (cr sr : Nat → Int) (k : Nat) (c t : Int) : Prop := v 1 2 + v 1 1 ≤ t ∧ FitR v cr sr k c t
theorem FL.cand {v : Nat → Nat → Int} {cr sr : Nat → Int} {k : Nat} {c s : Int} (h : FL v cr sr k c s) (hl : ∀ t', t' < s → ¬ FL v cr sr k c t') : s = v 1 2 + v 1 1 ∨ ∃ l, l < nCl v ∧ cr l ≠ -1 ∧ s = sr l + v (25 + l) 3 + v 1 1 := by
  by_cases q : s = v 1 2 + v 1 1
  · exact Or.inl q
  · right
    obtain ⟨h1, h2, h3⟩ := h
    have hn := hl (s - 1) (by omega)
    refine Classical.byContradiction fun z => hn ⟨by omega, by omega, fun l hl hw => ?_⟩
    refine h3 l hl ⟨hw.1, ?_, ?_, hw.2.2.2⟩
    · have a := hw.2.1
      by_cases e : s = sr l + v (25 + l) 3 + v 1 1
      · exact absurd ⟨l, hl, hw.1, e⟩ z
      · omega
    · have := hw.2.2.1
      omega
theorem FL.least {v : Nat → Nat → Int} {cr sr : Nat → Int} {k : Nat} {c t : Int} (h : FL v cr sr k c t) : ∃ s, FL v cr sr k c s ∧ s ≤ t ∧ ∀ t', t' < s → ¬ FL v cr sr k c t' := by
  refine least_int (P := FL v cr sr k c) (lo := v 1 2 + v 1 1) (fun t' h' => h'.1) (t - (v 1 2 + v 1 1)).toNat t h ?_
  have := h.1
  omega
theorem BT.all {v : Nat → Nat → Int} {cr sr : Nat → Int} {k : Nat} {C fc fs : Int} {T : Int → Int → Prop} (h : BT (FL v cr sr k) C T fc fs) (hT : ∀ c s, 0 ≤ c → c < C → (s = v 1 2 + v 1 1 ∨ (v 1 2 + v 1 1 < s ∧ ∃ l, l < nCl v ∧ cr l ≠ -1 ∧ s = sr l + v (25 + l) 3 + v 1 1)) → T c s) : (fc = -1 ∧ fs = -1 ∧ ∀ c t, 0 ≤ c → c < C → ¬ FL v cr sr k c t) ∨ Bs (FL v cr sr k) C fc fs := by
  have hx : ∀ c t, 0 ≤ c → c < C → FL v cr sr k c t → ∃ s, FL v cr sr k c s ∧ s ≤ t ∧ T c s := by
    intro c t h0 h1 hF
    obtain ⟨s, s1, s2, s3⟩ := hF.least
    refine ⟨s, s1, s2, hT c s h0 h1 ?_⟩
    rcases s1.cand s3 with e | e
    · exact Or.inl e
    · by_cases e0 : s = v 1 2 + v 1 1
      · exact Or.inl e0
      · have := s1.1
        exact Or.inr ⟨by omega, e⟩
  rcases h with ⟨h1, h2, h3⟩ | ⟨h1, h2, h3⟩
  · refine Or.inl ⟨h1, h2, fun c t q0 q1 z => ?_⟩
    obtain ⟨s, s1, s2, s3⟩ := hx c t q0 q1 z
    exact h3 c s s3 s1
  · refine Or.inr ⟨h1, h2, fun c t q0 q1 z => ?_⟩
    obtain ⟨s, s1, s2, s3⟩ := hx c t q0 q1 z
    have := h3 c s s3 s1
    omega
theorem m_tries {h : zH} {v : Nat → Nat → Int} {T0 : Nat → Int} (hm : MVt h (B + 541) v T0) {k : Nat} (hk : (k : Int) < v 0 7) {cr sr : Nat → Int} (hr : ∀ l, l < nCl v → h.1 (B + 541 + 8) l = cr l ∧ h.1 (B + 541 + 9) l = sr l) (hb : ∀ l, l < nCl v → -1 ≤ sr l ∧ sr l ≤ 10000) {C : Nat} (hC : h.1 (B + 541) 25 = (C : Int)) (hC4 : C ≤ 4) {t : Int} (ht : v 1 2 + v 1 1 ≤ t ∧ t ≤ 10000) :
    ∀ (r i f : Nat) (T : Int → Int → Prop) (fc fs : Int), i + r = C → r < f → BT (FL v cr sr k) C T fc fs → ∃ fc' fs', q_X8_triesStart_L2 (B + 541) (k : Int) t (fun _ h19 => some ((), h19)) f (i : Int) (z2x B h fc fs) = some ((), z2x B h fc' fs') ∧ BT (FL v cr sr k) C (fun (c t' : Int) => T c t' ∨ (t' = t ∧ (i : Int) ≤ c ∧ c < C)) fc' fs' := by
  intro r
  induction r with
  | zero =>
    intro i f T fc fs q1 q2 hB
    obtain ⟨f', rfl⟩ : ∃ f', f = f' + 1 := ⟨f - 1, by omega⟩
    have e : i = C := by omega
    subst e
    refine ⟨fc, fs, ?_, hB.keep (fun c t' q z => ?_)⟩
    · rw [q_X8_triesStart_L2, z2x_ne (by omega), hC, if_pos (Int.le_refl _)]
    · rcases q with q | q
      · exact Or.inl q
      · omega
  | succ r ih =>
    intro i f T fc fs q1 q2 hB
    obtain ⟨f', rfl⟩ : ∃ f', f = f' + 1 := ⟨f - 1, by omega⟩
    have hset := hm.2.1.set
    have hi6 : i < 1000000 := by omega
    have hni : ¬ (C : Int) ≤ (i : Int) := by omega
    have sp : ∀ c t', (T c t' ∨ (t' = t ∧ (i : Int) ≤ c ∧ c < C)) → (T c t' ∨ (c = (i : Int) ∧ t' = t)) ∨ (t' = t ∧ ((i + 1 : Nat) : Int) ≤ c ∧ c < C) := fun c t' q => by
      rcases q with q | q
      · exact Or.inl (Or.inl q)
      · by_cases e : c = (i : Int)
        · exact Or.inl (Or.inr ⟨e, q.1⟩)
        · exact Or.inr ⟨q.1, by omega, q.2.2⟩
    have nx : ∀ fc fs, BT (FL v cr sr k) C (fun (c t' : Int) => T c t' ∨ (c = (i : Int) ∧ t' = t)) fc fs → ∃ fc' fs', q_X8_triesStart_L2 (B + 541) (k : Int) t (fun _ h19 => some ((), h19)) f' ((i + 1 : Nat) : Int) (z2x B h fc fs) = some ((), z2x B h fc' fs') ∧ BT (FL v cr sr k) C (fun (c t' : Int) => T c t' ∨ (t' = t ∧ (i : Int) ≤ c ∧ c < C)) fc' fs' := fun fc fs hB' => by
      obtain ⟨fc', fs', y1, y2⟩ := ih (i + 1) f' _ fc fs (by omega) (by omega) hB'
      exact ⟨fc', fs', y1, y2.keep (fun c t' q _ => Or.inl (sp c t' q))⟩
    have hg : MVt (z2x B h fc fs) (B + 541) v T0 := hm.same z2x_same
    have rg : ∀ l, l < nCl v → (z2x B h fc fs).1 (B + 541 + 8) l = cr l ∧ (z2x B h fc fs).1 (B + 541 + 9) l = sr l := fun l hl => by
      rw [z2x_ne (by omega), z2x_ne (by omega)]
      exact hr l hl
    obtain ⟨f1, f0⟩ := e8_isFree hg hk (i : Int) (t := t) (by omega) (cr := cr) (sr := sr) (fun l hl => (rg l hl).1) (fun l hl => (rg l hl).2) hb
    have goS : (fc = -1 ∨ t < fs ∨ (t = fs ∧ (i : Int) < fc)) → ∃ fc' fs', zbp (q_X8_isFree (z2x B h fc fs) (B + 541) (k : Int) (i : Int) t) (fun x1 => if x1 = 0 then q_X8_triesStart_L2 (B + 541) (k : Int) t (fun _ h19 => some ((), h19)) f' ((i + 1 : Nat) : Int) (z2x B h fc fs) else q_X8_triesStart_L2 (B + 541) (k : Int) t (fun _ h19 => some ((), h19)) f' ((i + 1 : Nat) : Int) (zput (zput (z2x B h fc fs) (B + 541) 26 (i : Int)) (B + 541) 27 t)) = some ((), z2x B h fc' fs') ∧ BT (FL v cr sr k) C (fun (c t' : Int) => T c t' ∨ (t' = t ∧ (i : Int) ≤ c ∧ c < C)) fc' fs' := by
      intro hs
      by_cases hF : FitR v cr sr k (i : Int) t
      · rw [f1 hF, zbp_some, if_neg one0, z2x_4]
        exact nx _ _ (hB.new ⟨by omega, by omega⟩ ⟨ht.1, hF⟩ hs (fun c t' q => q))
      · rw [f0 hF, zbp_some, if_pos rfl]
        refine nx _ _ (hB.keep (fun c t' q z => ?_))
        rcases q with q | q
        · exact Or.inl q
        · rw [q.1, q.2] at z
          exact absurd z.2 hF
    have goN : (fc ≠ -1 ∧ (fs < t ∨ (fs = t ∧ fc ≤ (i : Int)))) → ∃ fc' fs', q_X8_triesStart_L2 (B + 541) (k : Int) t (fun _ h19 => some ((), h19)) f' ((i + 1 : Nat) : Int) (z2x B h fc fs) = some ((), z2x B h fc' fs') ∧ BT (FL v cr sr k) C (fun (c t' : Int) => T c t' ∨ (t' = t ∧ (i : Int) ≤ c ∧ c < C)) fc' fs' := by
      intro hs
      refine nx _ _ (hB.keep (fun c t' q z => ?_))
      rcases q with q | q
      · exact Or.inl q
      · refine Or.inr ⟨hs.1, ?_⟩
        omega
    rw [q_X8_triesStart_L2, z2x_ne (by omega), hC, if_neg hni, z2x_26, z2x_27]
    simp only [zlet_b]
    rw [zw_s hi6]
    by_cases c1 : fc = -1
    · rw [if_pos c1, if_neg one0]
      exact goS (Or.inl c1)
    · rw [if_neg c1]
      by_cases c2 : t < fs
      · rw [if_pos c2, if_neg one0]
        exact goS (Or.inr (Or.inl c2))
      · rw [if_neg c2]
        by_cases c3 : t = fs
        · rw [if_pos c3]
          by_cases c4 : fc ≤ (i : Int)
          · rw [if_pos c4, if_pos trivial]
            exact goN ⟨c1, Or.inr ⟨c3.symm, c4⟩⟩
          · rw [if_neg c4, if_neg one0]
            exact goS (Or.inr (Or.inr ⟨c3, by omega⟩))
        · rw [if_neg c3, if_pos trivial]
          exact goN ⟨c1, Or.inl (by omega)⟩
theorem e8_tries {h : zH} {v : Nat → Nat → Int} {T0 : Nat → Int} (hm : MVt h (B + 541) v T0) {k : Nat} (hk : (k : Int) < v 0 7) {cr sr : Nat → Int} (hr : ∀ l, l < nCl v → h.1 (B + 541 + 8) l = cr l ∧ h.1 (B + 541 + 9) l = sr l) (hb : ∀ l, l < nCl v → -1 ≤ sr l ∧ sr l ≤ 10000) {C : Nat} (hC : h.1 (B + 541) 25 = (C : Int)) (hC4 : C ≤ 4) {t : Int} (ht : v 1 2 + v 1 1 ≤ t ∧ t ≤ 10000) {T : Int → Int → Prop} {fc fs : Int} (hB : BT (FL v cr sr k) C T fc fs) :
    ∃ fc' fs', q_X8_triesStart (z2x B h fc fs) (B + 541) (k : Int) t = some ((), z2x B h fc' fs') ∧ BT (FL v cr sr k) C (fun (c t' : Int) => T c t' ∨ (t' = t ∧ 0 ≤ c ∧ c < C)) fc' fs' :=
  m_tries hm hk hr hb hC hC4 ht C 0 zF T fc fs (Nat.zero_add _) (by unfold zF; omega) hB
theorem m_finds {h : zH} {v : Nat → Nat → Int} {T0 : Nat → Int} (hm : MVt h (B + 541) v T0) {k : Nat} (hk : (k : Int) < v 0 7) {cr sr : Nat → Int} (hr : ∀ l, l < nCl v → h.1 (B + 541 + 8) l = cr l ∧ h.1 (B + 541 + 9) l = sr l) (hb : ∀ l, l < nCl v → -1 ≤ sr l ∧ sr l ≤ v 1 0) {C : Nat} (hC : h.1 (B + 541) 25 = (C : Int)) (hC4 : C ≤ 4) {K : Int → zH → Option (Int × zH)} :
    ∀ (r i f : Nat) (T : Int → Int → Prop) (fc fs : Int), i + r = nCl v → r < f → BT (FL v cr sr k) C T fc fs → ∃ fc' fs', q_X8_finds_L32 (B + 541) (k : Int) (v 1 2 + v 1 1) K f (i : Int) (z2x B h fc fs) = K (nCl v : Int) (z2x B h fc' fs') ∧ BT (FL v cr sr k) C (fun (c t' : Int) => T c t' ∨ ((0 ≤ c ∧ c < C) ∧ v 1 2 + v 1 1 < t' ∧ ∃ l, i ≤ l ∧ l < nCl v ∧ cr l ≠ -1 ∧ t' = sr l + v (25 + l) 3 + v 1 1)) fc' fs' := by
  have w := hm.2.1
  have hn := w.nC
  have hset := w.set
  have hb' : ∀ l, l < nCl v → -1 ≤ sr l ∧ sr l ≤ 10000 := fun l hl => by
    have := hb l hl
    omega
  intro r
  induction r with
  | zero =>
    intro i f T fc fs q1 q2 hB
    obtain ⟨f', rfl⟩ : ∃ f', f = f' + 1 := ⟨f - 1, by omega⟩
    have e : i = nCl v := by omega
    subst e
    refine ⟨fc, fs, ?_, hB.keep (fun c t' q z => ?_)⟩
    · rw [q_X8_finds_L32, m_n7 (hm.same z2x_same), if_pos (Int.le_refl _)]
    · rcases q with q | ⟨_, _, l, y1, y2, _⟩
      · exact Or.inl q
      · omega
  | succ r ih =>
    intro i f T fc fs q1 q2 hB
    obtain ⟨f', rfl⟩ : ∃ f', f = f' + 1 := ⟨f - 1, by omega⟩
    have hi6 : i < 1000000 := by omega
    have hi16 : i < 16 := by omega
    have hi7 : (i : Int) < v 0 7 := by omega
    have hil : i < nCl v := by omega
    have hni : ¬ (nCl v : Int) ≤ (i : Int) := by omega
    have hg : MVt (z2x B h fc fs) (B + 541) v T0 := hm.same z2x_same
    have e23 : (z2x B h fc fs).2 (B + 541) 23 = B + 541 + 8 := hg.1 23
    have e24 : (z2x B h fc fs).2 (B + 541) 24 = B + 541 + 9 := hg.1 24
    have m1 : (z2x B h fc fs).1 ((z2x B h fc fs).2 (B + 541) 5) 2 = v 1 1 := m_set hg (j := 1) (by decide)
    have e8 : (z2x B h fc fs).1 (B + 541 + 8) i = cr i := by rw [z2x_ne (by omega)]; exact (hr i hil).1
    have e9 : (z2x B h fc fs).1 (B + 541 + 9) i = sr i := by rw [z2x_ne (by omega)]; exact (hr i hil).2
    have nx : ∀ (T' : Int → Int → Prop) (fc fs : Int), BT (FL v cr sr k) C T' fc fs → (∀ c t', T c t' → T' c t') → (∀ (c t' : Int), (0 ≤ c ∧ c < C) → v 1 2 + v 1 1 < t' → cr i ≠ -1 → t' = sr i + v (25 + i) 3 + v 1 1 → T' c t') → ∃ fc' fs', q_X8_finds_L32 (B + 541) (k : Int) (v 1 2 + v 1 1) K f' ((i + 1 : Nat) : Int) (z2x B h fc fs) = K (nCl v : Int) (z2x B h fc' fs') ∧ BT (FL v cr sr k) C (fun (c t' : Int) => T c t' ∨ ((0 ≤ c ∧ c < C) ∧ v 1 2 + v 1 1 < t' ∧ ∃ l, i ≤ l ∧ l < nCl v ∧ cr l ≠ -1 ∧ t' = sr l + v (25 + l) 3 + v 1 1)) fc' fs' := fun T' fc fs hB' hT1 hT2 => by
      obtain ⟨fc', fs', y1, y2⟩ := ih (i + 1) f' T' fc fs (by omega) (by omega) hB'
      refine ⟨fc', fs', y1, y2.keep (fun c t' q _ => Or.inl ?_)⟩
      rcases q with q | ⟨p1, p2, l, z1, z2, z3, z4⟩
      · exact Or.inl (hT1 c t' q)
      · by_cases e : l = i
        · subst e
          exact Or.inl (hT2 c t' p1 p2 z3 z4)
        · exact Or.inr ⟨p1, p2, l, by omega, z2, z3, z4⟩
    rw [q_X8_finds_L32, m_n7 hg, if_neg hni]
    simp only [zlet_b, zgpos hi16]
    rw [Int.toNat_natCast, e23, e24, e8, e9, m_burst hg hi7, zw_s hi6, m1]
    simp only [zbp_some]
    by_cases qc : cr i = -1
    · rw [if_pos qc, if_pos (Int.le_refl _)]
      exact nx T fc fs hB (fun _ _ z => z) (fun _ _ _ _ z => absurd qc z)
    · have hsb := hb i hil
      have hbu := (w.2.2.2.2.2.2.2.2 i hi7).2.2.2.2.1
      have w1 : zw (sr i + v (25 + i) 3) = sr i + v (25 + i) 3 := zw_id ⟨by omega, by omega⟩
      have w2 : zw (sr i + v (25 + i) 3 + v 1 1) = sr i + v (25 + i) 3 + v 1 1 := by clear w1; exact zw_id ⟨by omega, by omega⟩
      rw [if_neg qc, w1, w2]
      clear w1 w2
      by_cases ql : sr i + v (25 + i) 3 + v 1 1 ≤ v 1 2 + v 1 1
      · rw [if_pos ql]
        exact nx T fc fs hB (fun _ _ z => z) (fun _ _ _ z1 _ z2 => by omega)
      · rw [if_neg ql]
        obtain ⟨fc', fs', y1, y2⟩ := e8_tries hm hk hr hb' hC hC4 (t := sr i + v (25 + i) 3 + v 1 1) ⟨by omega, by omega⟩ hB
        rw [y1, zbd_some]
        exact nx _ fc' fs' y2 (fun _ _ z => Or.inl z) (fun c t' z1 _ _ z2 => Or.inr ⟨z2, z1.1, z1.2⟩)
/-- the reference finds the best place among laid bursts -/
theorem e8_finds {h : zH} {v : Nat → Nat → Int} {T0 : Nat → Int} (hm : MVt h (B + 541) v T0) {k : Nat} (hk : (k : Int) < v 0 7) {cr sr : Nat → Int} (hr : ∀ l, l < nCl v → h.1 (B + 541 + 8) l = cr l ∧ h.1 (B + 541 + 9) l = sr l) (hb : ∀ l, l < nCl v → -1 ≤ sr l ∧ sr l ≤ v 1 0) {C : Nat} (hC : h.1 (B + 541) 25 = (C : Int)) (hC4 : C ≤ 4) :
    ∃ r fc fs, q_X8_finds h (B + 541) (k : Int) = some (r, z2x B h fc fs) ∧ ((r = 0 ∧ fc = -1 ∧ ∀ c t : Int, 0 ≤ c → c < C → ¬ FL v cr sr k c t) ∨ (r = 1 ∧ Bs (FL v cr sr k) C fc fs)) := by
  have w := hm.2.1
  have hn := w.nC
  have hset := w.set
  have hb' : ∀ l, l < nCl v → -1 ≤ sr l ∧ sr l ≤ 10000 := fun l hl => by
    have := hb l hl
    omega
  have e0 : zput (zput h (B + 541) 26 (-1)) (B + 541) 27 (-1) = z2x B h (-1) (-1) := rfl
  have hg : MVt (z2x B h (-1) (-1)) (B + 541) v T0 := hm.same z2x_same
  have m1 : (z2x B h (-1) (-1)).1 ((z2x B h (-1) (-1)).2 (B + 541) 5) 2 = v 1 1 := m_set hg (j := 1) (by decide)
  have m2 : (z2x B h (-1) (-1)).1 ((z2x B h (-1) (-1)).2 (B + 541) 5) 3 = v 1 2 := m_set hg (j := 2) (by decide)
  have w0 : zw (v 1 2 + v 1 1) = v 1 2 + v 1 1 := zw_id ⟨by omega, by omega⟩
  unfold q_X8_finds
  simp only [zlet_b]
  rw [e0, m1, m2, w0]
  clear w0
  obtain ⟨fc1, fs1, y1, y2⟩ := e8_tries hm hk hr hb' hC hC4 (t := v 1 2 + v 1 1) (T := fun _ _ => False) (fc := -1) (fs := -1) ⟨Int.le_refl _, by omega⟩ (Or.inl ⟨rfl, rfl, fun _ _ z => absurd z id⟩)
  rw [y1, zbd_some]
  obtain ⟨fc, fs, x1, x2⟩ := m_finds hm hk hr hb hC hC4 (K := fun x13 h14 => if h14.1 (B + 541) 26 = (-1) then (some (0, h14)) else (some (1, h14))) (nCl v) 0 zF _ fc1 fs1 (Nat.zero_add _) (by unfold zF; omega) y2
  have x1' := x1
  rw [show ((0 : Nat) : Int) = 0 from rfl] at x1'
  rw [x1', z2x_26]
  rcases x2.all (fun c s h0 h1 hx => by
    rcases hx with hx | ⟨hx1, l, hx2, hx3, hx4⟩
    · exact Or.inl (Or.inr ⟨hx, h0, h1⟩)
    · exact Or.inr ⟨⟨h0, h1⟩, hx1, l, Nat.zero_le _, hx2, hx3, hx4⟩) with ⟨z1, z2, z3⟩ | z
  · rw [if_pos z1]
    exact ⟨0, fc, fs, rfl, Or.inl ⟨rfl, z1, z3⟩⟩
  · have hc0 := z.1.1
    rw [if_neg (by omega)]
    exact ⟨1, fc, fs, rfl, Or.inr ⟨rfl, z⟩⟩
end ML
