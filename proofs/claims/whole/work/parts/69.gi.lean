/-! What holds behind a run. -/
def zSep (v : Nat → Nat → Int) : Prop := ∀ k l : Nat, (k : Int) < v 0 7 → (l : Int) < v 0 7 → k ≠ l → v (25 + k) 5 = 1 → v (25 + l) 5 = 1 → cfl v l k (v (25 + k) 6) → v (25 + k) 7 + v (25 + k) 3 + v 1 1 ≤ v (25 + l) 7 ∨ v (25 + l) 7 + v (25 + l) 3 + v 1 1 ≤ v (25 + k) 7
def zNof (v : Nat → Nat → Int) : Prop := ∀ k : Nat, (k : Int) < v 0 7 → v (25 + k) 5 = 0 → ∀ c t : Int, 0 ≤ c → c < v 0 1 → ¬ Fit v (fun _ => False) k c t
def zWt (v : Nat → Nat → Int) : Prop := ∀ k : Nat, (k : Int) < v 0 7 → v (25 + k) 5 = 0 → v (25 + k) 9 = -1
theorem GI.iff {v : Nat → Nat → Int} : GI v ↔ zSep v ∧ zNof v ∧ zWt v := Iff.rfl
theorem vpl_row {v : Nat → Nat → Int} {k l : Nat} {c s : Int} (h : l ≠ k) : vpl v k c s (25 + l) = v (25 + l) := funext fun j => vpl_ne (by omega)
theorem vpl_0 {v : Nat → Nat → Int} {k : Nat} {c s : Int} : vpl v k c s 0 = v 0 := funext fun j => vpl_ne (by omega)
theorem vpl_1 {v : Nat → Nat → Int} {k : Nat} {c s : Int} : vpl v k c s 1 = v 1 := funext fun j => vpl_ne (by omega)
theorem BP.sep {v u : Nat → Nat → Int} {k : Nat} {r : Int} (h : BP v k u r) (hk5 : v (25 + k) 5 ≠ 1) (hs : zSep v) : zSep u := by
  rcases h with ⟨c, s, a1, a2, a3⟩ | ⟨a1, a2, a3⟩
  · subst a2
    obtain ⟨_, ⟨f1, f2, f3⟩, _⟩ := a1
    intro x y hx hy hxy x5 y5 hc
    rw [vpl_0] at hx hy
    have k0 : vpl v k c s (25 + k) 0 = v (25 + k) 0 := vpl_ne (by omega)
    have k1 : vpl v k c s (25 + k) 1 = v (25 + k) 1 := vpl_ne (by omega)
    have k3 : vpl v k c s (25 + k) 3 = v (25 + k) 3 := vpl_ne (by omega)
    by_cases ex : x = k
    · subst ex
      have ey : y ≠ x := fun z => hxy z.symm
      unfold cfl at hc
      rw [vpl_row ey, vpl_6, k0, k1] at hc
      rw [vpl_row ey] at y5
      rw [vpl_row ey, vpl_1, vpl_7, k3]
      have := f3 y hy y5 id hc
      omega
    · by_cases ey : y = k
      · subst ey
        unfold cfl at hc
        rw [vpl_row ex, vpl_6, k0, k1] at hc
        rw [vpl_row ex] at x5
        rw [vpl_row ex, vpl_1, vpl_7, k3]
        have hc' : cfl v x y c := by
          unfold cfl
          rcases hc with z | z | z
          · exact Or.inl z.symm
          · exact Or.inr (Or.inl z.symm)
          · exact Or.inr (Or.inr z.symm)
        have := f3 x hx x5 id hc'
        omega
      · unfold cfl at hc
        rw [vpl_row ex, vpl_row ey] at hc
        rw [vpl_row ex] at x5
        rw [vpl_row ey] at y5
        rw [vpl_row ex, vpl_row ey, vpl_1]
        exact hs x y hx hy hxy x5 y5 hc
  · rw [a2]
    exact hs
/-- more bursts leave less room -/
theorem BP.fit {v u : Nat → Nat → Int} {k l : Nat} {r : Int} (h : BP v k u r) (hk5 : v (25 + k) 5 ≠ 1) (hl : l ≠ k) {c t : Int} (hF : Fit u (fun _ => False) l c t) : Fit v (fun _ => False) l c t := by
  rcases h with ⟨c', s, a1, a2, a3⟩ | ⟨a1, a2, a3⟩
  · subst a2
    obtain ⟨f1, f2, f3⟩ := Fit.iff.mp hF
    rw [vpl_1] at f1 f2
    rw [vpl_row hl] at f2
    refine Fit.iff.mpr ⟨f1, f2, fun m hm hW hw => ?_⟩
    have em : m ≠ k := fun z => hk5 (z ▸ hw.1)
    refine f3 m (by rw [vpl_0]; exact hm) hW ?_
    unfold isWay
    rw [vpl_row em, vpl_row hl, vpl_1]
    exact hw
  · rw [← a2]
    exact hF
theorem Run.sep {a : Nat → Nat} {v : Nat → Nat → Int} (hs : zSep v) : ∀ {c u n}, Run a c v u n → (∀ i j, i < c → j < c → a i = a j → i = j) → (∀ i, i < c → v (25 + a i) 5 ≠ 1) → zSep u := by
  intro c
  induction c with
  | zero => rintro u n ⟨h1, _⟩ _ _; rw [h1]; exact hs
  | succ c ih =>
    rintro u n ⟨w, x, r, h1, h2, h3⟩ hi h5
    refine h2.sep ?_ (ih h1 (fun i j z1 z2 => hi i j (by omega) (by omega)) (fun i z => h5 i (by omega)))
    rw [h1.rest (fun j hj e => by
      have := hi j c (by omega) (by omega) e
      omega)]
    exact h5 c (by omega)
theorem Run.nofit {a : Nat → Nat} {v : Nat → Nat → Int} : ∀ {c u n}, Run a c v u n → (∀ i j, i < c → j < c → a i = a j → i = j) → (∀ i, i < c → v (25 + a i) 5 ≠ 1) → ∀ i, i < c → u (25 + a i) 5 ≠ 1 → ∀ cc t, 0 ≤ cc → cc < v 0 1 → ¬ Fit u (fun _ => False) (a i) cc t := by
  intro c
  induction c with
  | zero => rintro u n _ _ _ i hi; omega
  | succ c ih =>
    rintro u n ⟨w, x, r, h1, h2, h3⟩ hi h5 i hic hu cc t hc0 hc1 hF
    have hwc : w (25 + a c) 5 ≠ 1 := by
      rw [h1.rest (fun j hj e => by
        have := hi j c (by omega) (by omega) e
        omega)]
      exact h5 c (by omega)
    by_cases e : i = c
    · subst e
      rcases h2 with ⟨c', s, a1, a2, a3⟩ | ⟨a1, a2, a3⟩
      · exact hu (by rw [a2]; exact vpl_5)
      · rw [a2] at hF
        exact a1 cc t hc0 (by rw [h1.sta 0 1 (by omega)]; exact hc1) hF
    · have en : a i ≠ a c := fun z => e (hi i c (by omega) (by omega) z)
      have hF' := h2.fit hwc en hF
      refine ih h1 (fun i j z1 z2 => hi i j (by omega) (by omega)) (fun i z => h5 i (by omega)) i (by omega) ?_ cc t hc0 hc1 hF'
      rw [← h2.rest (fun z => en z.symm)]
      exact hu
theorem BP.keep {v u : Nat → Nat → Int} {k l : Nat} {r : Int} (h : BP v k u r) (hl : u (25 + l) 5 ≠ 1) : u (25 + l) = v (25 + l) := by
  rcases h with ⟨c, s, a1, a2, a3⟩ | ⟨a1, a2, a3⟩
  · rw [a2] at hl ⊢
    by_cases e : l = k
    · subst e
      exact absurd vpl_5 hl
    · exact vpl_row e
  · rw [a2]
theorem Run.keep {a : Nat → Nat} {v : Nat → Nat → Int} {l : Nat} : ∀ {c u n}, Run a c v u n → u (25 + l) 5 ≠ 1 → u (25 + l) = v (25 + l) := by
  intro c
  induction c with
  | zero => rintro u n ⟨h1, _⟩ _; rw [h1]
  | succ c ih =>
    rintro u n ⟨w, x, r, h1, h2, h3⟩ hl
    have e := h2.keep hl
    rw [e]
    refine ih h1 ?_
    rw [← e]
    exact hl
/-- the waiting calls, in order -/
def Que (v : Nat → Nat → Int) (c : Nat) (a : Nat → Nat) : Prop := Enu (sMk v 1) (fun k => v (25 + k) 2) (nCl v) c a
theorem sMk_w {v : Nat → Nat → Int} (w : WF v) {k : Nat} (hk : k < nCl v) : sMk v 1 k = true ↔ v (25 + k) 5 = 0 := by
  have e := sIn_mk w 0 (by decide) k hk
  have e' : decide (v (25 + k) 5 = 0) = sMk v 1 k := e
  rw [← e', zdec]
theorem Que.w {v : Nat → Nat → Int} {c : Nat} {a : Nat → Nat} (w : WF v) (h : Que v c a) : ∀ i, i < c → a i < nCl v ∧ v (25 + a i) 5 = 0 := fun i hi => ⟨(h.1 i hi).1, (sMk_w w (h.1 i hi).1).mp (h.1 i hi).2⟩
theorem Que.ex (v : Nat → Nat → Int) : ∃ c a, Que v c a := Enu.ex _ _ _
theorem Que.good {v u : Nat → Nat → Int} {c : Nat} {a : Nat → Nat} {n : Int} (w : WF v) (hq : Que v c a) (hR : Run a c v u n) (hs : zSep v) (hw : zWt v) : Good u := by
  have hn := w.nC
  have h5 : ∀ i, i < c → v (25 + a i) 5 ≠ 1 := fun i hi => by
    have := (hq.w w i hi).2
    omega
  have hi : ∀ i j, i < c → j < c → a i = a j → i = j := fun i j z1 z2 e => hq.inj z1 z2 e
  have e7 : u 0 7 = v 0 7 := hR.sta 0 7 (by omega)
  have e1 : u 0 1 = v 0 1 := hR.sta 0 1 (by omega)
  refine ⟨hR.wf w, hR.sep hs hi h5, fun k hk hk5 cc t h0 h1 => ?_, fun k hk hk5 => ?_⟩
  · have er := hR.keep (l := k) (by omega)
    rw [er] at hk5
    rw [e7] at hk
    obtain ⟨i, i1, i2⟩ := hq.2.1 k (by omega) ((sMk_w w (by omega)).mpr hk5)
    have := hR.nofit hi h5 i i1 (by rw [i2, er]; omega) cc t h0 (by rw [← e1]; exact h1)
    rw [i2] at this
    exact this
  · have er := hR.keep (l := k) (by omega)
    rw [er] at hk5 ⊢
    rw [e7] at hk
    exact hw k hk hk5
/-- nobody waits that could find a place: serving changes nothing -/
theorem Que.idle {v : Nat → Nat → Int} {c : Nat} {a : Nat → Nat} (w : WF v) (hq : Que v c a) (hf : zNof v) : ∀ i, i ≤ c → Run a i v v 0 := by
  have hn := w.nC
  intro i
  induction i with
  | zero => exact fun _ => ⟨rfl, rfl⟩
  | succ i ih =>
    intro hi
    have z := hq.w w i (by omega)
    exact ⟨v, 0, 0, ih (by omega), Or.inr ⟨hf _ (by omega) z.2, rfl, rfl⟩, rfl⟩
