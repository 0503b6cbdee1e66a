/-! What the law asks beyond the invariant, kept by every change (pure). -/
def Ex2 (C S F : Int) (v : Nat → Nat → Int) : Prop := Ex1 v ∧ v 0 1 = C ∧ v 0 3 = S ∧ v 0 0 ≤ F
theorem Leq.ex1 {v u : Nat → Nat → Int} (h : Leq v u) (X : Ex1 v) : Ex1 u := by
  obtain ⟨⟨h0, h1, h3, h5, h7⟩, hs, _, _, hc⟩ := h
  refine ⟨by rw [← hs 3 (by decide)]; exact X.1, fun k hk => ?_, fun k hk q5 q9 => ?_⟩
  · rw [← h7] at hk
    rw [← hc k hk 3 (by decide)]
    exact X.2.1 k hk
  · rw [← h7] at hk
    rw [← hc k hk 5 (by decide)] at q5
    rw [← hc k hk 9 (by decide)] at q9
    rw [← h0, ← hc k hk 9 (by decide), ← hc k hk 4 (by decide)]
    exact X.2.2 k hk q5 q9
theorem Leq.ex2 {C S F : Int} {v u : Nat → Nat → Int} (h : Leq v u) (X : Ex2 C S F v) : Ex2 C S F u :=
  ⟨h.ex1 X.1, by rw [← h.1.2.1]; exact X.2.1, by rw [← h.1.2.2.1]; exact X.2.2.1, by rw [← h.1.1]; exact X.2.2.2⟩
theorem BP.ex1 {v u : Nat → Nat → Int} {k : Nat} {r : Int} (h : BP v k u r) (w : WF v) (hk : (k : Int) < v 0 7) (h5 : v (25 + k) 5 ≠ 2) (X : Ex1 v) : Ex1 u := by
  rcases h with ⟨c, s, _, rfl, _⟩ | ⟨_, rfl, _⟩
  · refine ⟨by rw [vpl_ne (by omega)]; exact X.1, fun l hl => ?_, fun l hl q5 q9 => ?_⟩
    · rw [vpl_ne (by omega)] at hl ⊢
      exact X.2.1 l hl
    · rw [vpl_ne (by omega)] at hl
      rw [vpl_ne (o := 0) (by omega), vpl_ne (o := 25 + l) (j := 4) (by omega)]
      by_cases e : l = k
      · subst e
        have h4 := (w.2.2.2.2.2.2.2.2 l hl).2.2.2.2.2.1
        rw [vpl_9]
        by_cases q : v (25 + l) 9 = -1
        · rw [if_pos q]
          omega
        · rw [if_neg q]
          exact X.2.2 l hl h5 q
      · rw [vpl_ne (by omega)] at q5 q9 ⊢
        exact X.2.2 l hl q5 q9
  · exact X
theorem BP.ne2 {v u : Nat → Nat → Int} {k : Nat} {r : Int} (h : BP v k u r) {l : Nat} (h5 : v (25 + l) 5 ≠ 2) : u (25 + l) 5 ≠ 2 := by
  rcases h with ⟨c, s, _, rfl, _⟩ | ⟨_, rfl, _⟩
  · by_cases e : l = k
    · subst e
      rw [vpl_5]
      decide
    · rw [vpl_ne (by omega)]
      exact h5
  · exact h5
theorem Run.ex1 {a : Nat → Nat} {v : Nat → Nat → Int} (w : WF v) (X : Ex1 v) : ∀ {c u n}, Run a c v u n → (∀ i, i < c → (a i : Int) < v 0 7 ∧ v (25 + a i) 5 ≠ 2) → Ex1 u ∧ ∀ l, v (25 + l) 5 ≠ 2 → u (25 + l) 5 ≠ 2 := by
  intro c
  induction c with
  | zero =>
    intro u n hR _
    have e : u = v := hR.1
    subst e
    exact ⟨X, fun _ z => z⟩
  | succ c ih =>
    intro u n hR ha
    obtain ⟨y, x, r, h1, h2, h3⟩ := hR
    obtain ⟨g1, g2⟩ := ih h1 (fun i hi => ha i (by omega))
    obtain ⟨a1, a2⟩ := ha c (Nat.lt_succ_self c)
    refine ⟨h2.ex1 (h1.wf w) ?_ (g2 _ a2) g1, fun l z => h2.ne2 (g2 l z)⟩
    rw [h1.sta 0 7 (by omega)]
    exact a1
theorem Run.ex2 {C S F : Int} {a : Nat → Nat} {v u : Nat → Nat → Int} {c : Nat} {n : Int} (w : WF v) (X : Ex2 C S F v) (h : Run a c v u n) (ha : ∀ i, i < c → (a i : Int) < v 0 7 ∧ v (25 + a i) 5 ≠ 2) : Ex2 C S F u :=
  ⟨(Run.ex1 w X.1 h ha).1, by rw [h.sta 0 1 (by omega)]; exact X.2.1, by rw [h.sta 0 3 (by omega)]; exact X.2.2.1, by rw [h.sta 0 0 (by omega)]; exact X.2.2.2⟩
theorem Que.ne2 {v : Nat → Nat → Int} {c : Nat} {a : Nat → Nat} (w : WF v) (h : Que v c a) : ∀ i, i < c → (a i : Int) < v 0 7 ∧ v (25 + a i) 5 ≠ 2 := fun i hi => by
  have hn := w.nC
  obtain ⟨h1, h2⟩ := h.w w i hi
  exact ⟨by omega, by omega⟩
/-- a new call -/
theorem new_ex2 {C S F : Int} {v u : Nat → Nat → Int} {n : Nat} {s r p sy ho x : Int} (w : WF (vnew v n s r p (v 1 3 + sy) ho)) (X : Ex2 C S F v) (hn : v 0 7 = (n : Int)) (hsy : 1 ≤ sy) (hB : BP (vnew v n s r p (v 1 3 + sy) ho) n u x) : Ex2 C S F u := by
  obtain ⟨c0, c1, c2, c3, c4, c5, c8, c9, c10⟩ := vnew_c (v := v) (n := n) (s := s) (r := r) (p := p) (b := v 1 3 + sy) (ho := ho)
  have X1 : Ex1 (vnew v n s r p (v 1 3 + sy) ho) := by
    refine ⟨by rw [vnew_ne (by omega) (by omega)]; exact X.1.1, fun k hk => ?_, fun k hk q5 q9 => ?_⟩
    · rw [vnew_n] at hk
      by_cases e : k = n
      · subst e
        rw [c3, X.1.1]
        omega
      · rw [vnew_ne (by omega) (by omega)]
        exact X.1.2.1 k (by omega)
    · rw [vnew_n] at hk
      by_cases e : k = n
      · subst e
        exact absurd c9 q9
      · rw [vnew_ne (by omega) (by omega)] at q5 q9 ⊢
        rw [vnew_ne (by omega) (by omega), vnew_ne (by omega) (by omega)]
        exact X.1.2.2 k (by omega) q5 q9
  have hst := hB.sta
  have h1 := hB.ex1 w (by rw [vnew_n]; omega) (by rw [c5]; decide) X1
  exact ⟨h1, by rw [hst 0 1 (by omega), vnew_ne (by omega) (by omega)]; exact X.2.1, by rw [hst 0 3 (by omega), vnew_ne (by omega) (by omega)]; exact X.2.2.1, by rw [hst 0 0 (by omega), vnew_ne (by omega) (by omega)]; exact X.2.2.2⟩
/-- a call that ended -/
theorem fin_ex2 {C S F : Int} {v : Nat → Nat → Int} {k : Nat} (X : Ex2 C S F v) : Ex2 C S F (vup v (25 + k) 5 2) := by
  refine ⟨⟨by rw [vup_ne (by omega)]; exact X.1.1, fun l hl => ?_, fun l hl q5 q9 => ?_⟩, by rw [vup_ne (by omega)]; exact X.2.1, by rw [vup_ne (by omega)]; exact X.2.2.1, by rw [vup_ne (by omega)]; exact X.2.2.2⟩
  · rw [vup_ne (by omega)] at hl ⊢
    exact X.1.2.1 l hl
  · rw [vup_ne (by omega)] at hl q9
    by_cases e : l = k
    · subst e
      exact absurd vup_at q5
    · rw [vup_ne (by omega)] at q5
      rw [vup_ne (by omega), vup_ne (by omega), vup_ne (by omega)]
      exact X.1.2.2 l hl q5 q9
/-- a frame passes -/
theorem Pss.ex2 {C S F : Int} {v u : Nat → Nat → Int} (g : Good v) (hf : v 0 0 < 9999) (X : Ex2 C S F v) (h : Pss v u) : Ex2 C S (F + 1) u := by
  obtain ⟨c, a, z, n, hq, hR, rfl⟩ := h
  obtain ⟨s1, s2, s3, s4, s5⟩ := pS_all g.1 g.2 hf
  obtain ⟨n1, n2, n3, n4⟩ := pN_all s1 s2
  have hS6 : nSt (pF v) ≤ 6 := by rw [(pF_n (v := v)).1]; exact g.1.nS.2
  have eS : ∀ o j, (o < 5 ∨ 17 ≤ o) → pS (pF v) o j = pF v o j := fun o j ho => pS_ne _ o j hS6 ho
  have eN : ∀ o j, ¬ (25 ≤ o ∧ j = 5) → pN (pS (pF v)) o j = pS (pF v) o j := fun o j ho => pN_ne _ o j (by omega)
  have e1 : ∀ o j, (o < 5 ∨ 17 ≤ o) → ¬ (o = 0 ∧ j = 0) → ¬ (25 ≤ o ∧ j = 5) → pN (pS (pF v)) o j = v o j := fun o j h1 h2 h3 => by rw [eN o j h3, eS o j h1, pF_ne h2]
  have e00 : pN (pS (pF v)) 0 0 = v 0 0 + 1 := by rw [eN 0 0 (by omega), s5]
  have X1 : Ex1 (pN (pS (pF v))) := by
    refine ⟨by rw [e1 1 3 (by omega) (by omega) (by omega)]; exact X.1.1, fun k hk => ?_, fun k hk q5 q9 => ?_⟩
    · rw [e1 0 7 (by omega) (by omega) (by omega)] at hk
      rw [e1 _ _ (by omega) (by omega) (by omega)]
      exact X.1.2.1 k hk
    · rw [e1 0 7 (by omega) (by omega) (by omega)] at hk
      have hkn : k < nCl (pS (pF v)) := by rw [s3]; have := g.1.nC; omega
      have e5 := pN_5 (v := pS (pF v)) (k := k) (nCl (pS (pF v))) hkn
      have e5' : pN (pS (pF v)) (25 + k) 5 = _ := e5
      rw [e1 _ 9 (by omega) (by omega) (by omega)] at q9
      rw [e00, e1 _ 9 (by omega) (by omega) (by omega), e1 _ 4 (by omega) (by omega) (by omega)]
      rw [e5', s5, eS _ 5 (by omega), eS _ 9 (by omega), eS _ 4 (by omega), pF_ne (by omega), pF_ne (by omega), pF_ne (by omega)] at q5
      by_cases q : v (25 + k) 5 = 1 ∧ v (25 + k) 9 + v (25 + k) 4 ≤ v 0 0 + 1
      · rw [if_pos q] at q5
        exact absurd rfl q5
      · rw [if_neg q] at q5
        have hst := (g.1.2.2.2.2.2.2.2.2 k hk).2.2.2.2.2.2.1
        by_cases a5 : v (25 + k) 5 = 1
        · have : ¬ v (25 + k) 9 + v (25 + k) 4 ≤ v 0 0 + 1 := fun y => q ⟨a5, y⟩
          omega
        · exact absurd (g.2.2.2 k hk (by omega)) q9
  have X2 : Ex2 C S (F + 1) (pN (pS (pF v))) := ⟨X1, by rw [e1 0 1 (by omega) (by omega) (by omega)]; exact X.2.1, by rw [e1 0 3 (by omega) (by omega) (by omega)]; exact X.2.2.1, by rw [e00]; have := X.2.2.2; omega⟩
  have X3 := Run.ex2 n1 X2 hR (hq.ne2 n1)
  have wz := hR.wf n1
  have eT : ∀ o j, ¬ (25 ≤ o ∧ j = 10) → ¬ (5 ≤ o ∧ o < 17 ∧ j = 6) → pT z (nset (wre (pS (pF v))) (nCl v)) o j = z o j := pT_ceq wz
  refine ⟨⟨by rw [eT _ _ (by omega) (by omega)]; exact X3.1.1, fun k hk => ?_, fun k hk q5 q9 => ?_⟩, by rw [eT _ _ (by omega) (by omega)]; exact X3.2.1, by rw [eT _ _ (by omega) (by omega)]; exact X3.2.2.1, by rw [eT _ _ (by omega) (by omega)]; exact X3.2.2.2⟩
  · rw [eT _ _ (by omega) (by omega)] at hk ⊢
    exact X3.1.2.1 k hk
  · rw [eT _ _ (by omega) (by omega)] at hk q5 q9 ⊢
    rw [eT _ _ (by omega) (by omega), eT _ _ (by omega) (by omega)]
    exact X3.1.2.2 k hk q5 q9
theorem PsN.ex2 {C S : Int} : ∀ {n : Nat} {F : Int} {v u : Nat → Nat → Int}, Good v → v 0 0 + (n : Int) ≤ 9999 → Ex2 C S F v → PsN n v u → Ex2 C S (F + (n : Int)) u := by
  intro n
  induction n with
  | zero =>
    intro F v u g hf X h
    have e : u = v := h
    subst e
    simpa using X
  | succ n ih =>
    intro F v u g hf X h
    obtain ⟨y, h1, h2⟩ := h
    obtain ⟨g1, g2⟩ := h1.good g (by omega)
    have X1 := h1.ex2 g (by omega) X
    have := ih g1 (by omega) X1 h2
    rw [show F + ((n + 1 : Nat) : Int) = F + 1 + (n : Int) by omega]
    exact this
