/-! Placing calls one behind the other. -/
theorem Enu.ex (S : Nat → Bool) (pr : Nat → Int) : ∀ n, ∃ c a, Enu S pr n c a := by
  intro n
  induction n with
  | zero => exact ⟨0, fun _ => 0, fun i z => by omega, fun k z => by omega, fun i j z1 z2 => by omega, rfl⟩
  | succ n ih =>
    obtain ⟨c, a, hE⟩ := ih
    by_cases hs : S n = true
    · have key : ∀ d, d ≤ c → ∃ p, p ≤ d ∧ (∀ j, p ≤ j → j < d → bf pr n (a j)) ∧ (p = 0 ∨ ¬ bf pr n (a (p - 1))) := by
        intro d
        induction d with
        | zero => exact fun _ => ⟨0, Nat.le_refl _, fun j z1 z2 => by omega, Or.inl rfl⟩
        | succ d ihd =>
          intro hd
          by_cases q : bf pr n (a d)
          · obtain ⟨p, p1, p2, p3⟩ := ihd (by omega)
            refine ⟨p, by omega, fun j z1 z2 => ?_, p3⟩
            by_cases e : j = d
            · rw [e]; exact q
            · exact p2 j z1 (by omega)
          · exact ⟨d + 1, Nat.le_refl _, fun j z1 z2 => by omega, Or.inr q⟩
      obtain ⟨p, p1, p2, p3⟩ := key c (Nat.le_refl _)
      exact ⟨c + 1, _, hE.ins hs p1 p2 p3⟩
    · exact ⟨c, a, hE.skip hs⟩
theorem Enu.uniq {S : Nat → Bool} {pr : Nat → Int} {n c c' : Nat} {a a' : Nat → Nat} (h : Enu S pr n c a) (h' : Enu S pr n c' a') : c = c' ∧ ∀ i, i < c → a i = a' i := by
  have ec : c = c' := h.2.2.2.trans h'.2.2.2.symm
  subst ec
  refine ⟨rfl, ?_⟩
  have key : ∀ m i, i < m → i < c → a i = a' i := by
    intro m
    induction m with
    | zero => intro i z; omega
    | succ m ih =>
      intro i hi hc
      by_cases e : i < m
      · exact ih i e hc
      · have ei : i = m := by omega
        subst ei
        obtain ⟨j, j1, j2⟩ := h'.2.1 (a i) (h.1 i hc).1 (h.1 i hc).2
        obtain ⟨l, l1, l2⟩ := h.2.1 (a' i) (h'.1 i hc).1 (h'.1 i hc).2
        have hj : i ≤ j := by
          refine Nat.le_of_not_lt (fun z => ?_)
          have := h.inj (i := j) (j := i) j1 hc ((ih j z j1).trans j2)
          omega
        have hl : i ≤ l := by
          refine Nat.le_of_not_lt (fun z => ?_)
          have := h'.inj (i := l) (j := i) l1 hc ((ih l z l1).symm.trans l2)
          omega
        by_cases ej : j = i
        · rw [ej] at j2
          exact j2.symm
        · by_cases el : l = i
          · rw [el] at l2
            exact l2
          · have b1 := h'.2.2.1 i j (by omega) j1
            rw [j2] at b1
            have b2 := h.2.2.1 i l (by omega) l1
            rw [l2] at b2
            exact absurd b1 (bf_as b2)
  exact fun i hi => key (i + 1) i (Nat.lt_succ_self i) hi
theorem Enu.congr {S S' : Nat → Bool} {pr pr' : Nat → Int} {n c : Nat} {a : Nat → Nat} (h : Enu S pr n c a) (hS : ∀ k, k < n → S k = S' k) (hp : ∀ k, k < n → pr k = pr' k) : Enu S' pr' n c a := by
  refine ⟨fun i hi => ⟨(h.1 i hi).1, ?_⟩, fun k hk hk2 => h.2.1 k hk (by rw [hS k hk]; exact hk2), fun i j hij hj => ?_, h.2.2.2.trans (nct_congr n hS)⟩
  · rw [← hS _ (h.1 i hi).1]
    exact (h.1 i hi).2
  · have e1 := hp _ (h.1 i (by omega)).1
    have e2 := hp _ (h.1 j hj).1
    have := h.2.2.1 i j hij hj
    unfold bf at this ⊢
    rw [← e1, ← e2]
    exact this
/-- calls placed in turn; how many found a place -/
def Run (a : Nat → Nat) : Nat → (Nat → Nat → Int) → (Nat → Nat → Int) → Int → Prop
  | 0, v, u, n => u = v ∧ n = 0
  | c + 1, v, u, n => ∃ u' n' r, Run a c v u' n' ∧ BP u' (a c) u r ∧ n = n' + r
theorem Run.uniq {a : Nat → Nat} {v : Nat → Nat → Int} : ∀ {c u u' n n'}, Run a c v u n → Run a c v u' n' → u = u' ∧ n = n' := by
  intro c
  induction c with
  | zero => rintro u u' n n' ⟨h1, h2⟩ ⟨h3, h4⟩; exact ⟨h1.trans h3.symm, h2.trans h4.symm⟩
  | succ c ih =>
    rintro u u' n n' ⟨w, x, r, h1, h2, h3⟩ ⟨w', x', r', g1, g2, g3⟩
    obtain ⟨e1, e2⟩ := ih h1 g1
    subst e1
    obtain ⟨e3, e4⟩ := h2.uniq g2
    exact ⟨e3, by rw [h3, g3, e2, e4]⟩
theorem Run.congr {a a' : Nat → Nat} {v : Nat → Nat → Int} : ∀ {c u n}, (∀ i, i < c → a i = a' i) → Run a c v u n → Run a' c v u n := by
  intro c
  induction c with
  | zero => exact fun _ h => h
  | succ c ih =>
    rintro u n he ⟨w, x, r, h1, h2, h3⟩
    exact ⟨w, x, r, ih (fun i hi => he i (by omega)) h1, by rw [← he c (by omega)]; exact h2, h3⟩
theorem Run.sta {a : Nat → Nat} {v : Nat → Nat → Int} : ∀ {c u n}, Run a c v u n → Sta v u := by
  intro c
  induction c with
  | zero => rintro u n ⟨h1, _⟩; rw [h1]; exact Sta.rf
  | succ c ih =>
    rintro u n ⟨w, x, r, h1, h2, h3⟩
    exact (ih h1).tr h2.sta
theorem Run.wf {a : Nat → Nat} {v : Nat → Nat → Int} (w : WF v) : ∀ {c u n}, Run a c v u n → WF u := by
  intro c
  induction c with
  | zero => rintro u n ⟨h1, _⟩; rw [h1]; exact w
  | succ c ih =>
    rintro u n ⟨w, x, r, h1, h2, h3⟩
    exact h2.wf (ih h1)
theorem BP.rest {v u : Nat → Nat → Int} {k l : Nat} {r : Int} (h : BP v k u r) (hl : k ≠ l) (j : Nat) : u (25 + l) j = v (25 + l) j := by
  rcases h with ⟨c, s, a1, a2, a3⟩ | ⟨a1, a2, a3⟩
  · rw [a2, vpl_ne (by omega)]
  · rw [a2]
theorem Run.rest {a : Nat → Nat} {v : Nat → Nat → Int} {k : Nat} : ∀ {c u n}, Run a c v u n → (∀ j, j < c → a j ≠ k) → ∀ j, u (25 + k) j = v (25 + k) j := by
  intro c
  induction c with
  | zero => rintro u n ⟨h1, _⟩ _ j; rw [h1]
  | succ c ih =>
    rintro u n ⟨w, x, r, h1, h2, h3⟩ hk j
    rw [h2.rest (hk c (by omega)) j]
    exact ih h1 (fun i hi => hk i (by omega)) j
theorem BP.r01 {v u : Nat → Nat → Int} {k : Nat} {r : Int} (h : BP v k u r) : r = 0 ∨ r = 1 := by
  rcases h with ⟨c, s, a1, a2, a3⟩ | ⟨a1, a2, a3⟩
  · exact Or.inr a3
  · exact Or.inl a3
theorem Run.cnt {a : Nat → Nat} {v : Nat → Nat → Int} : ∀ {c u n}, Run a c v u n → 0 ≤ n ∧ n ≤ (c : Int) := by
  intro c
  induction c with
  | zero => rintro u n ⟨_, h2⟩; omega
  | succ c ih =>
    rintro u n ⟨w, x, r, h1, h2, h3⟩
    have := ih h1
    have := h2.r01
    omega
theorem Run.pre {a : Nat → Nat} {v : Nat → Nat → Int} : ∀ {c u n} (i : Nat), Run a c v u n → i ≤ c → ∃ w x, Run a i v w x := by
  intro c
  induction c with
  | zero =>
    intro u n i h hi
    have e : i = 0 := by omega
    subst e
    exact ⟨u, n, h⟩
  | succ c ih =>
    intro u n i h hi
    by_cases e : i = c + 1
    · subst e
      exact ⟨u, n, h⟩
    · obtain ⟨w, x, r, h1, h2, h3⟩ := h
      exact ih i h1 (by omega)
theorem Run.step {a : Nat → Nat} {v u w : Nat → Nat → Int} {c i : Nat} {n x : Int} (h : Run a c v u n) (hi : i < c) (hw : Run a i v w x) : ∃ w' r, BP w (a i) w' r ∧ Run a (i + 1) v w' (x + r) := by
  obtain ⟨w', x', y⟩ := h.pre (i + 1) (by omega)
  obtain ⟨w2, x2, r, h1, h2, h3⟩ := y
  obtain ⟨e1, e2⟩ := hw.uniq h1
  subst e1 e2
  exact ⟨w', r, h2, w, x, r, h1, h2, rfl⟩
theorem Sta.n {v u : Nat → Nat → Int} (h : Sta v u) : nCl u = nCl v := by unfold nCl; rw [h 0 7 (by omega)]
section CL
variable {h : zH} {A : Nat}
theorem m_order (hc : CV h A) {c : Nat} {a : Nat → Nat} {S : Nat → Bool} (hE : Enu S (fun k => vw h.1 A (25 + k) 2) (nCl (vw h.1 A)) c a) (h5 : ∀ i, i < c → vw h.1 A (25 + a i) 5 ≠ 1) : ∀ (r i f m : Nat) (g : zH) (x : Int), i + r = c → r < f → Run a i (vw h.1 A) (vw g.1 A) x → Frm A h g → m < 65536 → (∀ k, k < nCl (vw h.1 A) → (m.testBit k = true ↔ ∃ j, i ≤ j ∧ j < c ∧ a j = k)) →
    ∃ h' n, q_X4_placeInOrder_L7 A (fun _ x9 _ h11 => some (x9, h11)) f (m : Int) x (i : Int) g = some (n, h') ∧ Run a c (vw h.1 A) (vw h'.1 A) n ∧ Frm A h h' := by
  have w := hc.2
  have hn := w.nC
  have hcn : c ≤ nCl (vw h.1 A) := by rw [hE.2.2.2]; exact nct_le _
  intro r
  induction r with
  | zero =>
    intro i f m g x q1 q2 hR hF hm hb
    obtain ⟨f', rfl⟩ : ∃ f', f = f' + 1 := ⟨f - 1, by omega⟩
    have e : i = c := by omega
    subst e
    have hcg : CV g A := ⟨by rw [hF.1]; exact hc.1, hR.wf w⟩
    have eng : nCl (vw g.1 A) = nCl (vw h.1 A) := hR.sta.n
    refine ⟨g, x, ?_, hR, hF⟩
    rw [q_X4_placeInOrder_L7, a_n7 hcg, eng]
    by_cases q : (nCl (vw h.1 A) : Int) ≤ (i : Int)
    · rw [if_pos q]
    · obtain ⟨b, k1, k2⟩ := e4_first hcg hm
      rw [eng] at k2
      have hb1 : b = -1 := by
        rcases k2 with ⟨z, _⟩ | ⟨s, z1, z2, z3, _⟩
        · exact z
        · obtain ⟨j, y1, y2, _⟩ := (hb s z2).mp z3
          omega
      rw [if_neg q, k1, zbp_some, if_pos hb1]
  | succ r ih =>
    intro i f m g x q1 q2 hR hF hm hb
    obtain ⟨f', rfl⟩ : ∃ f', f = f' + 1 := ⟨f - 1, by omega⟩
    have hcg : CV g A := ⟨by rw [hF.1]; exact hc.1, hR.wf w⟩
    have eng : nCl (vw g.1 A) = nCl (vw h.1 A) := hR.sta.n
    obtain ⟨b, k1, k2⟩ := e4_first hcg hm
    rw [eng] at k2
    have epr : (fun k => vw g.1 A (25 + k) 2) = fun k => vw h.1 A (25 + k) 2 := funext fun k => hR.sta _ _ (by omega)
    rw [epr] at k2
    have hic : i < c := by omega
    have hai := (hE.1 i hic).1
    have ha16 : a i < 16 := by omega
    have hb1 : b = (a i : Int) := hE.set hic hb k2
    have hbn : ¬ (a i : Int) = -1 := by omega
    have hni : ¬ (nCl (vw h.1 A) : Int) ≤ (i : Int) := by omega
    have hi6 : i < 1000000 := by omega
    obtain ⟨m', p1, p2, p3⟩ := z_rem hm ha16
    have hai7 : ((a i : Nat) : Int) < vw g.1 A 0 7 := by rw [hcg.2.nC.1, eng]; omega
    have hg5 : vw g.1 A (25 + a i) 5 ≠ 1 := by
      rw [hR.rest (fun j hj e => by
        have := hE.inj (i := j) (j := i) (by omega) hic e
        omega)]
      exact h5 i hic
    obtain ⟨rr, g', y1, y2, y3⟩ := e4_place hcg hai7 hg5
    have hcnt := hR.cnt
    have hR' : Run a (i + 1) (vw h.1 A) (vw g'.1 A) (x + rr) := ⟨_, _, _, hR, y2, rfl⟩
    have hb' : ∀ k, k < nCl (vw h.1 A) → (m'.testBit k = true ↔ ∃ j, i + 1 ≤ j ∧ j < c ∧ a j = k) := fun k hk => by
      rw [p3, Bool.and_eq_true, decide_eq_true_eq, hb k hk]
      constructor
      · rintro ⟨⟨j, z1, z2, z3⟩, z4⟩
        refine ⟨j, ?_, z2, z3⟩
        have : j ≠ i := fun z => z4 (by rw [← z3, z])
        omega
      · rintro ⟨j, z1, z2, z3⟩
        refine ⟨⟨j, by omega, z2, z3⟩, fun z => ?_⟩
        have := hE.inj (i := j) (j := i) z2 hic (z3.trans z)
        omega
    obtain ⟨h', n, o1, o2, o3⟩ := ih (i + 1) f' m' g' (x + rr) (by omega) (by omega) hR' (hF.tr y3) (by omega) hb'
    refine ⟨h', n, ?_, o2, o3⟩
    rw [q_X4_placeInOrder_L7, a_n7 hcg, eng, if_neg hni, k1, zbp_some, hb1, if_neg hbn]
    simp only [zlet_b]
    rw [zgpos ha16, p1, Int.toNat_natCast, a_call hcg, y1, zbd_some, zw_s hi6]
    rcases y2.r01 with z | z
    · rw [z] at o1 ⊢
      rw [if_pos rfl]
      rw [Int.add_zero] at o1
      exact o1
    · rw [z] at o1 ⊢
      have wx : zw (x + 1) = x + 1 := zw_id ⟨by omega, by omega⟩
      rw [if_neg one0, wx]
      exact o1
theorem e4_order (hc : CV h A) {m c : Nat} {a : Nat → Nat} (hm : m < 65536) (hE : Enu (fun k => m.testBit k) (fun k => vw h.1 A (25 + k) 2) (nCl (vw h.1 A)) c a) (h5 : ∀ i, i < c → vw h.1 A (25 + a i) 5 ≠ 1) : ∃ h' n, q_X4_placeInOrder h A (m : Int) = some (n, h') ∧ Run a c (vw h.1 A) (vw h'.1 A) n ∧ Frm A h h' := by
  have hcn : c ≤ nCl (vw h.1 A) := by rw [hE.2.2.2]; exact nct_le _
  have hn := hc.2.nC
  unfold q_X4_placeInOrder
  refine m_order hc hE h5 c 0 zF m h 0 (Nat.zero_add _) (by unfold zF; omega) ⟨rfl, rfl⟩ Frm.rf hm (fun k hk => ?_)
  constructor
  · intro z
    obtain ⟨j, z1, z2⟩ := hE.2.1 k hk z
    exact ⟨j, Nat.zero_le _, z1, z2⟩
  · rintro ⟨j, _, z1, z2⟩
    rw [← z2]
    exact (hE.1 j z1).2
end CL
