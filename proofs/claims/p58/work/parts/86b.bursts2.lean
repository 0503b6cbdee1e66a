section AB58b
variable {B : Nat} {h : zH} {w : zW}
theorem st_ne (hI : zInv B h) {c : Int} {k j : Nat} (hk : (k : Int) < vw h.1 (B + 1) 0 7) (hj : (j : Int) < vw h.1 (B + 1) 0 7) (hne : j ≠ k) (sk : aOn (vw h.1 (B + 1)) c k = true) (sj : aOn (vw h.1 (B + 1)) c j = true) : vw h.1 (B + 1) (25 + k) 7 ≠ vw h.1 (B + 1) (25 + j) 7 := by
  obtain ⟨k5, k6⟩ := of_decide_eq_true sk
  obtain ⟨j5, j6⟩ := of_decide_eq_true sj
  have hw := hI.wf
  have hset := hw.set
  have h1 := (hw.2.2.2.2.2.2.2.2 k hk).2.2.2.2.1
  have h2 := (hw.2.2.2.2.2.2.2.2 j hj).2.2.2.2.1
  have := gi_ap hI hk hj hne k5 j5 (Or.inl (j6.trans k6.symm))
  omega
/-- the calls on a carrier, by their starts -/
theorem on_enu (hI : zInv B h) {c : Nat} (hc : (c : Int) < vw h.1 (B + 1) 0 1) : ∃ (m : Nat) (a : Nat → Nat), q_X7_callsOn h B (c : Int) = some (m : Int) ∧ ((m : Int) = zsm (aOn (vw h.1 (B + 1)) (c : Int)) (fun _ => 1) (nCl (vw h.1 (B + 1)))) ∧ m ≤ 16
    ∧ (∀ p, p < m → q_X7_callAt h B (c : Int) (p : Int) = some (a p : Int) ∧ (a p : Int) < vw h.1 (B + 1) 0 7 ∧ vw h.1 (B + 1) (25 + a p) 5 = 1 ∧ vw h.1 (B + 1) (25 + a p) 6 = (c : Int) ∧ (∀ q, q < p → vw h.1 (B + 1) (25 + a q) 7 < vw h.1 (B + 1) (25 + a p) 7))
    ∧ q_X7_callAt h B (c : Int) (m : Int) = some (-1) := by
  have hw := hI.wf
  have hn := hw.nC
  obtain ⟨m, a, hE⟩ := Enu.ex (aOn (vw h.1 (B + 1)) (c : Int)) (fun k => -(vw h.1 (B + 1) (25 + k) 7)) (nCl (vw h.1 (B + 1)))
  have ha7 : ∀ p, p < m → (a p : Int) < vw h.1 (B + 1) 0 7 := fun p hp => by have := (hE.1 p hp).1; omega
  have hrank : ∀ q, q < m → sBef (vw h.1 (B + 1)) (c : Int) (vw h.1 (B + 1) (25 + a q) 7) = q := by
    intro q hq
    unfold sBef
    have e := nct_congr (P := fun k => decide (vw h.1 (B + 1) (25 + k) 5 = 1 ∧ vw h.1 (B + 1) (25 + k) 6 = (c : Int) ∧ vw h.1 (B + 1) (25 + k) 7 < vw h.1 (B + 1) (25 + a q) 7)) (Q := fun k => decide (k < nCl (vw h.1 (B + 1)) ∧ aOn (vw h.1 (B + 1)) (c : Int) k = true ∧ (-(vw h.1 (B + 1) (25 + a q) 7) < -(vw h.1 (B + 1) (25 + k) 7) ∨ (-(vw h.1 (B + 1) (25 + k) 7) = -(vw h.1 (B + 1) (25 + a q) 7) ∧ k < a q)))) (nCl (vw h.1 (B + 1))) (fun k hk => by
      refine decide_eq_decide.mpr ⟨?_, ?_⟩
      · rintro ⟨z1, z2, z3⟩
        refine ⟨hk, decide_eq_true ⟨z1, z2⟩, ?_⟩
        omega
      · rintro ⟨z1, z2, z3⟩
        obtain ⟨y1, y2⟩ := of_decide_eq_true z2
        refine ⟨y1, y2, ?_⟩
        by_cases hne : a q = k
        · rw [hne] at z3
          omega
        · have := st_ne hI (k := k) (j := a q) (by omega) (ha7 q hq) hne z2 (hE.1 q hq).2
          omega)
    rw [e]
    exact hE.rank q hq _ (fun k => decide_eq_true_iff.trans Iff.rfl)
  refine ⟨m, a, ?_, ?_, ?_, fun p hp => ⟨?_, ha7 p hp, ?_, ?_, fun q hq => ?_⟩, ?_⟩
  · rw [x_callsOn hI hc, sOn_sm, zsm_1, ← hE.2.2.2]
  · rw [zsm_1, ← hE.2.2.2]
  · have := nct_le (P := aOn (vw h.1 (B + 1)) (c : Int)) (nCl (vw h.1 (B + 1)))
    rw [← hE.2.2.2] at this
    omega
  · obtain ⟨y1, y2⟩ := of_decide_eq_true (hE.1 p hp).2
    rw [x_at hI hc, sFst_is (hE.1 p hp).1 (decide_eq_true ⟨y1, y2, by rw [hrank p hp]⟩) (fun j hj hp' => ?_)]
    obtain ⟨z1, z2, z3⟩ := of_decide_eq_true hp'
    obtain ⟨q, q1, q2⟩ := hE.2.1 j hj (decide_eq_true ⟨z1, z2⟩)
    rw [← q2, hrank q q1] at z3
    have : q = p := by omega
    rw [← q2, this]
  · exact (of_decide_eq_true (hE.1 p hp).2).1
  · exact (of_decide_eq_true (hE.1 p hp).2).2
  · have hb := hE.2.2.1 q p hq hp
    have hne : a p ≠ a q := fun z => by have := hE.inj (i := p) (j := q) hp (by omega) z; omega
    have := st_ne hI (k := a q) (j := a p) (ha7 q (by omega)) (ha7 p hp) hne (hE.1 q (by omega)).2 (hE.1 p hp).2
    unfold bf at hb
    dsimp only at hb
    omega
  · rw [x_at hI hc, sFst_no (fun j hj hp' => ?_)]
    obtain ⟨z1, z2, z3⟩ := of_decide_eq_true hp'
    obtain ⟨q, q1, q2⟩ := hE.2.1 j hj (decide_eq_true ⟨z1, z2⟩)
    rw [← q2, hrank q q1] at z3
    omega
theorem ab_L428 (hI : zInv B h) {c m : Nat} {a : Nat → Nat} (h1 : q_X7_callsOn h B (c : Int) = some (m : Int)) (hm : m ≤ 16)
    (h2 : ∀ p, p < m → q_X7_callAt h B (c : Int) (p : Int) = some (a p : Int) ∧ (a p : Int) < vw h.1 (B + 1) 0 7 ∧ vw h.1 (B + 1) (25 + a p) 5 = 1 ∧ vw h.1 (B + 1) (25 + a p) 6 = (c : Int) ∧ (∀ q, q < p → vw h.1 (B + 1) (25 + a q) 7 < vw h.1 (B + 1) (25 + a p) 7)) {u n0 : Int} (hb : 0 ≤ n0 ∧ n0 ≤ 1000) {K : Int → Int → Option Int} :
    q_L_areBursts_L428 w h B u (c : Int) K zF n0 0 = K (n0 + (m : Int)) (m : Int) := by
  have key := zloopQ (L := fun f s i => q_L_areBursts_L428 w h B u (c : Int) K f s i) (kf := fun s => K s (m : Int)) (s0 := n0) (N := m) (fun (s : Int) _ => s + 1) (fun i (s : Int) => s = n0 + (i : Int)) (by omega) (by omega) (fun s i hi hs => by omega) (fun f s i hi hs => ?_) (fun f s hs => ?_)
  · refine key.trans ?_
    have e : ∀ i, zit (fun (s : Int) _ => s + 1) i n0 = n0 + (i : Int) := by
      intro i
      induction i with
      | zero => show n0 = _; omega
      | succ i ih => rw [zit_s, ih]; omega
    show K _ _ = K _ _
    rw [e]
  · obtain ⟨g1, g2, g3, g4, g5⟩ := h2 i hi
    have c1 : q_X7_carrierOf h B (a i : Int) = some (c : Int) := by rw [x_carr hI g2, if_pos g3, g4]
    have c3 : q_X7_startOf h B (a i : Int) = some (vw h.1 (B + 1) (25 + a i) 7) := by rw [x_start hI g2, if_pos g3]
    have en : zw (s + 1) = s + 1 := zw_id ⟨by omega, by omega⟩
    show q_L_areBursts_L428 w h B u (c : Int) K (f + 1) s (i : Int) = _
    rw [q_L_areBursts_L428]
    simp only [zlet_b]
    rw [h1, zbp_some, if_neg (by omega), g1, zbp_some, if_neg (by omega), c1, zbp_some, if_pos rfl, en, zw_s (i := i) (by omega)]
    by_cases i0 : (i : Int) ≤ 0
    · rw [if_pos i0]
    · have ei : zw ((i : Int) - 1) = ((i - 1 : Nat) : Int) := by rw [zw_id ⟨by omega, by omega⟩]; omega
      obtain ⟨k1, k2, k3, k4, k5⟩ := h2 (i - 1) (by omega)
      have c5 : q_X7_startOf h B (a (i - 1) : Int) = some (vw h.1 (B + 1) (25 + a (i - 1)) 7) := by rw [x_start hI k2, if_pos k3]
      rw [if_neg i0, c3, zbp_some, ei, k1, zbp_some, c5, zbp_some, if_pos (g5 (i - 1) (by omega))]
  · show q_L_areBursts_L428 w h B u (c : Int) K (f + 1) s (m : Int) = _
    rw [q_L_areBursts_L428, h1, zbp_some, if_pos (Int.le_refl _)]
theorem ab_L407 (hI : zInv B h) {u0 : Int} (hu : 0 ≤ u0 ∧ u0 ≤ 100000) {K : Int → Int → Int → Option Int} :
    q_L_areBursts_L407 w h B K zF u0 0 0 = K (u0 - zsm (fun k => decide (vw h.1 (B + 1) (25 + k) 5 = 1)) (fun k => vw h.1 (B + 1) (25 + k) 3) (nCl (vw h.1 (B + 1)))) (zsm (fun k => decide (vw h.1 (B + 1) (25 + k) 5 = 1)) (fun _ => 1) (nCl (vw h.1 (B + 1)))) (vw h.1 (B + 1) 0 1) := by
  have hw := hI.wf
  have hn := hw.nC
  have hC4 := hw.2.1
  obtain ⟨C, hC⟩ : ∃ C : Nat, vw h.1 (B + 1) 0 1 = (C : Int) := ⟨(vw h.1 (B + 1) 0 1).toNat, by omega⟩
  have hbu : ∀ c : Int, 0 ≤ zsm (aOn (vw h.1 (B + 1)) c) (fun k => vw h.1 (B + 1) (25 + k) 3) (nCl (vw h.1 (B + 1))) ∧ zsm (aOn (vw h.1 (B + 1)) c) (fun k => vw h.1 (B + 1) (25 + k) 3) (nCl (vw h.1 (B + 1))) ≤ 35200 := by
    intro c
    have key : ∀ i, i ≤ nCl (vw h.1 (B + 1)) → 0 ≤ zsm (aOn (vw h.1 (B + 1)) c) (fun k => vw h.1 (B + 1) (25 + k) 3) i ∧ zsm (aOn (vw h.1 (B + 1)) c) (fun k => vw h.1 (B + 1) (25 + k) 3) i ≤ 2200 * (i : Int) := by
      intro i
      induction i with
      | zero => intro _; exact ⟨Int.le_refl _, Int.le_refl _⟩
      | succ i ih =>
        intro hi
        have h1 := ih (by omega)
        have h2 := (hw.2.2.2.2.2.2.2.2 i (by omega)).2.2.2.2.1
        rw [zsm_s]
        split <;> omega
    have := key _ (Nat.le_refl _)
    omega
  have key := zloopQ (L := fun f (s : Int × Int) i => q_L_areBursts_L407 w h B K f s.1 s.2 i) (kf := fun s => K s.1 s.2 (C : Int)) (s0 := (u0, 0)) (N := C) (fun (p : Int × Int) c => (p.1 - zsm (aOn (vw h.1 (B + 1)) (c : Int)) (fun k => vw h.1 (B + 1) (25 + k) 3) (nCl (vw h.1 (B + 1))), p.2 + zsm (aOn (vw h.1 (B + 1)) (c : Int)) (fun _ => 1) (nCl (vw h.1 (B + 1))))) (fun i (p : Int × Int) => (-35200 * (i : Int) ≤ p.1 ∧ p.1 ≤ 100000) ∧ 0 ≤ p.2 ∧ p.2 ≤ 16 * (i : Int)) (by omega) ⟨by omega, by omega, by omega⟩ (fun s i hi hs => ?_) (fun f s i hi hs => ?_) (fun f s hs => ?_)
  · refine key.trans ?_
    rw [zit_pair]
    show K (u0 - _) (0 + _) _ = _
    have hall : ∀ g : Nat → Int, zsm (fun k => decide (vw h.1 (B + 1) (25 + k) 5 = 1 ∧ 0 ≤ vw h.1 (B + 1) (25 + k) 6 ∧ vw h.1 (B + 1) (25 + k) 6 < (C : Int))) g (nCl (vw h.1 (B + 1))) = zsm (fun k => decide (vw h.1 (B + 1) (25 + k) 5 = 1)) g (nCl (vw h.1 (B + 1))) := fun g => zsm_congr _ (fun k hk => by
      refine decide_eq_decide.mpr ⟨fun z => z.1, fun z => ?_⟩
      have := hw.act (k := k) (by omega) z
      exact ⟨z, by omega, by omega⟩)
    rw [zsm_all, zsm_all, hall, hall, Int.zero_add, hC]
  · have hb := hbu (i : Int)
    obtain ⟨m, a, g1, g2, g3, g4, g5⟩ := on_enu hI (c := i) (by omega)
    refine ⟨⟨?_, ?_⟩, ?_, ?_⟩
    · show _ ≤ s.1 - _
      omega
    · show s.1 - _ ≤ _
      omega
    · show 0 ≤ s.2 + _
      omega
    · show s.2 + _ ≤ _
      omega
  · have hb := hbu (i : Int)
    obtain ⟨m, a, g1, g2, g3, g4, g5⟩ := on_enu hI (c := i) (by omega)
    have eu : q_X7_usedSymbols h B (i : Int) = some (zsm (aOn (vw h.1 (B + 1)) (i : Int)) (fun k => vw h.1 (B + 1) (25 + k) 3) (nCl (vw h.1 (B + 1)))) := by rw [x_used hI (by omega), sOn_sm]
    have ez : zw (s.1 - zsm (aOn (vw h.1 (B + 1)) (i : Int)) (fun k => vw h.1 (B + 1) (25 + k) 3) (nCl (vw h.1 (B + 1)))) = s.1 - zsm (aOn (vw h.1 (B + 1)) (i : Int)) (fun k => vw h.1 (B + 1) (25 + k) 3) (nCl (vw h.1 (B + 1))) := zw_id ⟨by omega, by omega⟩
    show q_L_areBursts_L407 w h B K (f + 1) s.1 s.2 (i : Int) = _
    rw [q_L_areBursts_L407]
    simp only [zlet_b]
    rw [x_carriers hI, zbp_some, hC, if_neg (by omega), eu, zbp_some, ez, ab_L428 hI g1 g3 g4 (by omega), g1, zbp_some, g5, zbp_some, if_pos rfl, zw_s (i := i) (by omega), g2]
  · show q_L_areBursts_L407 w h B K (f + 1) s.1 s.2 (C : Int) = _
    rw [q_L_areBursts_L407, x_carriers hI, zbp_some, hC, if_pos (Int.le_refl _)]
theorem ab_L531 (hI : zInv B h) {u n0 : Int} (hb : 0 ≤ n0 ∧ n0 ≤ 1000) {K : Int → Int → Option Int} :
    q_L_areBursts_L531 w h B u K zF n0 0 = K (n0 - zsm (fun k => decide (vw h.1 (B + 1) (25 + k) 5 = 1)) (fun _ => 1) (nCl (vw h.1 (B + 1)))) (nCl (vw h.1 (B + 1)) : Int) := by
  have hw := hI.wf
  have hn := hw.nC
  have key := zloopQ (L := fun f s i => q_L_areBursts_L531 w h B u K f s i) (kf := fun s => K s (nCl (vw h.1 (B + 1)) : Int)) (s0 := n0) (N := nCl (vw h.1 (B + 1))) (fun (s : Int) k => if vw h.1 (B + 1) (25 + k) 5 = 1 then s + (-1) else s) (fun i (s : Int) => -(i : Int) ≤ s ∧ s ≤ 1000) (by omega) ⟨by omega, by omega⟩ (fun s i hi hs => by split <;> omega) (fun f s i hi hs => ?_) (fun f s hs => ?_)
  · refine key.trans ?_
    show K _ _ = K _ _
    rw [zit_sm]
    have e : ∀ i, zsm (fun k => decide (vw h.1 (B + 1) (25 + k) 5 = 1)) (fun _ => -1) i = -zsm (fun k => decide (vw h.1 (B + 1) (25 + k) 5 = 1)) (fun _ => 1) i := by
      intro i
      induction i with
      | zero => rfl
      | succ i ih =>
        rw [zsm_s, zsm_s, ih]
        split <;> omega
    rw [e]
    rfl
  · have hi7 : (i : Int) < vw h.1 (B + 1) 0 7 := by omega
    have e1 : zw (s - 1) = s + (-1) := by rw [zw_id ⟨by omega, by omega⟩]; omega
    have e0 : zw (s - 0) = s := by rw [Int.sub_zero, zw_id ⟨by omega, by omega⟩]
    show q_L_areBursts_L531 w h B u K (f + 1) s (i : Int) = _
    rw [q_L_areBursts_L531]
    simp only [zlet_b]
    rw [x_count hI, zbp_some, if_neg (by omega), x_state hI hi7, zbp_some, e1, e0, zw_s (i := i) (by omega)]
    by_cases h5 : vw h.1 (B + 1) (25 + i) 5 = 1
    · rw [if_pos h5, if_pos h5]
    · rw [if_neg h5, if_neg h5]
  · show q_L_areBursts_L531 w h B u K (f + 1) s (nCl (vw h.1 (B + 1)) : Int) = _
    rw [q_L_areBursts_L531, x_count hI, zbp_some, hn.1, if_pos (Int.le_refl _)]
/-- the bursts are as the law asks -/
theorem ab_all (hI : zInv B h) (X : Ex1 (vw h.1 (B + 1))) : q_L_areBursts w h B = some 1 := by
  have hw := hI.wf
  have hn := hw.nC
  have s1 : q_X7_getSetting h B 1 = some (vw h.1 (B + 1) 1 1) := x_set hI (j := 1) (by decide)
  have hu : 0 ≤ zsm (fun k => decide (vw h.1 (B + 1) (25 + k) 5 = 1)) (fun k => vw h.1 (B + 1) (25 + k) 3) (nCl (vw h.1 (B + 1))) ∧ zsm (fun k => decide (vw h.1 (B + 1) (25 + k) 5 = 1)) (fun k => vw h.1 (B + 1) (25 + k) 3) (nCl (vw h.1 (B + 1))) ≤ 100000 := by
    have key : ∀ i, i ≤ nCl (vw h.1 (B + 1)) → 0 ≤ zsm (fun k => decide (vw h.1 (B + 1) (25 + k) 5 = 1)) (fun k => vw h.1 (B + 1) (25 + k) 3) i ∧ zsm (fun k => decide (vw h.1 (B + 1) (25 + k) 5 = 1)) (fun k => vw h.1 (B + 1) (25 + k) 3) i ≤ 2200 * (i : Int) := by
      intro i
      induction i with
      | zero => intro _; exact ⟨Int.le_refl _, Int.le_refl _⟩
      | succ i ih =>
        intro hi
        have h1 := ih (by omega)
        have h2 := (hw.2.2.2.2.2.2.2.2 i (by omega)).2.2.2.2.1
        rw [zsm_s]
        split <;> omega
    have := key _ (Nat.le_refl _)
    omega
  have hc : 0 ≤ zsm (fun k => decide (vw h.1 (B + 1) (25 + k) 5 = 1)) (fun _ => 1) (nCl (vw h.1 (B + 1))) ∧ zsm (fun k => decide (vw h.1 (B + 1) (25 + k) 5 = 1)) (fun _ => 1) (nCl (vw h.1 (B + 1))) ≤ 1000 := by
    rw [zsm_1]
    have := nct_le (P := fun k => decide (vw h.1 (B + 1) (25 + k) 5 = 1)) (nCl (vw h.1 (B + 1)))
    omega
  unfold q_L_areBursts
  rw [s1, zbp_some, ab_L10 hI X, ab_L407 hI hu, ab_L531 hI hc, if_pos (by omega), if_pos (by omega)]
/-- the queue is as the law asks -/
theorem iq_all (hI : zInv B h) : q_L_isQueue w h B = some 1 := by
  have hw := hI.wf
  have hn := hw.nC
  obtain ⟨c, a, hq⟩ := Que.ex (vw h.1 (B + 1))
  have hcw := hq.w hw
  have hcle : c ≤ 16 := by
    have := nct_le (P := sMk (vw h.1 (B + 1)) 1) (nCl (vw h.1 (B + 1)))
    rw [← hq.2.2.2] at this
    omega
  have l1 : ∀ K : Int → Int → Option Int, q_L_isQueue_L4 w h B K zF 0 0 = K (c : Int) (nCl (vw h.1 (B + 1)) : Int) := by
    intro K
    have key := zloopQ (L := fun f s i => q_L_isQueue_L4 w h B K f s i) (kf := fun s => K s (nCl (vw h.1 (B + 1)) : Int)) (s0 := 0) (N := nCl (vw h.1 (B + 1))) (fun (s : Int) k => if vw h.1 (B + 1) (25 + k) 5 = 0 then s + 1 else s) (fun i (s : Int) => 0 ≤ s ∧ s ≤ (i : Int)) (by omega) ⟨by omega, by omega⟩ (fun s i hi hs => by split <;> omega) (fun f s i hi hs => ?_) (fun f s hs => ?_)
    · refine key.trans ?_
      show K _ _ = K _ _
      rw [zit_sm, Int.zero_add, zsm_1, hq.2.2.2]
      have e := nct_congr (P := fun k => decide (vw h.1 (B + 1) (25 + k) 5 = 0)) (Q := sMk (vw h.1 (B + 1)) 1) (nCl (vw h.1 (B + 1))) (fun k hk => by
        by_cases z : vw h.1 (B + 1) (25 + k) 5 = 0
        · rw [(sMk_w hw hk).mpr z]
          exact decide_eq_true z
        · have : ¬ sMk (vw h.1 (B + 1)) 1 k = true := fun y => z ((sMk_w hw hk).mp y)
          rw [Bool.not_eq_true] at this
          rw [this]
          exact decide_eq_false z)
      rw [e]
    · have hi7 : (i : Int) < vw h.1 (B + 1) 0 7 := by omega
      have e1 : zw (s + 1) = s + 1 := zw_id ⟨by omega, by omega⟩
      have e0 : zw (s + 0) = s := zw_0 ⟨by omega, by omega⟩
      show q_L_isQueue_L4 w h B K (f + 1) s (i : Int) = _
      rw [q_L_isQueue_L4]
      simp only [zlet_b]
      rw [x_count hI, zbp_some, if_neg (by omega), x_state hI hi7, zbp_some, e1, e0, zw_s (i := i) (by omega)]
      by_cases h5 : vw h.1 (B + 1) (25 + i) 5 = 0
      · rw [if_pos h5, if_pos h5]
      · rw [if_neg h5, if_neg h5]
    · show q_L_isQueue_L4 w h B K (f + 1) s (nCl (vw h.1 (B + 1)) : Int) = _
      rw [q_L_isQueue_L4, x_count hI, zbp_some, hn.1, if_pos (Int.le_refl _)]
  have qa : ∀ i : Nat, i < c → q_X7_queuedAt h B (i : Int) = some (a i : Int) := fun i hi => by
    rw [x_qat hI hq, if_pos ⟨by omega, by omega⟩, Int.toNat_natCast]
  have l2 : ∀ K : Int → Option Int, q_L_isQueue_L64 w h B (c : Int) K zF 0 = K (c : Int) := by
    intro K
    have key : ∀ m i f, i + m = c → m < f → q_L_isQueue_L64 w h B (c : Int) K f (i : Int) = K (c : Int) := by
      intro m
      induction m with
      | zero =>
        intro i f q1 q2
        obtain ⟨f, rfl⟩ : ∃ g, f = g + 1 := ⟨f - 1, by omega⟩
        have : i = c := by omega
        subst this
        rw [q_L_isQueue_L64, if_pos (Int.le_refl _)]
      | succ m ih =>
        intro i f q1 q2
        obtain ⟨f, rfl⟩ : ∃ g, f = g + 1 := ⟨f - 1, by omega⟩
        obtain ⟨g1, g2⟩ := hcw i (by omega)
        have i7 : (a i : Int) < vw h.1 (B + 1) 0 7 := by omega
        rw [q_L_isQueue_L64]
        simp only [zlet_b]
        rw [if_neg (by omega), qa i (by omega), zbp_some, x_state hI i7, zbp_some, if_pos g2, zw_s (i := i) (by omega), ih (i + 1) f (by omega) (by omega)]
        by_cases i0 : (i : Int) = 0
        · rw [if_pos i0, if_pos (by decide)]
        · have ei : zw ((i : Int) - 1) = ((i - 1 : Nat) : Int) := by rw [zw_id ⟨by omega, by omega⟩]; omega
          obtain ⟨k1, k2⟩ := hcw (i - 1) (by omega)
          have j7 : (a (i - 1) : Int) < vw h.1 (B + 1) 0 7 := by omega
          have hb := hq.2.2.1 (i - 1) i (by omega) (by omega)
          unfold bf at hb
          dsimp only at hb
          rw [if_neg i0, ei, qa (i - 1) (by omega), zbp_some, if_neg (by omega)]
          simp only [x_prio hI i7, x_prio hI j7, zbp_some]
          rw [if_neg (by omega)]
          by_cases e : vw h.1 (B + 1) (25 + a (i - 1)) 2 = vw h.1 (B + 1) (25 + a i) 2
          · rw [if_pos e, if_pos (by omega)]
          · rw [if_neg e]
    exact key c 0 zF (by omega) (by unfold zF; omega)
  unfold q_L_isQueue
  rw [l1, x_qlen hI hq, zbp_some, if_pos rfl, x_qat hI hq, if_neg (by omega), zbp_some, if_pos rfl, x_qat hI hq, if_neg (by omega), zbp_some, if_pos rfl, l2]
end AB58b
