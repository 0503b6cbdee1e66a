/-! The statement station: a station more. -/
def cst (a b c d e : Int) : Nat → Int := fun j => if j = 0 then a else if j = 1 then b else if j = 2 then c else if j = 3 then d else if j = 4 then e else if j = 5 then d else 0
def vsn (v : Nat → Nat → Int) (n : Nat) (a b c d e : Int) : Nat → Nat → Int := fun o j => if o = 0 ∧ j = 3 then ((n + 1 : Nat) : Int) else if o = 5 + 2 * n ∧ j < 7 then cst a b c d e j else if o = 6 + 2 * n ∧ j < 64 then 0 else v o j
section VS
variable {v : Nat → Nat → Int} {n : Nat} {a b c d e : Int}
theorem vsn_ne {o j : Nat} (h1 : ¬ (o = 0 ∧ j = 3)) (h2 : o ≠ 5 + 2 * n) (h3 : o ≠ 6 + 2 * n) : vsn v n a b c d e o j = v o j := by
  unfold vsn
  rw [if_neg h1, if_neg (fun z => h2 z.1), if_neg (fun z => h3 z.1)]
theorem vsn_n : vsn v n a b c d e 0 3 = ((n + 1 : Nat) : Int) := by
  unfold vsn
  rw [if_pos ⟨rfl, rfl⟩]
theorem vsn_c {j : Nat} (hj : j < 7) : vsn v n a b c d e (5 + 2 * n) j = cst a b c d e j := by
  unfold vsn
  rw [if_neg (by omega), if_pos ⟨rfl, hj⟩]
theorem vsn_z {j : Nat} (hj : j < 64) : vsn v n a b c d e (6 + 2 * n) j = 0 := by
  unfold vsn
  rw [if_neg (by omega), if_neg (by omega), if_pos ⟨rfl, hj⟩]
theorem vsn_row {o : Nat} (h1 : o ≠ 0) (h2 : o ≠ 5 + 2 * n) (h3 : o ≠ 6 + 2 * n) : vsn v n a b c d e o = v o := funext fun j => vsn_ne (fun z => h1 z.1) h2 h3
theorem vsn_cs : vsn v n a b c d e (5 + 2 * n) 0 = a ∧ vsn v n a b c d e (5 + 2 * n) 1 = b ∧ vsn v n a b c d e (5 + 2 * n) 2 = c ∧ vsn v n a b c d e (5 + 2 * n) 3 = d ∧ vsn v n a b c d e (5 + 2 * n) 4 = e ∧ vsn v n a b c d e (5 + 2 * n) 5 = d ∧ vsn v n a b c d e (5 + 2 * n) 6 = 0 :=
  ⟨vsn_c (by decide), vsn_c (by decide), vsn_c (by decide), vsn_c (by decide), vsn_c (by decide), vsn_c (by decide), vsn_c (by decide)⟩
theorem WF.sts (w : WF v) (hn : v 0 3 = (n : Int)) (h6 : n < 6) (hb : 0 ≤ b ∧ b ≤ 5000) (hc : -50 ≤ c ∧ c ≤ 50) (hd : 0 ≤ d ∧ d ≤ e ∧ e ≤ 999) : WF (vsn v n a b c d e) := by
  obtain ⟨c0, c1, c2, c3, c4, c5, c6⟩ := vsn_cs (v := v) (n := n) (a := a) (b := b) (c := c) (d := d) (e := e)
  have hS := w.nS
  have hR := w.nR
  obtain ⟨a1, a2, a3, a4, a5, a6, a7, a8, a9⟩ := w
  have z0 : vsn v n a b c d e 0 0 = v 0 0 := vsn_ne (by omega) (by omega) (by omega)
  have z1 : vsn v n a b c d e 0 1 = v 0 1 := vsn_ne (by omega) (by omega) (by omega)
  have z5 : vsn v n a b c d e 0 5 = v 0 5 := vsn_ne (by omega) (by omega) (by omega)
  have z7 : vsn v n a b c d e 0 7 = v 0 7 := vsn_ne (by omega) (by omega) (by omega)
  have zz : ∀ j, j < 64 → vsn v n a b c d e (6 + 2 * n) j = 0 := fun j hj => vsn_z hj
  refine ⟨by rw [z0]; exact a1, by rw [z1]; exact a2, by rw [vsn_n]; omega, by rw [z5]; exact a4, by rw [z7]; exact a5, fun j hj => by rw [vsn_row (by omega) (by omega) (by omega)]; exact a6 j hj, fun s hs => ?_, fun r hr => ?_, fun k hk => ?_⟩
  · rw [vsn_n] at hs
    by_cases q : s = n
    · subst q
      unfold WFs
      rw [c1, c2, c3, c4, c5, c6, z0]
      exact ⟨hb, hc, hd, ⟨hd.1, by omega⟩, ⟨Int.le_refl _, a1.1⟩, fun j hj => by rw [zz j hj]; omega⟩
    · have := a7 s (by omega)
      unfold WFs at this ⊢
      rw [vsn_row (o := 5 + 2 * s) (by omega) (by omega) (by omega), vsn_row (o := 6 + 2 * s) (by omega) (by omega) (by omega), z0]
      exact this
  · rw [z5] at hr
    have := a8 r hr
    unfold WFr at this ⊢
    rw [vsn_row (o := 17 + r) (by omega) (by omega) (by omega), vsn_n]
    exact ⟨⟨this.1.1, by omega⟩, this.2⟩
  · rw [z7] at hk
    have := a9 k hk
    unfold WFc at this ⊢
    rw [vsn_row (o := 25 + k) (by omega) (by omega) (by omega), vsn_row (o := 1) (by omega) (by omega) (by omega), vsn_n, z0, z1]
    exact ⟨⟨this.1.1, by omega⟩, ⟨this.2.1.1, by omega⟩, this.2.2⟩
theorem MR.sts {N N' T T' : Nat → Int} (m : MR v N T) (w : WF v) (hn : v 0 3 = (n : Int)) (h6 : n < 6) (hT : ∀ i, i ≠ 62 → i ≠ n → i ≠ 6 + n → i ≠ 12 + n → i ≠ 18 + n → i ≠ 24 + n → T' i = T i) (hN : ∀ i, i ≠ 8 + n → N' i = N i)
    (t62 : T' 62 = ((n + 1 : Nat) : Int)) (t0 : T' n = a) (t1 : T' (6 + n) = b) (t2 : T' (12 + n) = c) (t3 : T' (18 + n) = d) (t4 : T' (24 + n) = e) (n8 : N' (8 + n) = d) (n14 : N (14 + n) = 0) (n20 : ∀ j, j < 64 → N (20 + 64 * n + j) = 0) : MR (vsn v n a b c d e) N' T' := by
  obtain ⟨c0, c1, c2, c3, c4, c5, c6⟩ := vsn_cs (v := v) (n := n) (a := a) (b := b) (c := c) (d := d) (e := e)
  have hS := w.nS
  have hR := w.nR
  have hK := w.2.2.2.2.1
  obtain ⟨a1, a2, a3, a4, a5, a6, a7, a8, a9⟩ := m
  have z0 : vsn v n a b c d e 0 0 = v 0 0 := vsn_ne (by omega) (by omega) (by omega)
  have z1 : vsn v n a b c d e 0 1 = v 0 1 := vsn_ne (by omega) (by omega) (by omega)
  have z5 : vsn v n a b c d e 0 5 = v 0 5 := vsn_ne (by omega) (by omega) (by omega)
  have z7 : vsn v n a b c d e 0 7 = v 0 7 := vsn_ne (by omega) (by omega) (by omega)
  have zz : ∀ j, j < 64 → vsn v n a b c d e (6 + 2 * n) j = 0 := fun j hj => vsn_z hj
  refine ⟨by rw [z0, hN 0 (by omega)]; exact a1, by rw [z1, hT 64 (by omega) (by omega) (by omega) (by omega) (by omega) (by omega)]; exact a2, by rw [vsn_n, t62], by rw [z5, hT 63 (by omega) (by omega) (by omega) (by omega) (by omega) (by omega)]; exact a4, by rw [z7, hN 404 (by omega)]; exact a5, fun j hj => by rw [vsn_row (by omega) (by omega) (by omega), hN _ (by omega)]; exact a6 j hj, fun s hs => ?_, fun r hr => ?_, fun k hk => ?_⟩
  · rw [vsn_n] at hs
    by_cases q : s = n
    · subst q
      unfold MRs
      rw [c0, c1, c2, c3, c4, c5, c6, t0, t1, t2, t3, t4, n8, hN (14 + s) (by omega), n14]
      exact ⟨rfl, rfl, rfl, rfl, rfl, rfl, rfl, fun j hj => by rw [zz j hj, hN _ (by omega)]; exact n20 j hj⟩
    · obtain ⟨b1, b2, b3, b4, b5, b6, b7, b8⟩ := a7 s (by omega)
      unfold MRs
      rw [vsn_row (o := 5 + 2 * s) (by omega) (by omega) (by omega), vsn_row (o := 6 + 2 * s) (by omega) (by omega) (by omega)]
      refine ⟨?_, ?_, ?_, ?_, ?_, by rw [hN _ (by omega)]; exact b6, by rw [hN _ (by omega)]; exact b7, fun j hj => by rw [hN _ (by omega)]; exact b8 j hj⟩
      · rw [hT _ (by omega) (by omega) (by omega) (by omega) (by omega) (by omega)]; exact b1
      · rw [hT _ (by omega) (by omega) (by omega) (by omega) (by omega) (by omega)]; exact b2
      · rw [hT _ (by omega) (by omega) (by omega) (by omega) (by omega) (by omega)]; exact b3
      · rw [hT _ (by omega) (by omega) (by omega) (by omega) (by omega) (by omega)]; exact b4
      · rw [hT _ (by omega) (by omega) (by omega) (by omega) (by omega) (by omega)]; exact b5
  · rw [z5] at hr
    obtain ⟨b1, b2, b3, b4⟩ := a8 r hr
    unfold MRr
    rw [vsn_row (o := 17 + r) (by omega) (by omega) (by omega)]
    refine ⟨?_, ?_, ?_, ?_⟩
    · rw [hT _ (by omega) (by omega) (by omega) (by omega) (by omega) (by omega)]; exact b1
    · rw [hT _ (by omega) (by omega) (by omega) (by omega) (by omega) (by omega)]; exact b2
    · rw [hT _ (by omega) (by omega) (by omega) (by omega) (by omega) (by omega)]; exact b3
    · rw [hT _ (by omega) (by omega) (by omega) (by omega) (by omega) (by omega)]; exact b4
  · rw [z7] at hk
    have hp : ∀ j, j < 12 → N' (405 + 12 * k + j) = N (405 + 12 * k + j) := fun j hj => hN _ (by omega)
    have := a9 k hk
    unfold MRc at this ⊢
    rw [vsn_row (o := 25 + k) (by omega) (by omega) (by omega), hN 4 (by omega), hN (405 + 12 * k) (by omega), hp 1 (by omega), hp 2 (by omega), hp 3 (by omega), hp 4 (by omega), hp 5 (by omega), hp 6 (by omega), hp 7 (by omega), hp 8 (by omega), hp 9 (by omega), hp 10 (by omega), hp 11 (by omega)]
    exact this
theorem sts_good (g : Good v) (hn : v 0 3 = (n : Int)) (h6 : n < 6) (hb : 0 ≤ b ∧ b ≤ 5000) (hc : -50 ≤ c ∧ c ≤ 50) (hd : 0 ≤ d ∧ d ≤ e ∧ e ≤ 999) : Good (vsn v n a b c d e) := by
  have w7 := g.1.2.2.2.2.1
  refine ⟨g.1.sts hn h6 hb hc hd, Ceq.gi (v := v) ⟨⟨(vsn_ne (by omega) (by omega) (by omega)).symm, (vsn_ne (by omega) (by omega) (by omega)).symm, (vsn_ne (by omega) (by omega) (by omega)).symm⟩, fun i hi => (vsn_ne (by omega) (by omega) (by omega)).symm, fun k hk => ?_⟩ g.2⟩
  have er : vsn v n a b c d e (25 + k) = v (25 + k) := vsn_row (by omega) (by omega) (by omega)
  rw [er]
  exact ⟨fun i hi => rfl, rfl, fun _ => ⟨rfl, rfl⟩⟩
end VS
theorem e4_addStation {h : zH} {A n : Nat} (hc : cly h.2 A) (hn : h.1 A 3 = (n : Int)) (h6 : n < 6) {a b c d e : Int} : ∃ h', q_X4_addStation h A a b c d e = some ((), h') ∧ h'.2 = h.2 ∧ vw h'.1 A = vsn (vw h.1 A) n a b c d e ∧ ∀ q j, ¬ (A ≤ q ∧ q < A + 41) → h'.1 q j = h.1 q j := by
  have eP : h.2 (h.2 A 4) n = A + (5 + 2 * n) := by rw [hc.sts, hc.st]
  have eE : h.2 (A + (5 + 2 * n)) 7 = A + (6 + 2 * n) := hc.er h6
  unfold q_X4_addStation
  rw [hn, if_neg (by omega), zgpos h6, Int.toNat_natCast, eP]
  unfold q_X5_declare
  simp only [zlet_b]
  obtain ⟨g2, p1, p2, p3, p4⟩ := e5_forget (h := zput (zput (zput (zput (zput (zput (zput h (A + (5 + 2 * n)) 0 a) (A + (5 + 2 * n)) 1 b) (A + (5 + 2 * n)) 2 c) (A + (5 + 2 * n)) 3 d) (A + (5 + 2 * n)) 4 e) (A + (5 + 2 * n)) 5 d) (A + (5 + 2 * n)) 6 0) (P := A + (5 + 2 * n)) (E := A + (6 + 2 * n)) eE
  have z3 : g2.1 A 3 = (n : Int) := by
    rw [p4 _ _ (by omega), zput_ne (by omega), zput_ne (by omega), zput_ne (by omega), zput_ne (by omega), zput_ne (by omega), zput_ne (by omega), zput_ne (by omega)]
    exact hn
  rw [p1, zbd_some, zbd_some, z3, zw_s (by omega)]
  refine ⟨_, rfl, p2, ?_, fun q j hq => ?_⟩
  · funext o j
    by_cases ho : o < 41
    · rw [vw_at ho]
      unfold vsn
      by_cases q1 : o = 0 ∧ j = 3
      · obtain ⟨rfl, rfl⟩ := q1
        rw [if_pos ⟨rfl, rfl⟩]
        exact zput_self
      · rw [if_neg q1, zput_ne (by omega)]
        by_cases q2 : o = 5 + 2 * n ∧ j < 7
        · obtain ⟨rfl, hj⟩ := q2
          rw [if_pos ⟨rfl, hj⟩, p4 _ _ (by omega)]
          obtain rfl | rfl | rfl | rfl | rfl | rfl | rfl : j = 0 ∨ j = 1 ∨ j = 2 ∨ j = 3 ∨ j = 4 ∨ j = 5 ∨ j = 6 := by omega
          · rw [zput_ne (by omega), zput_ne (by omega), zput_ne (by omega), zput_ne (by omega), zput_ne (by omega), zput_ne (by omega), zput_self]; rfl
          · rw [zput_ne (by omega), zput_ne (by omega), zput_ne (by omega), zput_ne (by omega), zput_ne (by omega), zput_self]; rfl
          · rw [zput_ne (by omega), zput_ne (by omega), zput_ne (by omega), zput_ne (by omega), zput_self]; rfl
          · rw [zput_ne (by omega), zput_ne (by omega), zput_ne (by omega), zput_self]; rfl
          · rw [zput_ne (by omega), zput_ne (by omega), zput_self]; rfl
          · rw [zput_ne (by omega), zput_self]; rfl
          · rw [zput_self]; rfl
        · rw [if_neg q2]
          by_cases q3 : o = 6 + 2 * n ∧ j < 64
          · rw [if_pos q3, q3.1]
            exact p3 j q3.2
          · rw [if_neg q3, vw_at ho, p4 _ _ (by omega), zput_ne (by omega), zput_ne (by omega), zput_ne (by omega), zput_ne (by omega), zput_ne (by omega), zput_ne (by omega), zput_ne (by omega)]
    · unfold vsn
      rw [if_neg (by omega), if_neg (by omega), if_neg (by omega)]
      unfold vw
      rw [if_neg ho, if_neg ho]
  · rw [zput_ne (by omega), p4 _ _ (by omega), zput_ne (by omega), zput_ne (by omega), zput_ne (by omega), zput_ne (by omega), zput_ne (by omega), zput_ne (by omega), zput_ne (by omega)]
