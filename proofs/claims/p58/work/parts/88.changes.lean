/-! The changes, of the class alone. -/
section CH58
variable {B : Nat} {h : zH}
/-- behind a change of the present State, kept before -/
theorem chg_inv {g h1 : zH} {np sh : Nat} (hI : zInv B h) (hn : KNum (h.1 (B + 85) 0) np sh) (hk : Kpt B h g np sh) (c2 : h1.2 = g.2) (c1 : ∀ q j, ¬ (B + 1 ≤ q ∧ q < B + 42) → ¬ zScrt B q j → h1.1 q j = g.1 q j) (hG : Good (vw h1.1 (B + 1))) : zInv B h1 := by
  obtain ⟨⟨σ, s1, s2, s3⟩, K2, K3, K4, K5, K6⟩ := hk
  have hnp : np < 10 := by rcases hn with ⟨_, z, _⟩ | ⟨_, z, _⟩ <;> omega
  have e85 : h1.1 (B + 85) 0 = ((np + 1 : Nat) : Int) := by rw [c1 _ _ (by omega) (by unfold zScrt; omega), K3]
  have e498 : h1.1 (B + 498) 0 = h.1 (B + 498) 0 := by rw [c1 _ _ (by omega) (by unfold zScrt; omega), K6 _ _ (by omega) (by omega)]
  refine ⟨fun o ho ho2 j => by rw [c2, K2 _ _ (by omega)]; exact hI.1 o ho ho2 j, ⟨σ, s1, s2, fun j hj => by rw [c2]; exact s3 j hj⟩, by rw [e85]; omega, hG, by rw [e498]; exact hI.2.2.2.2⟩
theorem y_request (hI : zInv B h) {C S F : Int} (X : Ex2 C S F (vw h.1 (B + 1))) {s r p sy ho : Int} (c1 : 0 ≤ s ∧ s < vw h.1 (B + 1) 0 3) (c2 : 0 ≤ r ∧ r < vw h.1 (B + 1) 0 3) (c3 : s ≠ r) (c4 : 0 ≤ p ∧ p ≤ 9) (c5 : 1 ≤ sy ∧ sy ≤ 2000) (c6 : 1 ≤ ho ∧ ho ≤ 9999) :
    ∃ x h1, q_X7_request h B s r p sy ho = some (x, h1) ∧ zInv B h1 ∧ Ex2 C S F (vw h1.1 (B + 1)) := by
  have hw := hI.wf
  have hn := hw.nC
  have hset := hw.set
  have hS := hw.nS
  have bs : ∀ x : Int, 0 ≤ x ∧ x < vw h.1 (B + 1) 0 3 → q_X7_inRange h x 0 (zw (h.1 (h.2 B 0) 3 - 1)) = some 1 := fun x z => by
    have hb : 0 ≤ x ∧ x ≤ zw (h.1 (h.2 B 0) 3 - 1) := Classical.not_not.mp (fun y => (b_station hI).mp y z)
    exact e_inR hb.1 hb.2
  by_cases c7 : vw h.1 (B + 1) 0 7 < 16
  · obtain ⟨n, hn'⟩ : ∃ n : Nat, vw h.1 (B + 1) 0 7 = (n : Int) := ⟨_, hn.1⟩
    have h16 : n < 16 := by omega
    obtain ⟨np, sh, hkn⟩ := KNum.ex hI.2.2.1
    obtain ⟨g, k1, k2⟩ := e1_keep hI hkn
    obtain ⟨g1, g2, g3, _, _⟩ := kpt_cur hI k2
    obtain ⟨h1, x, o1, o2, o3⟩ := e4_addCall g1 (n := n) (by rw [g2]; exact hn') h16 (s := s) (r := r) (p := p) (sy := sy) (ho := ho) (by rw [g2]; exact c1) (by rw [g2]; exact c2) c3 c4 c5 c6
    rw [g2] at o3
    have hgood : Good (vw h1.1 (B + 1)) := new_good hI.2.2.2.1 hn' h16 c1 c2 c3 c4 ⟨by omega, by omega⟩ c6 o3
    have hwn : WF (vnew (vw h.1 (B + 1)) n s r p (vw h.1 (B + 1) 1 3 + sy) ho) := hw.new hn' h16 c1 c2 c3 c4 ⟨by omega, by omega⟩ c6
    refine ⟨(n : Int), h1, ?_, chg_inv hI hkn k2 o2.1 (fun q j hq _ => o2.2 q j (by omega)) hgood, new_ex2 hwn X hn' c5.1 o3⟩
    unfold q_X7_request
    simp only [zlet_b]
    rw [bs s c1, zbp_some, if_neg one0, bs r c2, zbp_some, if_neg one0, if_neg c3, e_inR c4.1 c4.2, zbp_some, if_neg one0, e_inR c5.1 c5.2, zbp_some, if_neg one0, e_inR c6.1 c6.2, zbp_some, if_neg one0, hI.r0, hI.r3, ← vc0, if_pos c7, k1, zbd_some, g3, o1, zbd_some, a_0, g2, hn']
  · refine ⟨-3, h, ?_, hI, X⟩
    unfold q_X7_request
    simp only [zlet_b]
    rw [bs s c1, zbp_some, if_neg one0, bs r c2, zbp_some, if_neg one0, if_neg c3, e_inR c4.1 c4.2, zbp_some, if_neg one0, e_inR c5.1 c5.2, zbp_some, if_neg one0, e_inR c6.1 c6.2, zbp_some, if_neg one0, hI.r0, ← vc0, if_neg c7]
theorem y_release (hI : zInv B h) {C S F : Int} (X : Ex2 C S F (vw h.1 (B + 1))) (a1 : Int) : ∃ x h1, q_X7_release h B a1 = some (x, h1) ∧ zInv B h1 ∧ Ex2 C S F (vw h1.1 (B + 1)) := by
  have hw := hI.wf
  have hn := hw.nC
  by_cases hx : 0 ≤ a1 ∧ a1 < vw h.1 (B + 1) 0 7
  · obtain ⟨k, rfl⟩ : ∃ k : Nat, a1 = (k : Int) := ⟨a1.toNat, by omega⟩
    have hk16 : k < 16 := by omega
    have hb : 0 ≤ (k : Int) ∧ (k : Int) ≤ zw (h.1 (h.2 B 0) 7 - 1) := Classical.not_not.mp (fun z => (b_call hI).mp z hx)
    by_cases h5 : vw h.1 (B + 1) (25 + k) 5 = 2
    · refine ⟨-1, h, ?_, hI, X⟩
      unfold q_X7_release
      rw [e_inR hb.1 hb.2, zbp_some, if_neg one0, zgpos hk16, Int.toNat_natCast, hI.r0, hI.cly.cls, hI.cly.cl, ← vcl hk16, if_pos h5]
    · obtain ⟨np, sh, hkn⟩ := KNum.ex hI.2.2.1
      obtain ⟨g, k1, k2⟩ := e1_keep hI hkn
      obtain ⟨g1, g2, g3, _, _⟩ := kpt_cur hI k2
      have ev : vw (zput g (B + 1 + (25 + k)) 5 2).1 (B + 1) = vup (vw h.1 (B + 1)) (25 + k) 5 2 := by rw [vw_put (by omega), g2]
      have hc3 : CV (zput g (B + 1 + (25 + k)) 5 2) (B + 1) := ⟨g1.1, by rw [ev]; exact hw.fin k⟩
      obtain ⟨c, a, hq⟩ := Que.ex (vup (vw h.1 (B + 1)) (25 + k) 5 2)
      obtain ⟨m, h1, n, o1, o2, o3, o4⟩ := e4_serve hc3 (by rw [ev]; exact hq)
      rw [ev] at o3
      have hgood : Good (vw h1.1 (B + 1)) := hq.good (hw.fin k) o3 (fin_sep hI.2.2.2.1.2.1) (fin_wt hI.2.2.2.1.2.2.2)
      refine ⟨n, h1, ?_, chg_inv hI hkn k2 o4.1 (fun q j hq _ => by rw [o4.2 q j (by omega), zput_ne (by omega)]) hgood, Run.ex2 (hw.fin k) (fin_ex2 X) o3 (hq.ne2 (hw.fin k))⟩
      unfold q_X7_release
      rw [e_inR hb.1 hb.2, zbp_some, if_neg one0, zgpos hk16, Int.toNat_natCast, hI.r0, hI.cly.cls, hI.cly.cl, ← vcl hk16, if_neg h5, hI.r3, k1, zbd_some, zgpos hk16]
      simp only [zlet_b]
      rw [g3, g1.1.cls, g1.1.cl, zput_2, g3, o1, zbp_some, o2, zbd_some]
  · refine ⟨-1, h, ?_, hI, X⟩
    unfold q_X7_release
    rw [e_inN ((b_call hI).mpr hx), zbp_some, if_pos rfl]
theorem y_advance (hI : zInv B h) {C S F : Int} (X : Ex2 C S F (vw h.1 (B + 1))) {N : Nat} (hN1 : 1 ≤ N) (hN : N ≤ 200) (hF : F + (N : Int) ≤ 9999) : ∃ x h1, q_X7_advance h B (N : Int) = some (x, h1) ∧ zInv B h1 ∧ Ex2 C S (F + (N : Int)) (vw h1.1 (B + 1)) := by
  have hw := hI.wf
  have hfr := hw.1
  have hX := X.2.2.2
  have wz : zw (vw h.1 (B + 1) 0 0 + (N : Int)) = vw h.1 (B + 1) 0 0 + (N : Int) := zw_id ⟨by omega, by omega⟩
  obtain ⟨np, sh, hkn⟩ := KNum.ex hI.2.2.1
  obtain ⟨g, k1, k2⟩ := e1_keep hI hkn
  obtain ⟨g1, g2, g3, _, _⟩ := kpt_cur hI k2
  have hcl : N < zF := Nat.lt_of_le_of_lt hN (by decide)
  have hv : vw h.1 (B + 1) 0 0 + (N : Int) ≤ 9999 := by clear wz; omega
  obtain ⟨h1, o1, o2, o3, o4, o5⟩ := m_adv (B := B) (N := N) (K := fun x5 h6 => some (h6.1 (h6.2 B 0) 0, h6)) N 0 zF g (Nat.zero_add _) hN hcl g1 g3 (by rw [g2]; exact hI.2.2.2.1) (by rw [g2]; exact hv)
  rw [g2] at o2 o5
  have o1' := o1
  rw [show ((0 : Nat) : Int) = 0 from rfl] at o1'
  refine ⟨h1.1 (h1.2 B 0) 0, h1, ?_, chg_inv hI hkn k2 o3.1 (fun q j hq _ => o3.2 q j (by clear wz; omega)) o4, PsN.ex2 hI.2.2.2.1 hv X o2⟩
  unfold q_X7_advance
  rw [e_inR (by clear wz; omega) (by clear wz; omega), zbp_some, if_neg one0, hI.r0, a_0, wz, if_pos hv, hI.r3, k1, zbd_some, o1']
theorem y_setting (hI : zInv B h) {C S F : Int} (X : Ex2 C S F (vw h.1 (B + 1))) {j : Nat} (hj4 : 4 ≤ j) (hj7 : j < 7) {a2 : Int} (hv : zsV 0 j ≤ a2 ∧ a2 ≤ zsV 1 j) : ∃ x h1, q_X7_setSetting h B (j : Int) a2 = some (x, h1) ∧ zInv B h1 ∧ Ex2 C S F (vw h1.1 (B + 1)) := by
  obtain ⟨np, sh, hn⟩ := KNum.ex hI.2.2.1
  obtain ⟨g, k1, k2⟩ := e1_keep hI hn
  obtain ⟨g1, g2, g3, _, _⟩ := kpt_cur hI k2
  have gs : g.2 (B + 1) 2 = B + 1 + 1 := g1.1.set
  have ev : vw (zput g (B + 1 + 1) j a2).1 (B + 1) = vup (vw h.1 (B + 1)) 1 j a2 := by
    rw [vw_put (by decide), g2]
  have e1 : g.1 (B + 1 + 1) j = vw h.1 (B + 1) 1 j := by rw [← g2, vw_at (by decide)]
  have hw := hI.wf.set1 hj4 hj7 hv
  have cq : Ceq (vw h.1 (B + 1)) (vup (vw h.1 (B + 1)) 1 j a2) := ⟨⟨(vup_ne (by omega)).symm, (vup_ne (by omega)).symm, (vup_ne (by omega)).symm⟩, fun i hi => (vup_ne (by omega)).symm, fun k hk => ⟨fun i hi => (vup_ne (by omega)).symm, (vup_ne (by omega)).symm, fun _ => ⟨(vup_ne (by omega)).symm, (vup_ne (by omega)).symm⟩⟩⟩
  refine ⟨vw h.1 (B + 1) 1 j, zput g (B + 1 + 1) j a2, ?_, chg_inv hI hn k2 (h1 := zput g (B + 1 + 1) j a2) rfl (fun q i hq _ => zput_ne (by omega)) (by rw [ev]; exact ⟨hw, cq.gi hI.2.2.2.1.2⟩), ?_⟩
  · unfold q_X7_setSetting
    rw [e_inR (by omega) (by omega), zbp_some, if_neg one0, zgpos hj7, zgpos hj7, Int.toNat_natCast, e_inR hv.1 hv.2, zbp_some, if_neg one0, hI.r3, hI.r0, k1, zbd_some, zgpos hj7]
    simp only [zlet_b]
    rw [zgpos hj7, g3, gs, e1]
  · rw [ev]
    refine ⟨⟨by rw [vup_ne (by omega)]; exact X.1.1, fun l hl => ?_, fun l hl q5 q9 => ?_⟩, by rw [vup_ne (by omega)]; exact X.2.1, by rw [vup_ne (by omega)]; exact X.2.2.1, by rw [vup_ne (by omega)]; exact X.2.2.2⟩
    · rw [vup_ne (by omega)] at hl ⊢
      exact X.1.2.1 l hl
    · rw [vup_ne (by omega)] at hl q5 q9 ⊢
      rw [vup_ne (by omega), vup_ne (by omega)]
      exact X.1.2.2 l hl q5 q9
theorem y_acquire (hI : zInv B h) {C S F : Int} (X : Ex2 C S F (vw h.1 (B + 1))) {s : Nat} (hs : (s : Int) < vw h.1 (B + 1) 0 3) : ∃ x h1, q_X7_acquire h B (s : Int) = some (x, h1) ∧ zInv B h1 ∧ Ex2 C S F (vw h1.1 (B + 1)) := by
  have hw := hI.wf
  have hS := hw.nS
  have hs6 : s < 6 := by omega
  obtain ⟨np, sh, hn⟩ := KNum.ex hI.2.2.1
  obtain ⟨g, k1, k2⟩ := e1_keep hI hn
  obtain ⟨g1, g2, g3, _, _⟩ := kpt_cur hI k2
  obtain ⟨h1, f1, f2, f3, f4⟩ := e5_forget (h := g) (P := B + 1 + (5 + 2 * s)) (E := B + 1 + (6 + 2 * s)) (g1.1.er hs6)
  have ev : ∀ o j, vw h1.1 (B + 1) o j = if o = 6 + 2 * s ∧ j < 64 then 0 else vw h.1 (B + 1) o j := fun o j => by
    by_cases ho : o < 41
    · rw [vw_at ho, ← g2, vw_at ho]
      by_cases e : o = 6 + 2 * s ∧ j < 64
      · rw [if_pos e, e.1, f3 j e.2]
      · rw [if_neg e, f4 _ _ (by omega)]
    · rw [if_neg (by omega)]
      unfold vw
      rw [if_neg ho, if_neg ho]
  have en : ∀ o j, o ≠ 6 + 2 * s → vw h1.1 (B + 1) o j = vw h.1 (B + 1) o j := fun o j ho => by rw [ev, if_neg (fun z => ho z.1)]
  have hws := hw.2.2.2.2.2.2.1 s hs
  have hw1 : WF (vw h1.1 (B + 1)) := by
    refine hw.stn hs6 (fun o j _ h2 => en o j h2) (fun _ => ?_)
    obtain ⟨x1, x2, x3, x4, x5, x6⟩ := hws
    unfold WFs
    rw [en 0 0 (by omega), en _ 1 (by omega), en _ 2 (by omega), en _ 3 (by omega), en _ 4 (by omega), en _ 5 (by omega), en _ 6 (by omega)]
    refine ⟨x1, x2, x3, x4, x5, fun j hj => ?_⟩
    rw [ev, if_pos ⟨rfl, hj⟩]
    omega
  have cq : Ceq (vw h.1 (B + 1)) (vw h1.1 (B + 1)) := ⟨⟨(en _ _ (by omega)).symm, (en _ _ (by omega)).symm, (en _ _ (by omega)).symm⟩, fun i hi => (en _ _ (by omega)).symm, fun k hk => ⟨fun i hi => (en _ _ (by omega)).symm, (en _ _ (by omega)).symm, fun _ => ⟨(en _ _ (by omega)).symm, (en _ _ (by omega)).symm⟩⟩⟩
  have hgood : Good (vw h1.1 (B + 1)) := ⟨hw1, cq.gi hI.2.2.2.1.2⟩
  refine ⟨1, h1, ?_, chg_inv hI hn k2 f2 (fun q i hq _ => f4 q i (by omega)) hgood, ?_⟩
  · have hb : 0 ≤ (s : Int) ∧ (s : Int) ≤ zw (h.1 (h.2 B 0) 3 - 1) := Classical.not_not.mp (fun y => (b_station hI).mp y ⟨by omega, hs⟩)
    unfold q_X7_acquire
    rw [e_inR hb.1 hb.2, zbp_some, if_neg one0, hI.r3, hI.r0, k1, zbd_some, zgpos hs6, Int.toNat_natCast, g3, g1.1.sts, g1.1.st, f1, zbd_some]
  · refine ⟨⟨by rw [en _ _ (by omega)]; exact X.1.1, fun l hl => ?_, fun l hl q5 q9 => ?_⟩, by rw [en _ _ (by omega)]; exact X.2.1, by rw [en _ _ (by omega)]; exact X.2.2.1, by rw [en _ _ (by omega)]; exact X.2.2.2⟩
    · rw [en _ _ (by omega)] at hl ⊢
      exact X.1.2.1 l hl
    · rw [en _ _ (by omega)] at hl q5 q9 ⊢
      rw [en _ _ (by omega), en _ _ (by omega)]
      exact X.1.2.2 l hl q5 q9
theorem y_compact (hI : zInv B h) {C0 S F : Int} (X : Ex2 C0 S F (vw h.1 (B + 1))) : ∃ x h1, q_X7_compact h B = some (x, h1) ∧ zInv B h1 ∧ Ex2 C0 S F (vw h1.1 (B + 1)) := by
  have hw := hI.wf
  have hcv := hI.cv
  have hn := hw.nC
  have hC4 := hw.2.1
  have r1 : h.2 B 1 = B + 42 := hI.1 0 (by decide) (by decide) 1
  obtain ⟨C, hC⟩ : ∃ C : Nat, vw h.1 (B + 1) 0 1 = (C : Int) := ⟨(vw h.1 (B + 1) 0 1).toNat, by omega⟩
  have hm16 : sIn (vw h.1 (B + 1)) 1 < 65536 := nset_16 hn.2
  have hmk : ∀ k, k < nCl (vw h.1 (B + 1)) → decide (vw h.1 (B + 1) (25 + k) 5 = 1) = sMk (vw h.1 (B + 1)) 2 k := fun k hk => sIn_mk hw 1 (by decide) k hk
  have hmb : ∀ k, k < nCl (vw h.1 (B + 1)) → (sIn (vw h.1 (B + 1)) 1).testBit k = sMk (vw h.1 (B + 1)) 2 k := fun k hk => by
    unfold sIn
    rw [nset_bit, decide_eq_true hk, Bool.true_and]
    exact hmk k hk
  have hmt : ∀ k, k < nCl (vw h.1 (B + 1)) → ((sIn (vw h.1 (B + 1)) 1).testBit k = true ↔ vw h.1 (B + 1) (25 + k) 5 = 1) := fun k hk => by
    rw [hmb k hk, ← hmk k hk, zdec]
  obtain ⟨c, a, hE⟩ := Enu.ex (sMk (vw h.1 (B + 1)) 2) (fun k => vw h.1 (B + 1) (25 + k) 2) (nCl (vw h.1 (B + 1)))
  have hbc : sBC ((sIn (vw h.1 (B + 1)) 1 : Nat) : Int) = (c : Int) := by
    unfold sIn
    rw [sBC_nset hn.2, hE.2.2.2]
    exact congrArg (fun x : Nat => (x : Int)) (nct_congr _ hmk)
  obtain ⟨g, c1, c2, c3⟩ := e4_copy (i_clyT hI) hcv (Or.inr (by omega))
  generalize htt : vw g.1 (B + 42) = t at c2
  have wt := c2.wf hw
  have ent : nCl t = nCl (vw h.1 (B + 1)) := c2.ceq.n
  have tc : ∀ k, k < nCl (vw h.1 (B + 1)) → ∀ j, j < 11 → vw h.1 (B + 1) (25 + k) j = t (25 + k) j := fun k hk j hj => c2.2.2.2.2 k (by omega) j hj
  have t7 : t 0 7 = (nCl (vw h.1 (B + 1)) : Int) := by rw [← c2.1.2.2.2.2]; exact hn.1
  generalize hmm : sIn (vw h.1 (B + 1)) 1 = m at hm16 hmb hmt hbc
  have w0ne : ∀ o j, ¬ (25 ≤ o ∧ j = 5) → zit (pW m) (nCl (vw h.1 (B + 1))) t o j = t o j := fun o j z => pW_ne _ _ _ (by omega)
  have w05 : ∀ k, k < nCl (vw h.1 (B + 1)) → zit (pW m) (nCl (vw h.1 (B + 1))) t (25 + k) 5 = if m.testBit k = true then 0 else t (25 + k) 5 := fun k hk => pW_5 _ hk
  have w0s : ∀ k, k < nCl (vw h.1 (B + 1)) → zit (pW m) (nCl (vw h.1 (B + 1))) t (25 + k) 5 = 0 ∨ zit (pW m) (nCl (vw h.1 (B + 1))) t (25 + k) 5 = 2 := fun k hk => by
    rw [w05 k hk]
    by_cases z : m.testBit k = true
    · rw [if_pos z]; exact Or.inl rfl
    · rw [if_neg z, ← tc k hk 5 (by decide)]
      have hst := (hw.2.2.2.2.2.2.2.2 k (by omega)).2.2.2.2.2.2.1
      have : vw h.1 (B + 1) (25 + k) 5 ≠ 1 := fun y => z ((hmt k hk).mpr y)
      omega
  have w01 : zit (pW m) (nCl (vw h.1 (B + 1))) t 0 1 = (C : Int) := by rw [w0ne 0 1 (by omega), ← c2.1.2.1, hC]
  have hw0 : WF (zit (pW m) (nCl (vw h.1 (B + 1))) t) := noact_wf (v := t) (C0 := t 0 1) (by rw [vup_id rfl]; exact wt) (by rw [w01]; omega) (fun o j _ z2 => w0ne o j z2) (fun k hk => w0s k (by omega))
  have hEc : Enu (fun k => m.testBit k) (fun k => vw g.1 (B + 42) (25 + k) 2) (nCl (vw h.1 (B + 1))) c a := hE.congr (fun k hk => (hmb k hk).symm) (fun k hk => by rw [htt]; exact tc k hk 2 (by decide))
  obtain ⟨h4, x, o1, o2, o3⟩ := e4_anew (h := g) (A := B + 42) (by rw [c3.1]; exact i_clyT hI) (n := nCl (vw h.1 (B + 1))) (m := m) (c := c) (a := a) (by rw [htt]; exact t7) hn.2 hm16 (by rw [htt]; exact hw0) hEc hbc
  rw [htt] at o2
  generalize hw0g : zit (pW m) (nCl (vw h.1 (B + 1))) t = w0 at o2 hw0 w0ne w05 w0s w01
  have hA0 : Agr (vw h.1 (B + 1)) w0 := ⟨fun j hj => by rw [w0ne _ _ (by omega)]; exact c2.2.1 j (by omega), by rw [w0ne _ _ (by omega)]; exact c2.1.2.2.2.2, fun k hk j hj => by rw [w0ne _ _ (by omega)]; exact tc k (by omega) j (by omega)⟩
  have hF4 : Frm (B + 42) h h4 := c3.tr o3
  have s4 : zSame B h h4 := ⟨hF4.1, fun a j q => hF4.2 a j (by unfold zScrt at q; omega)⟩
  have cls : ∀ R, (if x = (c : Int) then zbp (q_X4_callsIn h4 (B + 42) 0) (fun x5 => zbd (q_X4_placeInOrder h4 (B + 42) x5) (fun x6 h7 => q_X7_compact_L54 B (fun x13 x14 h15 => zbd (q_X1_keep h15 (h15.2 B 3) (h15.2 B 0)) (fun _ h17 => zbd (q_X4_copyFrom h17 (h17.2 B 0) (h17.2 B 1)) (fun _ h18 => some (x13, h18)))) zF 0 0 h7)) else some (-3, h4)) = R → q_X7_compact h B = R := fun R hR => by
    unfold q_X7_compact
    rw [hI.r0, e4_callsIn hcv 1, zbp_some, hmm, r1, c1, zbd_some, c3.1, r1, o1, zbd_some]
    have r41 : h4.2 B 1 = B + 42 := by rw [hF4.1]; exact r1
    rw [r41]
    by_cases q : x = (c : Int)
    · rw [if_pos q, if_neg one0]
      rw [if_pos q] at hR
      exact hR
    · rw [if_neg q, if_pos rfl]
      rw [if_neg q] at hR
      exact hR
  by_cases hx : x = (c : Int)
  · have wu : WF (vw h4.1 (B + 42)) := o2.wf hw0
    have hc4 : CV h4 (B + 42) := ⟨by rw [hF4.1]; exact i_clyT hI, wu⟩
    have hinj : ∀ i j, i < c → j < c → a i = a j → i = j := fun i j z1 z2 e => hE.inj z1 z2 e
    have hAn : Anw t (vw h4.1 (B + 42)) := by
      refine ⟨fun o j ho => by rw [o2.sta o j (by omega), w0ne o j (by omega)], fun k hk => ⟨fun h5 => ?_, fun h5 => ?_⟩⟩
      · rw [ent] at hk
        have hnm : ¬ m.testBit k = true := fun z => h5 (by rw [← tc k hk 5 (by decide)]; exact (hmt k hk).mp z)
        funext j
        rw [o2.rest (fun i hi e => hnm (by rw [hmb k hk, ← e]; exact (hE.1 i hi).2))]
        by_cases e5 : j = 5
        · rw [e5, w05 k hk, if_neg hnm]
        · exact w0ne _ _ (by omega)
      · rw [ent] at hk
        have hmi : m.testBit k = true := (hmt k hk).mpr (by rw [tc k hk 5 (by decide)]; exact h5)
        obtain ⟨i, i1, i2⟩ := hE.2.1 k hk (by rw [← hmb k hk]; exact hmi)
        have u5 := o2.full hx i i1
        rw [i2] at u5
        refine ⟨u5, fun j h6 h7 => ?_⟩
        by_cases e5 : j = 5
        · rw [e5, u5, h5]
        · by_cases e9 : j = 9
          · have t9 := (wt.act (k := k) (by omega) h5).1
            rw [e9, o2.nine (by rw [w0ne _ _ (by omega)]; omega), w0ne _ _ (by omega)]
          · rw [o2.sta _ _ (by omega), w0ne _ _ (by omega)]
    have hsu : zSep (vw h4.1 (B + 42)) := o2.sep (fun k l hk _ _ k5 _ _ => by
      have := w0s k (by rw [← hA0.2.1] at hk; omega)
      omega) hinj (fun i hi => by have := w0s (a i) (hE.1 i hi).1; omega)
    have u7 : vw h4.1 (B + 42) 0 7 = (nCl (vw h.1 (B + 1)) : Int) := by rw [hAn.1 0 7 (by omega)]; exact t7
    have hwu : zWt (vw h4.1 (B + 42)) := fun k hk k5 => by
      rw [u7] at hk
      have hkn : k < nCl (vw h.1 (B + 1)) := by omega
      have t5 : t (25 + k) 5 ≠ 1 := fun z => by
        have := ((hAn.2 k (by rw [ent]; exact hkn)).2 z).1
        omega
      have er := (hAn.2 k (by rw [ent]; exact hkn)).1 t5
      rw [er] at k5 ⊢
      rw [← tc k hkn 5 (by decide)] at k5
      rw [← tc k hkn 9 (by decide)]
      exact hI.2.2.2.1.2.2.2 k (by omega) k5
    obtain ⟨c', a', hq⟩ := Que.ex (vw h4.1 (B + 42))
    obtain ⟨mm, h7, n2, z1, z2, z3, z4⟩ := e4_serve hc4 hq
    have hgz := hq.good wu z3 hsu hwu
    have hF7 : Frm (B + 42) h h7 := hF4.tr z4
    have s7 : zSame B h h7 := ⟨hF7.1, fun a j q => hF7.2 a j (by unfold zScrt at q; omega)⟩
    have hI7 := hI.same s7
    have ev7 : vw h7.1 (B + 1) = vw h.1 (B + 1) := zS_cur s7
    obtain ⟨np, sh, hkn⟩ := KNum.ex hI7.2.2.1
    obtain ⟨g1, k1, k2⟩ := e1_keep hI7 hkn
    obtain ⟨kc1, kc2, kc3, kc4, kc5⟩ := kpt_cur hI7 k2
    have ez : vw g1.1 (B + 42) = vw h7.1 (B + 42) := vw_ext fun o ho j => k2.2.2.2.2.2 _ _ (by omega) (by omega)
    have hcz : CV g1 (B + 42) := ⟨fun o ho j => by rw [k2.2.1 _ _ (by omega)]; exact i_clyT hI7 o ho j, by rw [ez]; exact hgz.1⟩
    obtain ⟨h18, d1, d2, d3⟩ := e4_copy kc1.1 hcz (Or.inl (by omega))
    rw [ez] at d2
    have hgood : Good (vw h18.1 (B + 1)) := d2.good hgz
    have hc1 : ∀ q j, ¬ (B + 1 ≤ q ∧ q < B + 42) → ¬ zScrt B q j → h18.1 q j = g1.1 q j := fun q j hq _ => d3.2 q j (by omega)
    have hc2 : h18.2 = g1.2 := d3.1
    have Xt : Ex2 C0 S F t := c2.ex2 X
    have X0 : Ex2 C0 S F w0 := by
      refine ⟨⟨by rw [w0ne _ _ (by omega)]; exact Xt.1.1, fun l hl => ?_, fun l hl q5 q9 => ?_⟩, by rw [w0ne _ _ (by omega)]; exact Xt.2.1, by rw [w0ne _ _ (by omega)]; exact Xt.2.2.1, by rw [w0ne _ _ (by omega)]; exact Xt.2.2.2⟩
      · rw [w0ne _ _ (by omega)] at hl ⊢
        exact Xt.1.2.1 l hl
      · rw [w0ne _ _ (by omega)] at hl q9
        rw [w0ne _ _ (by omega), w0ne _ _ (by omega), w0ne _ _ (by omega)]
        refine Xt.1.2.2 l hl (fun z => q5 ?_) q9
        have hln : l < nCl (vw h.1 (B + 1)) := by rw [t7] at hl; omega
        rw [w05 l hln]
        have hnm : ¬ m.testBit l = true := fun y => by
          have := (hmt l hln).mp y
          rw [tc l hln 5 (by decide)] at this
          omega
        rw [if_neg hnm]
        exact z
    have w07 : w0 0 7 = (nCl (vw h.1 (B + 1)) : Int) := by rw [w0ne _ _ (by omega)]; exact t7
    have X4 := Run.ex2 hw0 X0 o2 (fun i hi => by
      have hin := (hE.1 i hi).1
      have := w0s (a i) hin
      rw [w07]
      refine ⟨by omega, fun z => ?_⟩
      have h5 : m.testBit (a i) = true := by rw [hmb _ hin]; exact (hE.1 i hi).2
      have e5 := w05 (a i) hin
      rw [if_pos h5] at e5
      omega)
    have X7 := Run.ex2 wu X4 z3 (hq.ne2 wu)
    refine ⟨((nct (fun k => decide (vw h7.1 (B + 1) (25 + k) 5 = 1 ∧ ¬ (vw h7.1 (B + 1) (25 + k) 6 = vw h7.1 (B + 42) (25 + k) 6 ∧ vw h7.1 (B + 1) (25 + k) 7 = vw h7.1 (B + 42) (25 + k) 7))) (nCl (vw h7.1 (B + 1))) : Nat) : Int), h18, cls _ ?_, chg_inv hI7 hkn k2 hc2 hc1 hgood, d2.ex2 X7⟩
    rw [if_pos hx, z1, zbp_some, z2, zbd_some, m_moved hI7.r0 (by rw [hF7.1]; exact r1) hI7.cv (i_clyT hI7), hI7.r3, hI7.r0, k1, zbd_some, kc3, kc4, d1, zbd_some]
  · exact ⟨-3, h4, cls _ (by rw [if_neg hx]), hI.same s4, by rw [zS_cur s4]; exact X⟩

end CH58
