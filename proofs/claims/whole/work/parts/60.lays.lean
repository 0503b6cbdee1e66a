/-! Laying the bursts: the reference. -/
theorem z_awb {x : Int} {j : Nat} (hj : j < 16) : zand (zshr x (j : Int)) 1 = 0 ↔ ¬ awy x j = true := by
  have hs : ((zi (j : Int) &&& 31).toBitVec.smod 32).toNat = j := by
    have h3 : ∀ k : Nat, k < 16 → ((zi (k : Int) &&& 31).toBitVec.smod 32).toNat = k := by decide
    exact h3 j hj
  have e1 : zand (zshr x (j : Int)) 1 = ((zi x).toBitVec.sshiftRight j &&& 1#32).toInt := by
    unfold zand zshr
    rw [zi_of]
    show ((zi x >>> (zi (j : Int) &&& 31)) &&& zi 1).toBitVec.toInt = _
    rw [Int32.toBitVec_and, Int32.toBitVec_shiftRight]
    show (BitVec.sshiftRight _ _ &&& _).toInt = _
    rw [hs]
    rfl
  have e2 : ((zi x).toBitVec.sshiftRight j).getLsbD 0 = awy x j := by
    rw [BitVec.getLsbD_sshiftRight]
    unfold awy
    simp
    omega
  rw [e1, BitVec.and_one_eq_setWidth_ofBool_getLsbD, e2]
  cases awy x j
  · exact ⟨fun _ => by decide, fun _ => by decide⟩
  · exact ⟨fun z => absurd z (by decide), fun z => absurd rfl z⟩
section OPS
variable {B : Nat}
def layC (v : Nat → Nat → Int) (x : Int) : Nat → Int := fun l => if v (25 + l) 5 = 1 ∧ ¬ awy x l = true then v (25 + l) 6 else -1
def layS (v : Nat → Nat → Int) (x : Int) : Nat → Int := fun l => if v (25 + l) 5 = 1 ∧ ¬ awy x l = true then v (25 + l) 7 else -1
/-- what the laying may write -/
def zLy (B : Nat) (h g : zH) : Prop := g.2 = h.2 ∧ ∀ a j, a ≠ B + 541 + 8 → a ≠ B + 541 + 9 → g.1 a j = h.1 a j
theorem zLy.tr {h g f : zH} (h1 : zLy B h g) (h2 : zLy B g f) : zLy B h f := ⟨h2.1.trans h1.1, fun a j p q => (h2.2 a j p q).trans (h1.2 a j p q)⟩
theorem zLy.same {h g : zH} (h1 : zLy B h g) : zSame B h g := ⟨h1.1, fun a j q => h1.2 a j (fun z => q (by unfold zScrt; omega)) (fun z => q (by unfold zScrt; omega))⟩
theorem zLy.p {h : zH} {j : Nat} {x y : Int} : zLy B h (zput (zput h (B + 541 + 8) j x) (B + 541 + 9) j y) := ⟨rfl, fun a i q1 q2 => by rw [zput_ne (fun z => q2 z.1), zput_ne (fun z => q1 z.1)]⟩
theorem m_lays {v : Nat → Nat → Int} {x : Int} {T : Nat → Int} : ∀ (r i f : Nat) (h : zH), i + r = nCl v → r < f → MVt h (B + 541) v T → (∀ l, l < i → h.1 (B + 541 + 8) l = layC v x l ∧ h.1 (B + 541 + 9) l = layS v x l) →
    ∃ h', q_X8_laysBursts_L2 (B + 541) x (fun _ h14 => some ((), h14)) f (i : Int) h = some ((), h') ∧ zLy B h h' ∧ ∀ l, l < nCl v → h'.1 (B + 541 + 8) l = layC v x l ∧ h'.1 (B + 541 + 9) l = layS v x l := by
  intro r
  induction r with
  | zero =>
    intro i f h q1 q2 hm h1
    obtain ⟨f', rfl⟩ : ∃ f', f = f' + 1 := ⟨f - 1, by omega⟩
    have e : i = nCl v := by omega
    subst e
    refine ⟨h, ?_, ⟨rfl, fun _ _ _ _ => rfl⟩, h1⟩
    rw [q_X8_laysBursts_L2, m_n7 hm, if_pos (Int.le_refl _)]
  | succ r ih =>
    intro i f h q1 q2 hm h1
    obtain ⟨f', rfl⟩ : ∃ f', f = f' + 1 := ⟨f - 1, by omega⟩
    have hn := hm.2.1.nC
    have hi7 : (i : Int) < v 0 7 := by omega
    have hi16 : i < 16 := by omega
    have hi6 : i < 1000000 := by omega
    have hni : ¬ (nCl v : Int) ≤ (i : Int) := by omega
    have e23 : h.2 (B + 541) 23 = B + 541 + 8 := hm.1 23
    have e24 : h.2 (B + 541) 24 = B + 541 + 9 := hm.1 24
    have step : ∀ c s : Int, layC v x i = c → layS v x i = s → ∃ h', q_X8_laysBursts_L2 (B + 541) x (fun _ h14 => some ((), h14)) f' ((i + 1 : Nat) : Int) (zput (zput h (B + 541 + 8) i c) (B + 541 + 9) i s) = some ((), h') ∧ zLy B h h' ∧ ∀ l, l < nCl v → h'.1 (B + 541 + 8) l = layC v x l ∧ h'.1 (B + 541 + 9) l = layS v x l := by
      intro c s ec es
      have s1 : zLy B h (zput (zput h (B + 541 + 8) i c) (B + 541 + 9) i s) := zLy.p
      obtain ⟨h', p1, p2, p3⟩ := ih (i + 1) f' (zput (zput h (B + 541 + 8) i c) (B + 541 + 9) i s) (by omega) (by omega) (hm.same s1.same) (fun l hl => by
        by_cases e : l = i
        · subst e
          rw [zput_ne (by omega), zput_self, zput_self]
          exact ⟨ec.symm, es.symm⟩
        · rw [zput_ne (by omega), zput_ne (by omega), zput_ne (by omega), zput_ne (by omega)]
          exact h1 l (by omega))
      exact ⟨h', p1, s1.tr p2, p3⟩
    rw [q_X8_laysBursts_L2, m_n7 hm, if_neg hni, m_act hm hi7, zbp_some]
    simp only [zlet_b, zput_2, zgpos hi16]
    rw [Int.toNat_natCast, e23, e24, zw_s hi6]
    by_cases h5 : v (25 + i) 5 = 1
    · rw [if_pos h5, if_neg one0]
      by_cases ha : awy x i = true
      · have ec : layC v x i = -1 := by unfold layC; rw [if_neg (fun z => z.2 ha)]
        have es : layS v x i = -1 := by unfold layS; rw [if_neg (fun z => z.2 ha)]
        rw [if_neg (fun z => (z_awb hi16).mp z ha), if_pos trivial, if_pos trivial]
        exact step _ _ ec es
      · have ec : layC v x i = v (25 + i) 6 := by unfold layC; rw [if_pos ⟨h5, ha⟩]
        have es : layS v x i = v (25 + i) 7 := by unfold layS; rw [if_pos ⟨h5, ha⟩]
        have s0 : zSame B h (zput h (B + 541 + 8) i (v (25 + i) 6)) := zSame.rf.put (by unfold zScrt; omega)
        rw [if_pos ((z_awb hi16).mpr ha), if_neg one0, m_6 hm hi7 h5, zbp_some, m_7 (hm.same s0) hi7 h5, zbp_some]
        exact step _ _ ec es
    · have ec : layC v x i = -1 := by unfold layC; rw [if_neg (fun z => h5 z.1)]
      have es : layS v x i = -1 := by unfold layS; rw [if_neg (fun z => h5 z.1)]
      rw [if_neg h5, if_pos rfl, if_pos trivial, if_pos trivial]
      exact step _ _ ec es
theorem e8_lays {h : zH} {v : Nat → Nat → Int} {T : Nat → Int} (hm : MVt h (B + 541) v T) (x : Int) : ∃ h', q_X8_laysBursts h (B + 541) x = some ((), h') ∧ zLy B h h' ∧ ∀ l, l < nCl v → h'.1 (B + 541 + 8) l = layC v x l ∧ h'.1 (B + 541 + 9) l = layS v x l := by
  unfold q_X8_laysBursts
  exact m_lays (nCl v) 0 zF h (Nat.zero_add _) (by have := hm.2.1.nC; unfold zF; omega) hm (fun l hl => by omega)
theorem Fit.lay {v : Nat → Nat → Int} (w : WF v) {x : Int} {k : Nat} {c t : Int} : Fit v (fun l => awy x l = true) k c t ↔ (v 1 2 + v 1 1 ≤ t ∧ FitR v (layC v x) (layS v x) k c t) := by
  have hn := w.nC
  have hb : ∀ l, l < nCl v → (isBlk v (layC v x) (layS v x) k c t l ↔ (isWay v k c t l ∧ ¬ awy x l = true)) := by
    intro l hl
    unfold layC layS
    by_cases q : v (25 + l) 5 = 1 ∧ ¬ awy x l = true
    · have ha := w.act (k := l) (by omega) q.1
      simp only [isBlk, isWay, if_pos q]
      constructor
      · rintro ⟨_, z2, z3, z4⟩
        exact ⟨⟨q.1, z2, z3, z4⟩, q.2⟩
      · rintro ⟨⟨_, z2, z3, z4⟩, _⟩
        exact ⟨by omega, z2, z3, z4⟩
    · simp only [isBlk, if_neg q]
      constructor
      · rintro ⟨z, _⟩
        exact absurd rfl z
      · rintro ⟨z, z2⟩
        exact absurd ⟨z.1, z2⟩ q
  rw [Fit.iff]
  unfold FitR
  constructor
  · rintro ⟨h1, h2, h3⟩
    exact ⟨h1, h2, fun l hl z => h3 l (by omega) ((hb l hl).mp z).2 ((hb l hl).mp z).1⟩
  · rintro ⟨h1, h2, h3⟩
    exact ⟨h1, h2, fun l hl hW z => h3 l (by omega) ((hb l (by omega)).mpr ⟨z, hW⟩)⟩
end OPS
