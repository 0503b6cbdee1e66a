/-! The start: what the constructors leave is as it can be. -/
/-- what is left: the terms of class and reference agree, from the start on -/
def zPure (B : Nat) : Prop := ∃ (h1 : zH) (I : zH → Prop), q_X8_newExchange (gB B) (B + 541) = some ((), h1) ∧ h1.2 = (gB B).2 ∧ (∀ a, ¬ (B + 541 ≤ a ∧ a < B + 552) → ∀ j, h1.1 a j = (gB B).1 a j) ∧ zRg h1 ∧ zAll I B (B + 541) (B + 552) ∧ I (zcpA h1 (B + 541 + 3) (B + 541 + 2) 65)
theorem zcpA_at {h : zH} {a b n j : Nat} (hj : j < n) : (zcpA h a b n).1 b j = h.1 a j := if_pos ⟨rfl, hj⟩
theorem zcpA_ne {h : zH} {a b n q j : Nat} (hj : ¬ (q = b ∧ j < n)) : (zcpA h a b n).1 q j = h.1 q j := if_neg hj
theorem zpure_main : ∀ B, zPure B := by
  intro B
  have hO : ∀ o j, (gB B).2 (B + o) j = B + gO o j := fun o j => gB2 B o j
  have hl : mly (gB B).2 (B + 541) := by
    intro j
    have := hO 541 j
    refine this.trans ?_
    show B + (541 + sm_O j) = _
    omega
  have hI1 : ∀ o j, (gB B).1 (B + o) j = gI o j := fun o j => gB1 B o j
  have hR := g_Rg B
  generalize hg : gB B = g0 at hO hl hI1 hR
  obtain ⟨h1, n1, n2, n3, ⟨n4, n5⟩, ⟨n6, n7, n8⟩, n9⟩ := e8_newExchange hl
  have z0 : zR 0 := by unfold zR; omega
  have z1 : zR 1 := by unfold zR; omega
  have hs2 : ∀ j, j < 7 → zR (zsV 2 j) := fun j hj => zsV_R 2 (by decide) j hj
  unfold zPure
  rw [hg]
  refine ⟨h1, zInv B, n1, n2, fun a ha j => n9 a j (by omega) (by omega) (by omega), fun a j => ?_, ⟨op_0, op_1, op_2, op_3, op_4, op_5, op_6, op_7, op_8, op_9, op_10, op_11, op_12, op_13, op_14, op_15, op_16, op_17, op_18, op_19, op_20, op_21, op_22, op_23, op_24, op_25, op_26, op_27, op_28, op_29, op_30, op_31, op_32, op_33, op_34, op_35, op_36, op_37, op_38, op_39, op_40, op_41, op_42, op_43, op_44, op_45, op_46, op_47, op_48, op_49, op_50, op_51, op_52, op_53, op_54⟩, ?_⟩
  · by_cases e3 : a = B + 541 + 3 ∧ j < 65
    · rw [e3.1, n3 j e3.2]
      split
      · exact z1
      · exact z0
    · by_cases e4 : a = B + 541 + 4 ∧ j < 597
      · rw [e4.1]
        by_cases e5 : j = 0 ∨ 8 ≤ j
        · rw [n5 j e4.2 e5]
          exact z0
        · obtain ⟨i, rfl⟩ : ∃ i, j = 1 + i := ⟨j - 1, by omega⟩
          rw [n4 i (by omega)]
          exact hs2 i (by omega)
      · by_cases e5 : a = B + 541 ∧ 18 ≤ j ∧ j ≤ 20
        · obtain ⟨e6, e7⟩ := e5
          obtain rfl | rfl | rfl : j = 18 ∨ j = 19 ∨ j = 20 := by omega
          · rw [e6, n6]; exact z0
          · rw [e6, n7]; exact z0
          · rw [e6, n8]; exact z0
        · rw [n9 a j e3 e4 e5]
          exact hR a j
  · have hc : ∀ q j, ¬ (q = B + 541 + 2 ∧ j < 65) → (zcpA h1 (B + 541 + 3) (B + 541 + 2) 65).1 q j = h1.1 q j := fun q j hq => zcpA_ne hq
    have hc2 : ∀ j, j < 65 → (zcpA h1 (B + 541 + 3) (B + 541 + 2) 65).1 (B + 541 + 2) j = h1.1 (B + 541 + 3) j := fun j hj => zcpA_at hj
    have hcr : (zcpA h1 (B + 541 + 3) (B + 541 + 2) 65).2 = h1.2 := rfl
    generalize zcpA h1 (B + 541 + 3) (B + 541 + 2) 65 = h at hc hc2 hcr
    have r2 : h.2 = g0.2 := hcr.trans n2
    have old : ∀ o j, o < 541 → h.1 (B + o) j = gI o j := fun o j ho => by rw [hc _ _ (by omega), n9 _ _ (by omega) (by omega) (by omega)]; exact hI1 o j
    have old541 : ∀ j, ¬ (18 ≤ j ∧ j ≤ 20) → h.1 (B + 541) j = gI 541 j := fun j hj => by rw [hc _ _ (by omega), n9 _ _ (by omega) (by omega) (by omega)]; exact hI1 541 j
    have v0 : V0c (vw h.1 (B + 1)) := by
      have c : ∀ o j, o < 41 → vw h.1 (B + 1) o j = skI o j := fun o j ho => by
        rw [vw_at ho, Nat.add_assoc, old _ _ (by omega), gI_1 ho]
      refine ⟨by rw [c _ _ (by decide)]; rfl, by rw [c _ _ (by decide)]; rfl, by rw [c _ _ (by decide)]; rfl, by rw [c _ _ (by decide)]; rfl, by rw [c _ _ (by decide)]; rfl, fun j hj => ?_⟩
      rw [c _ _ (by decide)]
      unfold skI
      rw [if_neg (by decide +revert), if_pos ⟨rfl, hj⟩]
    have h85 : h.1 (B + 85) 0 = 0 := old 85 0 (by decide)
    have h8 : h.1 (B + 541) 8 = 0 := old541 8 (by decide)
    have h498 : h.1 (B + 498) 0 = 0 := old 498 0 (by decide)
    have h2 : h.1 (B + 541) 2 = 0 := old541 2 (by decide)
    have h497 : h.1 (B + 497) 2 = -1 := old 497 2 (by decide)
    have h17 : h.1 (B + 541) 17 = -1 := old541 17 (by decide)
    refine zInv.mk' (fun o ho ho2 j => by rw [r2]; exact hO o j) ⟨fun j => j, fun j hj => hj, fun i j _ _ e => e, fun j hj => ?_⟩ (fun j hj => by rw [h85] at hj; omega) ⟨by rw [h85]; omega, by rw [h8, h85]⟩ v0.good ?_ ⟨by rw [h498]; omega, by rw [h2, h498], fun i hi => by rw [h498] at hi; omega⟩ (by rw [h497, h17])
    · rw [r2]
      exact hO 86 j
    · refine v0.mr (fun i hi => ?_) (fun j hj => ?_) (fun i hi h08 => ?_)
      · rw [hc2 i hi]
        exact n3 i hi
      · rw [hc _ _ (by omega)]
        exact n4 j hj
      · rw [hc _ _ (by omega)]
        exact n5 i hi h08
