/-! Where the exchange's cells lie behind the base. -/
/-- the kinds, by how far a cell lies behind the base -/
def gK (o : Nat) : Nat := if o = 0 then 8 else if o < 42 then skK (o - 1) else if o < 83 then skK (o - 42) else if o < 87 then (if o = 83 then 6 else if o = 84 then 11 else if o = 85 then 2 else 16) else if o < 497 then skK ((o - 87) % 41) else if o < 500 then (if o = 497 then 3 else if o = 498 then 7 else 15) else if o < 541 then skK (o - 500) else 0
def gO (o j : Nat) : Nat := if o = 0 then (if j = 0 then 1 else if j = 1 then 42 else if j = 2 then 83 else if j = 3 then 85 else if j = 4 then 497 else 0) else if o < 42 then 1 + skO (o - 1) j else if o < 83 then 42 + skO (o - 42) j else if o < 87 then (if o = 83 then (if j = 7 then 84 else 0) else if o = 85 then (if j = 1 then 86 else 0) else if o = 86 then 87 + 41 * j else 0) else if o < 497 then (87 + 41 * ((o - 87) / 41)) + skO ((o - 87) % 41) j else if o < 500 then (if o = 497 then (if j = 0 then 498 else if j = 1 then 500 else 0) else if o = 498 then (if j = 1 then 499 else 0) else 0) else if o < 541 then 500 + skO (o - 500) j else 0
def gI (o j : Nat) : Int := if o = 0 then 0 else if o < 42 then skI (o - 1) j else if o < 83 then skI (o - 42) j else if o < 87 then 0 else if o < 497 then skI ((o - 87) % 41) j else if o < 500 then (if o = 497 ∧ j = 2 then -1 else 0) else if o < 541 then skI (o - 500) j else 0
/-- all cells as the constructors leave them, but for the reference's rows -/
def gB (B : Nat) : zH := (fun a j => if B ≤ a then gI (a - B) j else 0, fun a j => B + gO (a - B) j)
theorem gB2 (B o j : Nat) : (gB B).2 (B + o) j = B + gO o j := by show B + gO (B + o - B) j = _; rw [Nat.add_sub_cancel_left]
theorem gB1 (B o j : Nat) : (gB B).1 (B + o) j = gI o j := by
  show (if B ≤ B + o then gI (B + o - B) j else 0) = _
  rw [if_pos (Nat.le_add_right _ _), Nat.add_sub_cancel_left]
def gW (w : zW) (B : Nat) : Prop := ∀ a, zwK w a = if B ≤ a then gK (a - B) else 31
theorem gW.at {w : zW} {B : Nat} (h : gW w B) (o : Nat) : zwK w (B + o) = gK o := by rw [h, if_pos (Nat.le_add_right _ _), Nat.add_sub_cancel_left]
theorem gK_1 : ∀ o, o < 41 → gK (1 + o) = skK o := by decide +kernel
theorem gK_42 : ∀ o, o < 41 → gK (42 + o) = skK o := by decide +kernel
theorem gK_500 : ∀ o, o < 41 → gK (500 + o) = skK o := by decide +kernel
theorem gK_87 : ∀ i, i < 10 → ∀ o, o < 41 → gK (87 + 41 * i + o) = skK o := by decide +kernel
theorem gO_1 {o : Nat} (h : o < 41) (j : Nat) : gO (1 + o) j = 1 + skO o j := by
  unfold gO
  rw [if_neg (by omega), if_pos (by omega), Nat.add_sub_cancel_left]
theorem gO_42 {o : Nat} (h : o < 41) (j : Nat) : gO (42 + o) j = 42 + skO o j := by
  unfold gO
  rw [if_neg (by omega), if_neg (by omega), if_pos (by omega), Nat.add_sub_cancel_left]
theorem gO_87 {i o : Nat} (hi : i < 10) (h : o < 41) (j : Nat) : gO (87 + 41 * i + o) j = 87 + 41 * i + skO o j := by
  unfold gO
  rw [if_neg (by omega), if_neg (by omega), if_neg (by omega), if_neg (by omega), if_pos (by omega), show (87 + 41 * i + o - 87) / 41 = i by omega, show (87 + 41 * i + o - 87) % 41 = o by omega]
theorem gO_500 {o : Nat} (h : o < 41) (j : Nat) : gO (500 + o) j = 500 + skO o j := by
  unfold gO
  rw [if_neg (by omega), if_neg (by omega), if_neg (by omega), if_neg (by omega), if_neg (by omega), if_neg (by omega), if_pos (by omega), Nat.add_sub_cancel_left]
theorem gI_1 {o : Nat} (h : o < 41) (j : Nat) : gI (1 + o) j = skI o j := by
  unfold gI
  rw [if_neg (by omega), if_pos (by omega), Nat.add_sub_cancel_left]
theorem gI_42 {o : Nat} (h : o < 41) (j : Nat) : gI (42 + o) j = skI o j := by
  unfold gI
  rw [if_neg (by omega), if_neg (by omega), if_pos (by omega), Nat.add_sub_cancel_left]
theorem gI_87 {i o : Nat} (hi : i < 10) (h : o < 41) (j : Nat) : gI (87 + 41 * i + o) j = skI o j := by
  unfold gI
  rw [if_neg (by omega), if_neg (by omega), if_neg (by omega), if_neg (by omega), if_pos (by omega), show (87 + 41 * i + o - 87) % 41 = o by omega]
theorem gI_500 {o : Nat} (h : o < 41) (j : Nat) : gI (500 + o) j = skI o j := by
  unfold gI
  rw [if_neg (by omega), if_neg (by omega), if_neg (by omega), if_neg (by omega), if_neg (by omega), if_neg (by omega), if_pos (by omega), Nat.add_sub_cancel_left]
theorem gI_mid {o : Nat} (h1 : 83 ≤ o) (h2 : o < 87) (j : Nat) : gI o j = 0 := by
  unfold gI
  rw [if_neg (by omega), if_neg (by omega), if_neg (by omega), if_pos (by omega)]
theorem gI_0 (j : Nat) : gI 0 j = 0 := rfl
theorem g_St {w : zW} {B t : Nat} (hW : gW w B) (hk : ∀ o, o < 41 → gK (t + o) = skK o) (hO : ∀ o, o < 41 → ∀ j, gO (t + o) j = t + skO o j) (hI : ∀ o, o < 41 → ∀ j, gI (t + o) j = skI o j) : zLSt w (gB B) (B + t) := by
  intro o ho
  refine ⟨?_, fun j => ⟨?_, ?_⟩⟩
  · rw [Nat.add_assoc, hW.at, hk o ho]
  · rw [Nat.add_assoc, gB2, hO o ho j]
    omega
  · rw [Nat.add_assoc, gB1, hI o ho j]
theorem g_H {w : zW} {B : Nat} (hW : gW w B) : zLH w (gB B) (B + 85) := by
  refine ⟨hW.at 85, hW.at 86, gB2 B 85 1, fun j => (gB1 B 85 j).trans (gI_mid (by decide) (by decide) j), fun j => ?_, fun i hi => ?_⟩
  · have h := gB2 B 86 j
    have e : gO 86 j = 87 + 41 * j := rfl
    rw [e] at h
    refine h.trans ?_
    omega
  · rw [show B + 85 + 2 + 41 * i = B + (87 + 41 * i) by omega]
    exact g_St hW (gK_87 i hi) (fun o ho j => gO_87 hi ho j) (fun o ho j => gI_87 hi ho j)
theorem g_L {w : zW} {B : Nat} (hW : gW w B) : zLL w (gB B) (B + 497) := by
  refine ⟨hW.at 497, hW.at 498, hW.at 499, gB2 B 497 0, gB2 B 497 1, gB2 B 498 1, fun j => ?_, fun j => ?_, fun j => ?_, ?_⟩
  · refine (gB1 B 497 j).trans ?_
    show (if 497 = 497 ∧ j = 2 then (-1 : Int) else 0) = _
    simp
  · refine (gB1 B 498 j).trans ?_
    show (if 498 = 497 ∧ j = 2 then (-1 : Int) else 0) = _
    rw [if_neg (fun q => absurd q.1 (by decide))]
  · refine (gB1 B 499 j).trans ?_
    show (if 499 = 497 ∧ j = 2 then (-1 : Int) else 0) = _
    rw [if_neg (fun q => absurd q.1 (by decide))]
  · exact g_St (t := 500) hW gK_500 (fun o ho j => gO_500 ho j) (fun o ho j => gI_500 ho j)
theorem g_B {w : zW} {B : Nat} (hW : gW w B) : zLB w (gB B) B :=
  ⟨hW.at 0, gB2 B 0 0, gB2 B 0 1, gB2 B 0 2, gB2 B 0 3, gB2 B 0 4, g_St hW gK_1 (fun o ho j => gO_1 ho j) (fun o ho j => gI_1 ho j), g_St hW gK_42 (fun o ho j => gO_42 ho j) (fun o ho j => gI_42 ho j),
   ⟨hW.at 83, hW.at 84, gB2 B 83 7, fun j => (gB1 B 83 j).trans (gI_mid (by decide) (by decide) j), fun j => (gB1 B 84 j).trans (gI_mid (by decide) (by decide) j)⟩, g_H hW, g_L hW⟩
theorem skI_R (o j : Nat) : zR (skI o j) := by
  unfold skI
  split
  · exact ⟨by decide, by decide⟩
  · split
    · rename_i h
      exact zsV_R 2 (by decide) j h.2
    · exact zR_0
theorem gI_R (o j : Nat) : zR (gI o j) := by
  unfold gI
  repeat' split
  all_goals first | exact skI_R _ _ | exact zR_0 | exact ⟨by decide, by decide⟩
theorem g_Rg (B : Nat) : zRg (gB B) := by
  intro a j
  show zR (if B ≤ a then gI (a - B) j else 0)
  split
  · exact gI_R _ _
  · exact zR_0
theorem gT : ∀ o, o < 541 → ∀ j, j < 16 → j < zn (gK o - 1) → zft (gK o - 1) j ≠ 0 → gK (gO o j) = zft (gK o - 1) j := by decide +kernel
theorem gT16 : ∀ o, o < 541 → 16 < zn (gK o - 1) → 9 ≤ gK o - 1 ∧ (zar (gK o - 1)).2.1 = 0 := by decide +kernel
theorem gK_z : ∀ o, o < 541 → 1 ≤ gK o ∧ gK o ≤ 22 := by decide +kernel
theorem gK_e {o : Nat} (h : 541 ≤ o) : gK o = 0 := by
  unfold gK
  rw [if_neg (by omega), if_neg (by omega), if_neg (by omega), if_neg (by omega), if_neg (by omega), if_neg (by omega), if_neg (by omega)]
theorem g_own {w : zW} {B a : Nat} (hW : gW w B) (h : zwK w a ≠ 0 ∧ zwK w a ≤ 22) : B ≤ a ∧ a < B + 541 := by
  have h1 := hW a
  by_cases hb : B ≤ a
  · refine ⟨hb, ?_⟩
    rw [if_pos hb] at h1
    rcases Nat.lt_or_ge a (B + 541) with q | q
    · exact q
    · rw [gK_e (by omega)] at h1
      exact absurd h1 h.1
  · rw [if_neg hb] at h1
    omega
theorem g_Ty {w : zW} {B : Nat} (hW : gW w B) {h : zH} (h2 : h.2 = (gB B).2) : zTy w h := by
  intro a j k1 k2 k3
  by_cases hb : zwK w a ≤ 22
  · obtain ⟨g1, g2⟩ := g_own hW ⟨k1, hb⟩
    obtain ⟨o, rfl⟩ : ∃ o, a = B + o := ⟨a - B, by omega⟩
    have ho : o < 541 := by omega
    rw [hW.at] at k2 k3 ⊢
    rw [h2, gB2, hW.at]
    rcases Nat.lt_or_ge j 16 with q | q
    · exact gT o ho j q k2 k3
    · obtain ⟨t1, t2⟩ := gT16 o ho (by omega)
      exact absurd (zft_num t1 t2 j) k3
  · rw [zn_big (by omega)] at k2
    omega
