/-! The script's numbers as the law reads them; a change of any kind. -/
theorem zand_lo (x : Int) : 0 ≤ zand x 2147483647 ∧ zand x 2147483647 < 2147483648 := by
  unfold zand
  have e : (zi x &&& zi 2147483647).toBitVec.toNat = (zi x).toBitVec.toNat &&& 2147483647 := by
    rw [Int32.toBitVec_and, BitVec.toNat_and, show (zi 2147483647).toBitVec.toNat = 2147483647 from by decide]
  have hlt : (zi x).toBitVec.toNat &&& 2147483647 < 2147483648 := Nat.lt_of_le_of_lt Nat.and_le_right (by decide)
  rw [bv_int (by rw [e]; exact hlt), e]
  omega
/-- the law's own 'in' -/
def zIn (x m : Int) : Int := (zand x 2147483647).tmod m
theorem zIn_b {x m : Int} (hm : 0 < m) : 0 ≤ zIn x m ∧ zIn x m < m := by
  unfold zIn
  exact ⟨Int.tmod_nonneg _ (zand_lo x).1, Int.tmod_lt_of_pos _ hm⟩
theorem l_in {w : zW} {h : zH} {x m : Int} (hm : m ≠ 0) : q_L_in w h x m = some (zIn x m) := by
  unfold q_L_in
  rw [zgz_pos hm]
  rfl
/-- a cell of the script -/
def zX (w : zW) (k : Nat) : Int := if k < zwN w then zwX w k else 0
theorem l_cell {w : zW} {h : zH} {k : Nat} : q_L_cell w h (k : Int) = some (zX w k) := by
  unfold q_L_cell zX
  by_cases q : k < zwN w
  · rw [if_neg (by omega), zgi_pos (by omega) (by omega), Int.toNat_natCast, if_pos q]
  · rw [if_pos (by omega), if_neg q]
def nS (w : zW) : Int := 2 + zIn (zX w 0) 4
theorem nS_b {w : zW} : 2 ≤ nS w ∧ nS w ≤ 5 := by
  have := zIn_b (x := zX w 0) (m := 4) (by decide)
  unfold nS
  omega
theorem l_stations {w : zW} {h : zH} : q_L_stations w h = some (nS w) := by
  have := zIn_b (x := zX w 0) (m := 4) (by decide)
  have e : q_L_cell w h 0 = some (zX w 0) := l_cell (k := 0)
  unfold q_L_stations
  rw [e, zbp_some, l_in (by decide), zbp_some, zw_id (x := 2 + zIn (zX w 0) 4) ⟨by omega, by omega⟩]
  rfl
def nC (w : zW) : Int := 1 + zIn (zw ((zX w 0).tdiv 4)) 3
theorem nC_b {w : zW} : 1 ≤ nC w ∧ nC w ≤ 3 := by
  have := zIn_b (x := zw ((zX w 0).tdiv 4)) (m := 3) (by decide)
  unfold nC
  omega
theorem l_carriers {w : zW} {h : zH} : q_L_carriers w h = some (nC w) := by
  have := zIn_b (x := zw ((zX w 0).tdiv 4)) (m := 3) (by decide)
  have e : q_L_cell w h 0 = some (zX w 0) := l_cell (k := 0)
  unfold q_L_carriers
  rw [e, zbp_some, zgz_pos (by decide), l_in (by decide), zbp_some, zw_id (x := 1 + zIn (zw ((zX w 0).tdiv 4)) 3) ⟨by omega, by omega⟩]
  rfl
/-- another station than the sender -/
theorem other_st {s a b : Int} (hs : 2 ≤ s ∧ s ≤ 5) (ha : 0 ≤ a ∧ a < s) (hb : 0 ≤ b ∧ b < s - 1) : (0 ≤ (zw (zw (a + 1) + b)).tmod s ∧ (zw (zw (a + 1) + b)).tmod s < s) ∧ a ≠ (zw (zw (a + 1) + b)).tmod s := by
  rw [zw_id (x := a + 1) ⟨by omega, by omega⟩, zw_id (x := a + 1 + b) ⟨by omega, by omega⟩, Int.tmod_eq_emod_of_nonneg (by omega)]
  obtain rfl | rfl | rfl | rfl : s = 2 ∨ s = 3 ∨ s = 4 ∨ s = 5 := by omega
  · omega
  · omega
  · omega
  · omega
section CHL
variable {B : Nat} {h : zH} {w : zW}
theorem y_ask (hI : zInv B h) {C S F : Int} (X : Ex2 C S F (vw h.1 (B + 1))) (hS : S = nS w) (x : Int) {K : Int → zH → Option (Unit × zH)} (hK : ∀ y h1, K y h1 = some ((), h1)) :
    ∃ h1, zgz 64 (zbp (q_L_stations w h) (fun x4 => zbp (q_L_in w h (zw (x.tdiv 64)) (zw (x4 - 1))) (fun x5 => zbp (q_L_stations w h) (fun x6 => zgz x6 (zgz 512 (zbp (q_L_in w h (zw (x.tdiv 512)) 4) (fun x7 => zgz 2048 (zbp (q_L_in w h (zw (x.tdiv 2048)) 250) (fun x8 => zgz 524288 (zbp (q_L_in w h (zw (x.tdiv 524288)) 20) (fun x9 => zbd (q_X7_request h B (zIn (zw (x.tdiv 8)) (nS w)) ((zw (zw (zIn (zw (x.tdiv 8)) (nS w) + 1) + x5)).tmod x6) x7 (zw (1 + x8)) (zw (1 + x9))) K))))))))))) = some ((), h1) ∧ zInv B h1 ∧ Ex2 C S F (vw h1.1 (B + 1)) := by
  have hb := nS_b (w := w)
  have b0 := zIn_b (x := zw (x.tdiv 8)) (m := nS w) (by omega)
  have b1 := zIn_b (x := zw (x.tdiv 64)) (m := nS w - 1) (by omega)
  have b2 := zIn_b (x := zw (x.tdiv 512)) (m := 4) (by decide)
  have b3 := zIn_b (x := zw (x.tdiv 2048)) (m := 250) (by decide)
  have b4 := zIn_b (x := zw (x.tdiv 524288)) (m := 20) (by decide)
  have e1 : zw (nS w - 1) = nS w - 1 := zw_id ⟨by omega, by omega⟩
  obtain ⟨o1, o2⟩ := other_st hb b0 b1
  have X2 := X.2.2.1
  rw [zgz_pos (by decide), l_stations, zbp_some, e1, l_in (by omega), zbp_some, zbp_some, zgz_pos (by omega), zgz_pos (by decide), l_in (by decide), zbp_some, zgz_pos (by decide), l_in (by decide), zbp_some, zgz_pos (by decide), l_in (by decide), zbp_some]
  rw [zw_id (x := 1 + zIn (zw (x.tdiv 2048)) 250) ⟨by omega, by omega⟩, zw_id (x := 1 + zIn (zw (x.tdiv 524288)) 20) ⟨by omega, by omega⟩]
  obtain ⟨y, h1, p1, p2, p3⟩ := y_request hI X (s := zIn (zw (x.tdiv 8)) (nS w)) (r := (zw (zw (zIn (zw (x.tdiv 8)) (nS w) + 1) + zIn (zw (x.tdiv 64)) (nS w - 1))).tmod (nS w)) (p := zIn (zw (x.tdiv 512)) 4) (sy := 1 + zIn (zw (x.tdiv 2048)) 250) (ho := 1 + zIn (zw (x.tdiv 524288)) 20) (by rw [X2, hS]; exact b0) (by rw [X2, hS]; exact o1) o2 (by omega) (by omega) (by omega)
  refine ⟨h1, ?_, p2, p3⟩
  rw [p1, zbd_some, hK]
/-- a change of any kind -/
theorem y_changes (hI : zInv B h) {C S F : Int} (X : Ex2 C S F (vw h.1 (B + 1))) (hS : S = nS w) (hF : 0 ≤ F ∧ F ≤ 1000) (x : Int) :
    ∃ h1, q_L_changes w h B x = some ((), h1) ∧ zInv B h1 ∧ Ex2 C S (F + 6) (vw h1.1 (B + 1)) := by
  have up : ∀ {F' : Int} {v : Nat → Nat → Int}, F' ≤ F + 6 → Ex2 C S F' v → Ex2 C S (F + 6) v := fun hle Y => ⟨Y.1, Y.2.1, Y.2.2.1, Int.le_trans Y.2.2.2 hle⟩
  have hb := nS_b (w := w)
  have X2 := X.2.2.1
  have b0 := zIn_b (x := zw (x.tdiv 8)) (m := nS w) (by omega)
  have b8 := zIn_b (x := x) (m := 8) (by decide)
  unfold q_L_changes
  rw [zgz_pos (by decide), l_stations, zbp_some, l_in (by omega), zbp_some, l_in (by decide), zbp_some]
  by_cases c0 : zIn x 8 = 0
  · rw [if_pos c0]
    obtain ⟨h1, p1, p2, p3⟩ := y_ask (w := w) hI X hS x (K := fun _ h1 => some ((), h1)) (fun _ _ => rfl)
    rw [l_stations] at p1
    exact ⟨h1, p1, p2, up (by omega) p3⟩
  rw [if_neg c0]
  by_cases c1 : zIn x 8 = 1
  · rw [if_pos c1]
    obtain ⟨h1, p1, p2, p3⟩ := y_ask (w := w) hI X hS x (K := fun _ h1 => some ((), h1)) (fun _ _ => rfl)
    rw [l_stations] at p1
    exact ⟨h1, p1, p2, up (by omega) p3⟩
  rw [if_neg c1]
  by_cases c2 : zIn x 8 = 2
  · rw [if_pos c2]
    obtain ⟨h1, p1, p2, p3⟩ := y_ask (w := w) hI X hS x (K := fun _ h1 => some ((), h1)) (fun _ _ => rfl)
    rw [l_stations] at p1
    exact ⟨h1, p1, p2, up (by omega) p3⟩
  rw [if_neg c2]
  by_cases c3 : zIn x 8 = 3
  · have hm : zmax 1 (vw h.1 (B + 1) 0 7) ≠ 0 := by
      unfold zmax
      split <;> omega
    obtain ⟨y, h1, p1, p2, p3⟩ := y_release hI X (zIn (zw (x.tdiv 64)) (zmax 1 (vw h.1 (B + 1) 0 7)))
    refine ⟨h1, ?_, p2, up (by omega) p3⟩
    rw [if_pos c3, zgz_pos (by decide), x_count hI, zbp_some, l_in hm, zbp_some, p1, zbd_some]
  rw [if_neg c3]
  by_cases c4 : zIn x 8 = 4
  · have b4 := zIn_b (x := zw (x.tdiv 64)) (m := 6) (by decide)
    obtain ⟨N, hN⟩ : ∃ N : Nat, 1 + zIn (zw (x.tdiv 64)) 6 = (N : Int) := ⟨(1 + zIn (zw (x.tdiv 64)) 6).toNat, by omega⟩
    obtain ⟨y, h1, p1, p2, p3⟩ := y_advance hI X (N := N) (by omega) (by omega) (by omega)
    refine ⟨h1, ?_, p2, up (by omega) p3⟩
    rw [if_pos c4, zgz_pos (by decide), l_in (by decide), zbp_some, zw_id (x := 1 + zIn (zw (x.tdiv 64)) 6) ⟨by omega, by omega⟩, hN, p1, zbd_some]
  rw [if_neg c4]
  by_cases c5 : zIn x 8 = 5
  · have b5 := zIn_b (x := zw (x.tdiv 64)) (m := 3) (by decide)
    have b6 := zIn_b (x := zw (x.tdiv 256)) (m := 90) (by decide)
    obtain ⟨j, hj⟩ : ∃ j : Nat, 4 + zIn (zw (x.tdiv 64)) 3 = (j : Int) := ⟨(4 + zIn (zw (x.tdiv 64)) 3).toNat, by omega⟩
    have hv : zsV 0 j ≤ 1 + zIn (zw (x.tdiv 256)) 90 ∧ 1 + zIn (zw (x.tdiv 256)) 90 ≤ zsV 1 j := by
      obtain rfl | rfl | rfl : j = 4 ∨ j = 5 ∨ j = 6 := by omega
      · rw [show zsV 0 4 = 0 from rfl, show zsV 1 4 = 999 from rfl]; omega
      · rw [show zsV 0 5 = 1 from rfl, show zsV 1 5 = 100 from rfl]; omega
      · rw [show zsV 0 6 = 1 from rfl, show zsV 1 6 = 100 from rfl]; omega
    obtain ⟨y, h1, p1, p2, p3⟩ := y_setting hI X (j := j) (by omega) (by omega) hv
    refine ⟨h1, ?_, p2, up (by omega) p3⟩
    rw [if_pos c5, zgz_pos (by decide), l_in (by decide), zbp_some, zgz_pos (by decide), l_in (by decide), zbp_some, zw_id (x := 4 + zIn (zw (x.tdiv 64)) 3) ⟨by omega, by omega⟩, zw_id (x := 1 + zIn (zw (x.tdiv 256)) 90) ⟨by omega, by omega⟩, hj, p1, zbd_some]
  rw [if_neg c5]
  by_cases c6 : zIn x 8 = 6
  · obtain ⟨s, hs⟩ : ∃ s : Nat, zIn (zw (x.tdiv 8)) (nS w) = (s : Int) := ⟨(zIn (zw (x.tdiv 8)) (nS w)).toNat, by omega⟩
    obtain ⟨y, h1, p1, p2, p3⟩ := y_acquire hI X (s := s) (by rw [X2, hS]; omega)
    refine ⟨h1, ?_, p2, up (by omega) p3⟩
    rw [if_pos c6, hs, p1, zbd_some]
  rw [if_neg c6]
  obtain ⟨y, h1, p1, p2, p3⟩ := y_compact hI X
  refine ⟨h1, ?_, p2, up (by omega) p3⟩
  rw [p1, zbd_some]
end CHL
