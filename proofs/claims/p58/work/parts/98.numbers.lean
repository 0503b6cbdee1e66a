/-! The script's numbers, each as the law reads it. -/
theorem l_cellK {w : zW} {h : zH} {j k : Nat} (hj : j < 100) (hk : k < 100) : q_L_cell w h (zw ((j : Int) + (k : Int))) = some (zX w (j + k)) := by
  rw [zw_id ⟨by omega, by omega⟩, show (j : Int) + (k : Int) = ((j + k : Nat) : Int) by omega]
  exact l_cell
def mS (w : zW) : Nat := (nS w).toNat
theorem mS_b {w : zW} : 2 ≤ mS w ∧ mS w ≤ 5 ∧ ((mS w : Nat) : Int) = nS w := by
  have := nS_b (w := w)
  unfold mS
  omega
def mC (w : zW) : Nat := (nC w).toNat
theorem mC_b {w : zW} : 1 ≤ mC w ∧ mC w ≤ 3 ∧ ((mC w : Nat) : Int) = nC w := by
  have := nC_b (w := w)
  unfold mC
  omega
def mLen (w : zW) : Nat := (300 + zIn (zw ((zX w 0).tdiv 16)) 700).toNat
theorem l_length {w : zW} {h : zH} : q_L_length w h = some ((mLen w : Nat) : Int) ∧ 300 ≤ mLen w ∧ mLen w < 1000 := by
  have b := zIn_b (x := zw ((zX w 0).tdiv 16)) (m := 700) (by decide)
  have e : q_L_cell w h 0 = some (zX w 0) := l_cell (k := 0)
  unfold q_L_length mLen
  rw [e, zbp_some, zgz_pos (by decide), l_in (by decide), zbp_some, zw_id (x := 300 + zIn _ _) ⟨by omega, by omega⟩]
  refine ⟨congrArg some ?_, ?_, ?_⟩ <;> omega
def mGrd (w : zW) : Nat := (zIn (zw ((zX w 0).tdiv 16384)) 30).toNat
theorem l_guard {w : zW} {h : zH} : q_L_guard w h = some ((mGrd w : Nat) : Int) ∧ mGrd w < 30 := by
  have b := zIn_b (x := zw ((zX w 0).tdiv 16384)) (m := 30) (by decide)
  have e : q_L_cell w h 0 = some (zX w 0) := l_cell (k := 0)
  unfold q_L_guard mGrd
  rw [e, zbp_some, zgz_pos (by decide), l_in (by decide), zbp_some]
  refine ⟨congrArg some ?_, ?_⟩ <;> omega
def mLev (w : zW) : Nat := (zIn (zw ((zX w 9).tdiv 8)) 200).toNat
theorem l_level {w : zW} {h : zH} : q_L_in w h (zw ((zX w 9).tdiv 8)) 200 = some ((mLev w : Nat) : Int) ∧ mLev w < 200 := by
  have b := zIn_b (x := zw ((zX w 9).tdiv 8)) (m := 200) (by decide)
  unfold mLev
  rw [l_in (by decide)]
  refine ⟨congrArg some ?_, ?_⟩ <;> omega
def mDel (w : zW) (k : Nat) : Nat := (zIn (zX w (1 + k)) 2000).toNat
theorem l_delay {w : zW} {h : zH} {k : Nat} (hk : k < 100) : q_L_delay w h (k : Int) = some ((mDel w k : Nat) : Int) ∧ mDel w k < 2000 := by
  have b := zIn_b (x := zX w (1 + k)) (m := 2000) (by decide)
  have e : q_L_cell w h (zw (1 + (k : Int))) = some (zX w (1 + k)) := l_cellK (j := 1) (by decide) hk
  unfold q_L_delay mDel
  rw [e, zbp_some, l_in (by decide), zbp_some]
  refine ⟨congrArg some ?_, ?_⟩ <;> omega
def iDri (w : zW) (k : Nat) : Int := zIn (zw ((zX w (1 + k)).tdiv 2048)) 21 - 10
theorem l_drift {w : zW} {h : zH} {k : Nat} (hk : k < 100) : q_L_drift w h (k : Int) = some (iDri w k) ∧ -10 ≤ iDri w k ∧ iDri w k ≤ 10 := by
  have b := zIn_b (x := zw ((zX w (1 + k)).tdiv 2048)) (m := 21) (by decide)
  have e : q_L_cell w h (zw (1 + (k : Int))) = some (zX w (1 + k)) := l_cellK (j := 1) (by decide) hk
  unfold q_L_drift iDri
  rw [e, zbp_some, zgz_pos (by decide), l_in (by decide), zbp_some, zw_id (x := zIn _ _ - 10) ⟨by omega, by omega⟩]
  refine ⟨rfl, ?_, ?_⟩ <;> omega
def mNom (w : zW) (k : Nat) : Nat := (100 + zIn (zw ((zX w (1 + k)).tdiv 65536)) 300).toNat
theorem l_nominal {w : zW} {h : zH} {k : Nat} (hk : k < 100) : q_L_nominal w h (k : Int) = some ((mNom w k : Nat) : Int) ∧ 100 ≤ mNom w k ∧ mNom w k < 400 := by
  have b := zIn_b (x := zw ((zX w (1 + k)).tdiv 65536)) (m := 300) (by decide)
  have e : q_L_cell w h (zw (1 + (k : Int))) = some (zX w (1 + k)) := l_cellK (j := 1) (by decide) hk
  unfold q_L_nominal mNom
  rw [e, zbp_some, zgz_pos (by decide), l_in (by decide), zbp_some, zw_id (x := 100 + zIn _ _) ⟨by omega, by omega⟩]
  refine ⟨congrArg some ?_, ?_, ?_⟩ <;> omega
def mGre (w : zW) (k : Nat) : Nat := mNom w k + (zIn (zshr (zX w (1 + k)) 25) 60).toNat
theorem l_greatest {w : zW} {h : zH} {k : Nat} (hk : k < 100) : q_L_greatest w h (k : Int) = some ((mGre w k : Nat) : Int) ∧ mNom w k ≤ mGre w k ∧ mGre w k < 460 := by
  have b := zIn_b (x := zshr (zX w (1 + k)) 25) (m := 60) (by decide)
  have e : q_L_cell w h (zw (1 + (k : Int))) = some (zX w (1 + k)) := l_cellK (j := 1) (by decide) hk
  obtain ⟨n1, n2, n3⟩ := l_nominal (w := w) (h := h) hk
  unfold q_L_greatest mGre
  rw [n1, zbp_some, e, zbp_some, l_in (by decide), zbp_some, zw_id (x := ((mNom w k : Nat) : Int) + zIn _ _) ⟨by omega, by omega⟩]
  refine ⟨congrArg some ?_, ?_, ?_⟩ <;> omega
def mRns (w : zW) : Nat := (zIn (zw ((zX w 0).tdiv 1048576)) 4).toNat
theorem l_rains {w : zW} {h : zH} : q_L_rains w h = some ((mRns w : Nat) : Int) ∧ mRns w < 4 := by
  have b := zIn_b (x := zw ((zX w 0).tdiv 1048576)) (m := 4) (by decide)
  have e : q_L_cell w h 0 = some (zX w 0) := l_cell (k := 0)
  unfold q_L_rains mRns
  rw [e, zbp_some, zgz_pos (by decide), l_in (by decide), zbp_some]
  refine ⟨congrArg some ?_, ?_⟩ <;> omega
/-- a rain's station, its first and last frame, its fading -/
def mRn (w : zW) (r j : Nat) : Nat := if j = 0 then (zIn (zX w (6 + r)) (nS w)).toNat else if j = 1 then (zIn (zw ((zX w (6 + r)).tdiv 8)) 15).toNat else if j = 2 then (zIn (zw ((zX w (6 + r)).tdiv 8)) 15).toNat + (zIn (zw ((zX w (6 + r)).tdiv 128)) 15).toNat else (1 + zIn (zw ((zX w (6 + r)).tdiv 2048)) 150).toNat
theorem l_rain {w : zW} {h : zH} {r : Nat} (hr : r < 90) : (∀ j : Nat, j < 4 → q_L_rain w h (r : Int) (j : Int) = some ((mRn w r j : Nat) : Int)) ∧ mRn w r 0 < mS w ∧ mRn w r 1 < 15 ∧ mRn w r 1 ≤ mRn w r 2 ∧ mRn w r 2 < 30 ∧ 1 ≤ mRn w r 3 ∧ mRn w r 3 ≤ 150 := by
  have hs := mS_b (w := w)
  have b0 := zIn_b (x := zX w (6 + r)) (m := nS w) (by omega)
  have b1 := zIn_b (x := zw ((zX w (6 + r)).tdiv 8)) (m := 15) (by decide)
  have b2 := zIn_b (x := zw ((zX w (6 + r)).tdiv 128)) (m := 15) (by decide)
  have b3 := zIn_b (x := zw ((zX w (6 + r)).tdiv 2048)) (m := 150) (by decide)
  have e : q_L_cell w h (zw (6 + (r : Int))) = some (zX w (6 + r)) := l_cellK (j := 6) (by decide) (by omega)
  have v0 : mRn w r 0 = (zIn (zX w (6 + r)) (nS w)).toNat := rfl
  have v1 : mRn w r 1 = (zIn (zw ((zX w (6 + r)).tdiv 8)) 15).toNat := rfl
  have v2 : mRn w r 2 = (zIn (zw ((zX w (6 + r)).tdiv 8)) 15).toNat + (zIn (zw ((zX w (6 + r)).tdiv 128)) 15).toNat := rfl
  have v3 : mRn w r 3 = (1 + zIn (zw ((zX w (6 + r)).tdiv 2048)) 150).toNat := rfl
  refine ⟨fun j hj => ?_, by omega, by omega, by omega, by omega, by omega, by omega⟩
  unfold q_L_rain
  rw [e, zbp_some]
  match j, hj with
  | 0, _ =>
    rw [if_pos (by decide), l_stations, zbp_some, l_in (by omega), zbp_some, v0]
    exact congrArg some (by omega)
  | 1, _ =>
    rw [if_neg (by decide), if_pos (by decide), zgz_pos (by decide), l_in (by decide), zbp_some, v1]
    exact congrArg some (by omega)
  | 2, _ =>
    have e1 : q_L_rain1 w h (r : Int) = some (zIn (zw ((zX w (6 + r)).tdiv 8)) 15) := by
      unfold q_L_rain1
      rw [e, zbp_some, if_neg (by decide), if_pos rfl, zgz_pos (by decide), l_in (by decide), zbp_some]
    rw [if_neg (by decide), if_neg (by decide), if_pos (by decide), e1, zbp_some, zgz_pos (by decide), l_in (by decide), zbp_some, zw_id (x := zIn _ _ + zIn _ _) ⟨by omega, by omega⟩, v2]
    exact congrArg some (by omega)
  | 3, _ =>
    rw [if_neg (by decide), if_neg (by decide), if_neg (by decide), zgz_pos (by decide), l_in (by decide), zbp_some, zw_id (x := 1 + zIn _ _) ⟨by omega, by omega⟩, v3]
    exact congrArg some (by omega)
def mCls (w : zW) : Nat := (zIn (zX w 9) 5).toNat
theorem l_calls {w : zW} {h : zH} : q_L_calls w h = some ((mCls w : Nat) : Int) ∧ mCls w < 5 := by
  have b := zIn_b (x := zX w 9) (m := 5) (by decide)
  have e : q_L_cell w h 9 = some (zX w 9) := l_cell (k := 9)
  unfold q_L_calls mCls
  rw [e, zbp_some, l_in (by decide), zbp_some]
  refine ⟨congrArg some ?_, ?_⟩ <;> omega
/-- a call's sender, receiver, priority, symbols, hold -/
def mCl (w : zW) (k j : Nat) : Nat := if j = 0 then (zIn (zX w (10 + k)) (nS w)).toNat else if j = 1 then ((zw (zw (zIn (zX w (10 + k)) (nS w) + 1) + zIn (zw ((zX w (10 + k)).tdiv 8)) (zw (nS w - 1)))).tmod (nS w)).toNat else if j = 2 then (zIn (zw ((zX w (10 + k)).tdiv 64)) 4).toNat else if j = 3 then (1 + zIn (zw ((zX w (10 + k)).tdiv 256)) 250).toNat else (1 + zIn (zw ((zX w (10 + k)).tdiv 65536)) 20).toNat
theorem l_call {w : zW} {h : zH} {k : Nat} (hk : k < 90) : (∀ j : Nat, j < 5 → q_L_call w h (k : Int) (j : Int) = some ((mCl w k j : Nat) : Int)) ∧ mCl w k 0 < mS w ∧ mCl w k 1 < mS w ∧ mCl w k 0 ≠ mCl w k 1 ∧ mCl w k 2 < 4 ∧ 1 ≤ mCl w k 3 ∧ mCl w k 3 ≤ 250 ∧ 1 ≤ mCl w k 4 ∧ mCl w k 4 ≤ 20 := by
  have hs := mS_b (w := w)
  have hs2 : zw (nS w - 1) = nS w - 1 := zw_id ⟨by omega, by omega⟩
  have b0 := zIn_b (x := zX w (10 + k)) (m := nS w) (by omega)
  have b1 := zIn_b (x := zw ((zX w (10 + k)).tdiv 8)) (m := zw (nS w - 1)) (by omega)
  have b2 := zIn_b (x := zw ((zX w (10 + k)).tdiv 64)) (m := 4) (by decide)
  have b3 := zIn_b (x := zw ((zX w (10 + k)).tdiv 256)) (m := 250) (by decide)
  have b4 := zIn_b (x := zw ((zX w (10 + k)).tdiv 65536)) (m := 20) (by decide)
  have ho := other_st (s := nS w) (a := zIn (zX w (10 + k)) (nS w)) (b := zIn (zw ((zX w (10 + k)).tdiv 8)) (zw (nS w - 1))) (by omega) (by omega) (by omega)
  have e : q_L_cell w h (zw (10 + (k : Int))) = some (zX w (10 + k)) := l_cellK (j := 10) (by decide) (by omega)
  have v0 : mCl w k 0 = (zIn (zX w (10 + k)) (nS w)).toNat := rfl
  have v1 : mCl w k 1 = ((zw (zw (zIn (zX w (10 + k)) (nS w) + 1) + zIn (zw ((zX w (10 + k)).tdiv 8)) (zw (nS w - 1)))).tmod (nS w)).toNat := rfl
  have v2 : mCl w k 2 = (zIn (zw ((zX w (10 + k)).tdiv 64)) 4).toNat := rfl
  have v3 : mCl w k 3 = (1 + zIn (zw ((zX w (10 + k)).tdiv 256)) 250).toNat := rfl
  have v4 : mCl w k 4 = (1 + zIn (zw ((zX w (10 + k)).tdiv 65536)) 20).toNat := rfl
  generalize hq : (zw (zw (zIn (zX w (10 + k)) (nS w) + 1) + zIn (zw ((zX w (10 + k)).tdiv 8)) (zw (nS w - 1)))).tmod (nS w) = oth at ho v1
  refine ⟨fun j hj => ?_, by omega, by omega, by omega, by omega, by omega, by omega, by omega, by omega⟩
  unfold q_L_call
  rw [e, zbp_some, l_stations, zbp_some, l_in (by omega), zbp_some]
  match j, hj with
  | 0, _ =>
    rw [if_pos (by decide), v0]
    exact congrArg some (by omega)
  | 1, _ =>
    rw [if_neg (by decide), if_pos (by decide), zgz_pos (by decide), zbp_some, l_in (by omega), zbp_some, zbp_some, zgz_pos (by omega), v1, hq]
    exact congrArg some (by omega)
  | 2, _ =>
    rw [if_neg (by decide), if_neg (by decide), if_pos (by decide), zgz_pos (by decide), l_in (by decide), zbp_some, v2]
    exact congrArg some (by omega)
  | 3, _ =>
    rw [if_neg (by decide), if_neg (by decide), if_neg (by decide), if_pos (by decide), zgz_pos (by decide), l_in (by decide), zbp_some, zw_id (x := 1 + zIn _ _) ⟨by omega, by omega⟩, v3]
    exact congrArg some (by omega)
  | 4, _ =>
    rw [if_neg (by decide), if_neg (by decide), if_neg (by decide), if_neg (by decide), zgz_pos (by decide), l_in (by decide), zbp_some, zw_id (x := 1 + zIn _ _) ⟨by omega, by omega⟩, v4]
    exact congrArg some (by omega)
