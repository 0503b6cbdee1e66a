theorem zloc_ok {loc : List (Option zv)} {av : List zv} (m : Nat) (hl : loc = av.map some ++ List.replicate m none) {k : Nat} {v : zv} (hk : loc[k]? = some (some v)) : av[k]? = some v := by
  subst hl
  by_cases h : k < av.length
  · rw [List.getElem?_append_left (by rw [List.length_map]; exact h), List.getElem?_map] at hk
    cases hq : av[k]? with
    | none => rw [hq] at hk; cases hk
    | some u => rw [hq] at hk; cases hk; rfl
  · rw [List.getElem?_append_right (by rw [List.length_map]; omega), List.length_map, List.getElem?_replicate] at hk
    split at hk <;> cases hk

theorem c_X0_endFrame (w : zW) (l : Launch) (h : zH) (a : Nat) : zCt w l yX0_endFrame cX0_endFrame 1 (some .int) 0 0 [.inr (0, a)] h (zFn (some (.inl (zw (h.1 a 9 + h.1 a 4)))) h) := by
  refine zCt.of (own := RX0) (loc := [some (.inr (0, a))]) (by decide) rfl (Nat.le_of_ble_eq_true rfl) (fun k v hk => ?_) ?_
  · exact zloc_ok 0 rfl hk
  intro p e s m args below meth c C Z1 Z2 ZA
  refine v_aload_n C dX0_endFrame_0 rfl ?_
  refine v_getI C dX0_endFrame_1 fl0_39 rfl ?_
  refine v_aload_n C dX0_endFrame_4 rfl ?_
  refine v_getI C dX0_endFrame_5 fl0_24 rfl ?_
  refine v_iadd C dX0_endFrame_8 ?_
  exact v_iret C Z1 Z2 dX0_endFrame_9 ⟨rfl, rfl⟩

theorem c_X0_isOn (w : zW) (l : Launch) (h : zH) (a : Nat) (k : Int) : zCt w l yX0_isOn cX0_isOn 2 (some .boolean) 0 0 [.inr (0, a), .inl k] h (zFn (some (.inl (if h.1 a 5 = 1 ∧ h.1 a 6 = k then 1 else 0))) h) := by
  refine zCt.of (own := RX0) (loc := [some (.inr (0, a)), some (.inl k)]) (by decide) rfl (Nat.le_of_ble_eq_true rfl) (fun k v hk => ?_) ?_
  · exact zloc_ok 0 rfl hk
  intro p e s m args below meth c C Z1 Z2 ZA
  refine v_aload_n C dX0_isOn_0 rfl ?_
  refine v_getI C dX0_isOn_1 fl0_27 rfl ?_
  refine v_iconst C dX0_isOn_4 rfl ?_
  refine v_icmp_ne C dX0_isOn_5 (tgt := 20) (by decide) (fun c5 => ?_) (fun c5 => ?_)
  · refine v_iconst C dX0_isOn_20 rfl ?_
    exact v_zret C Z1 Z2 (by decide) dX0_isOn_21 ⟨by first | rw [if_pos (by omega)] | rw [if_neg (by omega)] | (simp [*]; done), rfl⟩
  · refine v_aload_n C dX0_isOn_8 rfl ?_
    refine v_getI C dX0_isOn_9 fl0_30 rfl ?_
    refine v_iload_n C dX0_isOn_12 rfl ?_
    refine v_icmp_ne C dX0_isOn_13 (tgt := 20) (by decide) (fun c13 => ?_) (fun c13 => ?_)
    · refine v_iconst C dX0_isOn_20 rfl ?_
      exact v_zret C Z1 Z2 (by decide) dX0_isOn_21 ⟨by first | rw [if_pos (by omega)] | rw [if_neg (by omega)] | (simp [*]; done), rfl⟩
    · refine v_iconst C dX0_isOn_16 rfl ?_
      refine v_goto C dX0_isOn_17 (tgt := 21) (by decide) ?_
      exact v_zret C Z1 Z2 (by decide) dX0_isOn_21 ⟨by first | rw [if_pos (by omega)] | rw [if_neg (by omega)] | (simp [*]; done), rfl⟩

theorem c_X0_standsWhere (w : zW) (l : Launch) (h : zH) (a b : Nat) : zCt w l yX0_standsWhere cX0_standsWhere 2 (some .boolean) 0 0 [.inr (0, a), .inr (0, b)] h (zFn (some (.inl (if h.1 a 6 = h.1 b 6 ∧ h.1 a 7 = h.1 b 7 then 1 else 0))) h) := by
  refine zCt.of (own := RX0) (loc := [some (.inr (0, a)), some (.inr (0, b))]) (by decide) rfl (Nat.le_of_ble_eq_true rfl) (fun k v hk => ?_) ?_
  · exact zloc_ok 0 rfl hk
  intro p e s m args below meth c C Z1 Z2 ZA
  refine v_aload_n C dX0_standsWhere_0 rfl ?_
  refine v_getI C dX0_standsWhere_1 fl0_30 rfl ?_
  refine v_aload_n C dX0_standsWhere_4 rfl ?_
  refine v_getI C dX0_standsWhere_5 fl0_30 rfl ?_
  refine v_icmp_ne C dX0_standsWhere_8 (tgt := 26) (by decide) (fun c8 => ?_) (fun c8 => ?_)
  · refine v_iconst C dX0_standsWhere_26 rfl ?_
    exact v_zret C Z1 Z2 (by decide) dX0_standsWhere_27 ⟨by first | rw [if_pos (by omega)] | rw [if_neg (by omega)] | (simp [*]; done), rfl⟩
  · refine v_aload_n C dX0_standsWhere_11 rfl ?_
    refine v_getI C dX0_standsWhere_12 fl0_33 rfl ?_
    refine v_aload_n C dX0_standsWhere_15 rfl ?_
    refine v_getI C dX0_standsWhere_16 fl0_33 rfl ?_
    refine v_icmp_ne C dX0_standsWhere_19 (tgt := 26) (by decide) (fun c19 => ?_) (fun c19 => ?_)
    · refine v_iconst C dX0_standsWhere_26 rfl ?_
      exact v_zret C Z1 Z2 (by decide) dX0_standsWhere_27 ⟨by first | rw [if_pos (by omega)] | rw [if_neg (by omega)] | (simp [*]; done), rfl⟩
    · refine v_iconst C dX0_standsWhere_22 rfl ?_
      refine v_goto C dX0_standsWhere_23 (tgt := 27) (by decide) ?_
      exact v_zret C Z1 Z2 (by decide) dX0_standsWhere_27 ⟨by first | rw [if_pos (by omega)] | rw [if_neg (by omega)] | (simp [*]; done), rfl⟩

theorem c_X0_conflictsWith (w : zW) (l : Launch) (h : zH) (a b : Nat) (k : Int) : zCt w l yX0_conflictsWith cX0_conflictsWith 3 (some .boolean) 0 0 [.inr (0, a), .inr (0, b), .inl k] h (zFn (some (.inl (if h.1 a 6 = k ∨ h.1 a 0 = h.1 b 0 ∨ h.1 a 1 = h.1 b 1 then 1 else 0))) h) := by
  refine zCt.of (own := RX0) (loc := [some (.inr (0, a)), some (.inr (0, b)), some (.inl k)]) (by decide) rfl (Nat.le_of_ble_eq_true rfl) (fun k v hk => ?_) ?_
  · exact zloc_ok 0 rfl hk
  intro p e s m args below meth c C Z1 Z2 ZA
  refine v_aload_n C dX0_conflictsWith_0 rfl ?_
  refine v_getI C dX0_conflictsWith_1 fl0_30 rfl ?_
  refine v_iload_n C dX0_conflictsWith_4 rfl ?_
  refine v_icmp_eq C dX0_conflictsWith_5 (tgt := 30) (by decide) (fun c5 => ?_) (fun c5 => ?_)
  · refine v_iconst C dX0_conflictsWith_30 rfl ?_
    refine v_goto C dX0_conflictsWith_31 (tgt := 35) (by decide) ?_
    exact v_zret C Z1 Z2 (by decide) dX0_conflictsWith_35 ⟨by first | rw [if_pos (by omega)] | rw [if_neg (by omega)] | (simp [*]; done), rfl⟩
  · refine v_aload_n C dX0_conflictsWith_8 rfl ?_
    refine v_getI C dX0_conflictsWith_9 fl0_9 rfl ?_
    refine v_aload_n C dX0_conflictsWith_12 rfl ?_
    refine v_getI C dX0_conflictsWith_13 fl0_9 rfl ?_
    refine v_icmp_eq C dX0_conflictsWith_16 (tgt := 30) (by decide) (fun c16 => ?_) (fun c16 => ?_)
    · refine v_iconst C dX0_conflictsWith_30 rfl ?_
      refine v_goto C dX0_conflictsWith_31 (tgt := 35) (by decide) ?_
      exact v_zret C Z1 Z2 (by decide) dX0_conflictsWith_35 ⟨by first | rw [if_pos (by omega)] | rw [if_neg (by omega)] | (simp [*]; done), rfl⟩
    · refine v_aload_n C dX0_conflictsWith_19 rfl ?_
      refine v_getI C dX0_conflictsWith_20 fl0_15 rfl ?_
      refine v_aload_n C dX0_conflictsWith_23 rfl ?_
      refine v_getI C dX0_conflictsWith_24 fl0_15 rfl ?_
      refine v_icmp_ne C dX0_conflictsWith_27 (tgt := 34) (by decide) (fun c27 => ?_) (fun c27 => ?_)
      · refine v_iconst C dX0_conflictsWith_34 rfl ?_
        exact v_zret C Z1 Z2 (by decide) dX0_conflictsWith_35 ⟨by first | rw [if_pos (by omega)] | rw [if_neg (by omega)] | (simp [*]; done), rfl⟩
      · refine v_iconst C dX0_conflictsWith_30 rfl ?_
        refine v_goto C dX0_conflictsWith_31 (tgt := 35) (by decide) ?_
        exact v_zret C Z1 Z2 (by decide) dX0_conflictsWith_35 ⟨by first | rw [if_pos (by omega)] | rw [if_neg (by omega)] | (simp [*]; done), rfl⟩

theorem c_X7_inRange (w : zW) (l : Launch) (h : zH) (x lo hi : Int) : zCt w l yX7_inRange cX7_inRange 3 (some .boolean) 0 0 [.inl x, .inl lo, .inl hi] h (zFn (some (.inl (if lo ≤ x ∧ x ≤ hi then 1 else 0))) h) := by
  refine zCt.of (own := RX7) (loc := [some (.inl x), some (.inl lo), some (.inl hi)]) (by decide) rfl (Nat.le_of_ble_eq_true rfl) (fun k v hk => ?_) ?_
  · exact zloc_ok 0 rfl hk
  intro p e s m args below meth c C Z1 Z2 ZA
  refine v_iload_n C dX7_inRange_0 rfl ?_
  refine v_iload_n C dX7_inRange_1 rfl ?_
  refine v_icmp_lt C dX7_inRange_2 (tgt := 14) (by decide) (fun c2 => ?_) (fun c2 => ?_)
  · refine v_iconst C dX7_inRange_14 rfl ?_
    exact v_zret C Z1 Z2 (by decide) dX7_inRange_15 ⟨by first | rw [if_pos (by omega)] | rw [if_neg (by omega)] | (simp [*]; done), rfl⟩
  · refine v_iload_n C dX7_inRange_5 rfl ?_
    refine v_iload_n C dX7_inRange_6 rfl ?_
    refine v_icmp_gt C dX7_inRange_7 (tgt := 14) (by decide) (fun c7 => ?_) (fun c7 => ?_)
    · refine v_iconst C dX7_inRange_14 rfl ?_
      exact v_zret C Z1 Z2 (by decide) dX7_inRange_15 ⟨by first | rw [if_pos (by omega)] | rw [if_neg (by omega)] | (simp [*]; done), rfl⟩
    · refine v_iconst C dX7_inRange_10 rfl ?_
      refine v_goto C dX7_inRange_11 (tgt := 15) (by decide) ?_
      exact v_zret C Z1 Z2 (by decide) dX7_inRange_15 ⟨by first | rw [if_pos (by omega)] | rw [if_neg (by omega)] | (simp [*]; done), rfl⟩

