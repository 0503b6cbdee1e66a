/-! What the methods compute, as terms, and that they do: all of it by wip/whole/auto.py. -/
def q_J6_bitCount (x : Int) : Option Int := some (sBC x)
theorem cq_J6_bitCount (w : zW) (l : Launch) (h : zH) (x : Int) : zCp w l yJ6_bitCount_0f7a4 cJ6_bitCount_0f7a4 1 (some .int) 0 0 [.inl x] h qI (q_J6_bitCount x) := fun r z => by
  cases z
  exact c_J6_bitCount w l h x
def q_J9_floorMod (x y : Int) : Option Int := if y = 0 then none else some (sFM x y)
theorem cq_J9_floorMod (w : zW) (l : Launch) (h : zH) (x y : Int) : zCp w l yJ9_floorMod_7cf53 cJ9_floorMod_7cf53 3 (some .int) 0 0 [.inl x, .inl y] h qI (q_J9_floorMod x y) := fun r z => by
  unfold q_J9_floorMod at z
  by_cases hy : y = 0
  · rw [if_pos hy] at z
    cases z
  · rw [if_neg hy] at z
    cases z
    exact c_J9_floorMod w l h x y hy
def q_X0_copyFrom (h : zH) (a_0 : Nat) (a_1 : Nat) : Option (Unit × zH) := zlet (zput h a_0 0 (h.1 a_1 0)) (fun h1 => zlet (zput h1 a_0 1 (h1.1 a_1 1)) (fun h2 => zlet (zput h2 a_0 2 (h2.1 a_1 2)) (fun h3 => zlet (zput h3 a_0 3 (h3.1 a_1 3)) (fun h4 => zlet (zput h4 a_0 4 (h4.1 a_1 4)) (fun h5 => zlet (zput h5 a_0 5 (h5.1 a_1 5)) (fun h6 => zlet (zput h6 a_0 6 (h6.1 a_1 6)) (fun h7 => zlet (zput h7 a_0 7 (h7.1 a_1 7)) (fun h8 => zlet (zput h8 a_0 8 (h8.1 a_1 8)) (fun h9 => zlet (zput h9 a_0 9 (h9.1 a_1 9)) (fun h10 => zlet (zput h10 a_0 10 (h10.1 a_1 10)) (fun h11 => some ((), h11))))))))))))
theorem cq_X0_copyFrom (w : zW) (l : Launch) (h : zH) (a_0 : Nat) (a_1 : Nat) : zCq w l yX0_copyFrom cX0_copyFrom 2 none 0 0 [.inr (0, a_0), .inr (0, a_1)] h qU (q_X0_copyFrom h a_0 a_1) := by
  refine zCq.of (own := RX0) (loc := [some (.inr (0, a_0)), some (.inr (0, a_1))]) (by decide) rfl (Nat.le_of_ble_eq_true rfl) (fun k v hk => ?_) ?_
  · exact zloc_ok 0 rfl hk
  intro p e s m args below meth c C Z1 Z2
  unfold q_X0_copyFrom
  refine q_aload_n C dX0_copyFrom_0 rfl ?_
  refine q_aload_n C dX0_copyFrom_1 rfl ?_
  refine q_getI C dX0_copyFrom_2 fl0_9 rfl ?_
  refine q_putI C dX0_copyFrom_5 pl0_9 rfl (fun h1 => ?_)
  refine q_aload_n C dX0_copyFrom_8 rfl ?_
  refine q_aload_n C dX0_copyFrom_9 rfl ?_
  refine q_getI C dX0_copyFrom_10 fl0_15 rfl ?_
  refine q_putI C dX0_copyFrom_13 pl0_15 rfl (fun h2 => ?_)
  refine q_aload_n C dX0_copyFrom_16 rfl ?_
  refine q_aload_n C dX0_copyFrom_17 rfl ?_
  refine q_getI C dX0_copyFrom_18 fl0_18 rfl ?_
  refine q_putI C dX0_copyFrom_21 pl0_18 rfl (fun h3 => ?_)
  refine q_aload_n C dX0_copyFrom_24 rfl ?_
  refine q_aload_n C dX0_copyFrom_25 rfl ?_
  refine q_getI C dX0_copyFrom_26 fl0_21 rfl ?_
  refine q_putI C dX0_copyFrom_29 pl0_21 rfl (fun h4 => ?_)
  refine q_aload_n C dX0_copyFrom_32 rfl ?_
  refine q_aload_n C dX0_copyFrom_33 rfl ?_
  refine q_getI C dX0_copyFrom_34 fl0_24 rfl ?_
  refine q_putI C dX0_copyFrom_37 pl0_24 rfl (fun h5 => ?_)
  refine q_aload_n C dX0_copyFrom_40 rfl ?_
  refine q_aload_n C dX0_copyFrom_41 rfl ?_
  refine q_getI C dX0_copyFrom_42 fl0_27 rfl ?_
  refine q_putI C dX0_copyFrom_45 pl0_27 rfl (fun h6 => ?_)
  refine q_aload_n C dX0_copyFrom_48 rfl ?_
  refine q_aload_n C dX0_copyFrom_49 rfl ?_
  refine q_getI C dX0_copyFrom_50 fl0_30 rfl ?_
  refine q_putI C dX0_copyFrom_53 pl0_30 rfl (fun h7 => ?_)
  refine q_aload_n C dX0_copyFrom_56 rfl ?_
  refine q_aload_n C dX0_copyFrom_57 rfl ?_
  refine q_getI C dX0_copyFrom_58 fl0_33 rfl ?_
  refine q_putI C dX0_copyFrom_61 pl0_33 rfl (fun h8 => ?_)
  refine q_aload_n C dX0_copyFrom_64 rfl ?_
  refine q_aload_n C dX0_copyFrom_65 rfl ?_
  refine q_getI C dX0_copyFrom_66 fl0_36 rfl ?_
  refine q_putI C dX0_copyFrom_69 pl0_36 rfl (fun h9 => ?_)
  refine q_aload_n C dX0_copyFrom_72 rfl ?_
  refine q_aload_n C dX0_copyFrom_73 rfl ?_
  refine q_getI C dX0_copyFrom_74 fl0_39 rfl ?_
  refine q_putI C dX0_copyFrom_77 pl0_39 rfl (fun h10 => ?_)
  refine q_aload_n C dX0_copyFrom_80 rfl ?_
  refine q_aload_n C dX0_copyFrom_81 rfl ?_
  refine q_getI C dX0_copyFrom_82 fl0_42 rfl ?_
  refine q_putI C dX0_copyFrom_85 pl0_42 rfl (fun h11 => ?_)
  exact q_vret C Z1 Z2 dX0_copyFrom_88
def q_X0_endFrame (h : zH) (a_0 : Nat) : Option Int := some (zw (h.1 a_0 9 + h.1 a_0 4))
theorem cq_X0_endFrame (w : zW) (l : Launch) (h : zH) (a_0 : Nat) : zCp w l yX0_endFrame cX0_endFrame 1 (some .int) 0 0 [.inr (0, a_0)] h qI (q_X0_endFrame h a_0) := by
  refine zCp.of (own := RX0) (loc := [some (.inr (0, a_0))]) (by decide) rfl (Nat.le_of_ble_eq_true rfl) (fun k v hk => ?_) ?_
  · exact zloc_ok 0 rfl hk
  intro p e s m args below meth c C Z1 Z2
  unfold q_X0_endFrame
  refine p_aload_n C dX0_endFrame_0 rfl ?_
  refine p_getI C dX0_endFrame_1 fl0_39 rfl ?_
  refine p_aload_n C dX0_endFrame_4 rfl ?_
  refine p_getI C dX0_endFrame_5 fl0_24 rfl ?_
  refine p_iadd C dX0_endFrame_8 ?_
  exact p_iret C Z1 Z2 dX0_endFrame_9
def q_X0_isOn (h : zH) (a_0 : Nat) (x_1 : Int) : Option Int := if h.1 a_0 5 = 1 then (if h.1 a_0 6 = x_1 then (some 1) else (some 0)) else (some 0)
theorem cq_X0_isOn (w : zW) (l : Launch) (h : zH) (a_0 : Nat) (x_1 : Int) : zCp w l yX0_isOn cX0_isOn 2 (some .boolean) 0 0 [.inr (0, a_0), .inl x_1] h qI (q_X0_isOn h a_0 x_1) := by
  refine zCp.of (own := RX0) (loc := [some (.inr (0, a_0)), some (.inl x_1)]) (by decide) rfl (Nat.le_of_ble_eq_true rfl) (fun k v hk => ?_) ?_
  · exact zloc_ok 0 rfl hk
  intro p e s m args below meth c C Z1 Z2
  unfold q_X0_isOn
  refine p_aload_n C dX0_isOn_0 rfl ?_
  refine p_getI C dX0_isOn_1 fl0_27 rfl ?_
  refine p_iconst C dX0_isOn_4 rfl ?_
  refine p_icmp_ne C dX0_isOn_5 (tgt := 20) (by decide) ?_ ?_
  · refine p_iconst C dX0_isOn_20 rfl ?_
    exact p_zret C Z1 Z2 (Or.inl rfl) dX0_isOn_21
  · refine p_aload_n C dX0_isOn_8 rfl ?_
    refine p_getI C dX0_isOn_9 fl0_30 rfl ?_
    refine p_iload_n C dX0_isOn_12 rfl ?_
    refine p_icmp_ne C dX0_isOn_13 (tgt := 20) (by decide) ?_ ?_
    · refine p_iconst C dX0_isOn_20 rfl ?_
      exact p_zret C Z1 Z2 (Or.inl rfl) dX0_isOn_21
    · refine p_iconst C dX0_isOn_16 rfl ?_
      refine p_goto C dX0_isOn_17 (tgt := 21) (by decide) ?_
      exact p_zret C Z1 Z2 (Or.inr rfl) dX0_isOn_21
def q_X0_standsWhere (h : zH) (a_0 : Nat) (a_1 : Nat) : Option Int := if h.1 a_0 6 = h.1 a_1 6 then (if h.1 a_0 7 = h.1 a_1 7 then (some 1) else (some 0)) else (some 0)
theorem cq_X0_standsWhere (w : zW) (l : Launch) (h : zH) (a_0 : Nat) (a_1 : Nat) : zCp w l yX0_standsWhere cX0_standsWhere 2 (some .boolean) 0 0 [.inr (0, a_0), .inr (0, a_1)] h qI (q_X0_standsWhere h a_0 a_1) := by
  refine zCp.of (own := RX0) (loc := [some (.inr (0, a_0)), some (.inr (0, a_1))]) (by decide) rfl (Nat.le_of_ble_eq_true rfl) (fun k v hk => ?_) ?_
  · exact zloc_ok 0 rfl hk
  intro p e s m args below meth c C Z1 Z2
  unfold q_X0_standsWhere
  refine p_aload_n C dX0_standsWhere_0 rfl ?_
  refine p_getI C dX0_standsWhere_1 fl0_30 rfl ?_
  refine p_aload_n C dX0_standsWhere_4 rfl ?_
  refine p_getI C dX0_standsWhere_5 fl0_30 rfl ?_
  refine p_icmp_ne C dX0_standsWhere_8 (tgt := 26) (by decide) ?_ ?_
  · refine p_iconst C dX0_standsWhere_26 rfl ?_
    exact p_zret C Z1 Z2 (Or.inl rfl) dX0_standsWhere_27
  · refine p_aload_n C dX0_standsWhere_11 rfl ?_
    refine p_getI C dX0_standsWhere_12 fl0_33 rfl ?_
    refine p_aload_n C dX0_standsWhere_15 rfl ?_
    refine p_getI C dX0_standsWhere_16 fl0_33 rfl ?_
    refine p_icmp_ne C dX0_standsWhere_19 (tgt := 26) (by decide) ?_ ?_
    · refine p_iconst C dX0_standsWhere_26 rfl ?_
      exact p_zret C Z1 Z2 (Or.inl rfl) dX0_standsWhere_27
    · refine p_iconst C dX0_standsWhere_22 rfl ?_
      refine p_goto C dX0_standsWhere_23 (tgt := 27) (by decide) ?_
      exact p_zret C Z1 Z2 (Or.inr rfl) dX0_standsWhere_27
def q_X0_conflictsWith (h : zH) (a_0 : Nat) (a_1 : Nat) (x_2 : Int) : Option Int := if h.1 a_0 6 = x_2 then (some 1) else (if h.1 a_0 0 = h.1 a_1 0 then (some 1) else (if h.1 a_0 1 = h.1 a_1 1 then (some 1) else (some 0)))
theorem cq_X0_conflictsWith (w : zW) (l : Launch) (h : zH) (a_0 : Nat) (a_1 : Nat) (x_2 : Int) : zCp w l yX0_conflictsWith cX0_conflictsWith 3 (some .boolean) 0 0 [.inr (0, a_0), .inr (0, a_1), .inl x_2] h qI (q_X0_conflictsWith h a_0 a_1 x_2) := by
  refine zCp.of (own := RX0) (loc := [some (.inr (0, a_0)), some (.inr (0, a_1)), some (.inl x_2)]) (by decide) rfl (Nat.le_of_ble_eq_true rfl) (fun k v hk => ?_) ?_
  · exact zloc_ok 0 rfl hk
  intro p e s m args below meth c C Z1 Z2
  unfold q_X0_conflictsWith
  refine p_aload_n C dX0_conflictsWith_0 rfl ?_
  refine p_getI C dX0_conflictsWith_1 fl0_30 rfl ?_
  refine p_iload_n C dX0_conflictsWith_4 rfl ?_
  refine p_icmp_eq C dX0_conflictsWith_5 (tgt := 30) (by decide) ?_ ?_
  · refine p_iconst C dX0_conflictsWith_30 rfl ?_
    refine p_goto C dX0_conflictsWith_31 (tgt := 35) (by decide) ?_
    exact p_zret C Z1 Z2 (Or.inr rfl) dX0_conflictsWith_35
  · refine p_aload_n C dX0_conflictsWith_8 rfl ?_
    refine p_getI C dX0_conflictsWith_9 fl0_9 rfl ?_
    refine p_aload_n C dX0_conflictsWith_12 rfl ?_
    refine p_getI C dX0_conflictsWith_13 fl0_9 rfl ?_
    refine p_icmp_eq C dX0_conflictsWith_16 (tgt := 30) (by decide) ?_ ?_
    · refine p_iconst C dX0_conflictsWith_30 rfl ?_
      refine p_goto C dX0_conflictsWith_31 (tgt := 35) (by decide) ?_
      exact p_zret C Z1 Z2 (Or.inr rfl) dX0_conflictsWith_35
    · refine p_aload_n C dX0_conflictsWith_19 rfl ?_
      refine p_getI C dX0_conflictsWith_20 fl0_15 rfl ?_
      refine p_aload_n C dX0_conflictsWith_23 rfl ?_
      refine p_getI C dX0_conflictsWith_24 fl0_15 rfl ?_
      refine p_icmp_ne C dX0_conflictsWith_27 (tgt := 34) (by decide) ?_ ?_
      · refine p_iconst C dX0_conflictsWith_34 rfl ?_
        exact p_zret C Z1 Z2 (Or.inl rfl) dX0_conflictsWith_35
      · refine p_iconst C dX0_conflictsWith_30 rfl ?_
        refine p_goto C dX0_conflictsWith_31 (tgt := 35) (by decide) ?_
        exact p_zret C Z1 Z2 (Or.inr rfl) dX0_conflictsWith_35
def q_X5_copyFrom (h : zH) (a_0 : Nat) (a_1 : Nat) : Option (Unit × zH) := zlet (zput h a_0 0 (h.1 a_1 0)) (fun h1 => zlet (zput h1 a_0 1 (h1.1 a_1 1)) (fun h2 => zlet (zput h2 a_0 2 (h2.1 a_1 2)) (fun h3 => zlet (zput h3 a_0 3 (h3.1 a_1 3)) (fun h4 => zlet (zput h4 a_0 4 (h4.1 a_1 4)) (fun h5 => zlet (zput h5 a_0 5 (h5.1 a_1 5)) (fun h6 => zlet (zput h6 a_0 6 (h6.1 a_1 6)) (fun h7 => zlet (zcpy h7 (h7.2 a_1 7) (h7.2 a_0 7) 64) (fun h8 => some ((), h8)))))))))
theorem cq_X5_copyFrom (w : zW) (l : Launch) (h : zH) (a_0 : Nat) (a_1 : Nat) : zCq w l yX5_copyFrom cX5_copyFrom 2 none 1 72 [.inr (5, a_0), .inr (5, a_1)] h qU (q_X5_copyFrom h a_0 a_1) := by
  refine zCq.of (own := RX5) (loc := [some (.inr (5, a_0)), some (.inr (5, a_1))]) (by decide) rfl (Nat.le_of_ble_eq_true rfl) (fun k v hk => ?_) ?_
  · exact zloc_ok 0 rfl hk
  intro p e s m args below meth c C Z1 Z2
  unfold q_X5_copyFrom
  refine q_aload_n C dX5_copyFrom_0 rfl ?_
  refine q_aload_n C dX5_copyFrom_1 rfl ?_
  refine q_getI C dX5_copyFrom_2 fl5_15 rfl ?_
  refine q_putI C dX5_copyFrom_5 pl5_15 rfl (fun h1 => ?_)
  refine q_aload_n C dX5_copyFrom_8 rfl ?_
  refine q_aload_n C dX5_copyFrom_9 rfl ?_
  refine q_getI C dX5_copyFrom_10 fl5_19 rfl ?_
  refine q_putI C dX5_copyFrom_13 pl5_19 rfl (fun h2 => ?_)
  refine q_aload_n C dX5_copyFrom_16 rfl ?_
  refine q_aload_n C dX5_copyFrom_17 rfl ?_
  refine q_getI C dX5_copyFrom_18 fl5_22 rfl ?_
  refine q_putI C dX5_copyFrom_21 pl5_22 rfl (fun h3 => ?_)
  refine q_aload_n C dX5_copyFrom_24 rfl ?_
  refine q_aload_n C dX5_copyFrom_25 rfl ?_
  refine q_getI C dX5_copyFrom_26 fl5_25 rfl ?_
  refine q_putI C dX5_copyFrom_29 pl5_25 rfl (fun h4 => ?_)
  refine q_aload_n C dX5_copyFrom_32 rfl ?_
  refine q_aload_n C dX5_copyFrom_33 rfl ?_
  refine q_getI C dX5_copyFrom_34 fl5_28 rfl ?_
  refine q_putI C dX5_copyFrom_37 pl5_28 rfl (fun h5 => ?_)
  refine q_aload_n C dX5_copyFrom_40 rfl ?_
  refine q_aload_n C dX5_copyFrom_41 rfl ?_
  refine q_getI C dX5_copyFrom_42 fl5_31 rfl ?_
  refine q_putI C dX5_copyFrom_45 pl5_31 rfl (fun h6 => ?_)
  refine q_aload_n C dX5_copyFrom_48 rfl ?_
  refine q_aload_n C dX5_copyFrom_49 rfl ?_
  refine q_getI C dX5_copyFrom_50 fl5_34 rfl ?_
  refine q_putI C dX5_copyFrom_53 pl5_34 rfl (fun h7 => ?_)
  refine q_aload_n C dX5_copyFrom_56 rfl ?_
  refine q_getR C dX5_copyFrom_57 fl5_11 rfl ?_
  refine q_iconst C dX5_copyFrom_60 rfl ?_
  refine q_aload_n C dX5_copyFrom_61 rfl ?_
  refine q_getR C dX5_copyFrom_62 fl5_11 rfl ?_
  refine q_iconst C dX5_copyFrom_65 rfl ?_
  refine q_bipush C dX5_copyFrom_66 (by decide) rfl ?_
  refine q_copy (d := 10) (n := 64) C dX5_copyFrom_68 (zmem 974 (by decide +kernel)) ⟨by decide, by decide, rfl⟩ (by decide) ⟨by decide, Nat.le_of_ble_eq_true rfl⟩ (fun h8 => ?_)
  exact q_vret C Z1 Z2 dX5_copyFrom_71
def q_X3_copyFrom (h : zH) (a_0 : Nat) (a_1 : Nat) : Option (Unit × zH) := zlet (zput h a_0 0 (h.1 a_1 0)) (fun h1 => zlet (zput h1 a_0 1 (h1.1 a_1 1)) (fun h2 => zlet (zput h2 a_0 2 (h2.1 a_1 2)) (fun h3 => zlet (zput h3 a_0 3 (h3.1 a_1 3)) (fun h4 => some ((), h4)))))
theorem cq_X3_copyFrom (w : zW) (l : Launch) (h : zH) (a_0 : Nat) (a_1 : Nat) : zCq w l yX3_copyFrom cX3_copyFrom 2 none 0 0 [.inr (3, a_0), .inr (3, a_1)] h qU (q_X3_copyFrom h a_0 a_1) := by
  refine zCq.of (own := RX3) (loc := [some (.inr (3, a_0)), some (.inr (3, a_1))]) (by decide) rfl (Nat.le_of_ble_eq_true rfl) (fun k v hk => ?_) ?_
  · exact zloc_ok 0 rfl hk
  intro p e s m args below meth c C Z1 Z2
  unfold q_X3_copyFrom
  refine q_aload_n C dX3_copyFrom_0 rfl ?_
  refine q_aload_n C dX3_copyFrom_1 rfl ?_
  refine q_getI C dX3_copyFrom_2 fl3_7 rfl ?_
  refine q_putI C dX3_copyFrom_5 pl3_7 rfl (fun h1 => ?_)
  refine q_aload_n C dX3_copyFrom_8 rfl ?_
  refine q_aload_n C dX3_copyFrom_9 rfl ?_
  refine q_getI C dX3_copyFrom_10 fl3_13 rfl ?_
  refine q_putI C dX3_copyFrom_13 pl3_13 rfl (fun h2 => ?_)
  refine q_aload_n C dX3_copyFrom_16 rfl ?_
  refine q_aload_n C dX3_copyFrom_17 rfl ?_
  refine q_getI C dX3_copyFrom_18 fl3_16 rfl ?_
  refine q_putI C dX3_copyFrom_21 pl3_16 rfl (fun h3 => ?_)
  refine q_aload_n C dX3_copyFrom_24 rfl ?_
  refine q_aload_n C dX3_copyFrom_25 rfl ?_
  refine q_getI C dX3_copyFrom_26 fl3_19 rfl ?_
  refine q_putI C dX3_copyFrom_29 pl3_19 rfl (fun h4 => ?_)
  exact q_vret C Z1 Z2 dX3_copyFrom_32
def q_X4_copyFrom_L57 (a0 : Nat) (a1 : Nat) (k : Int → zH → Option (Unit × zH)) : Nat → Int → zH → Option (Unit × zH)
  | 0, _, _ => none
  | n + 1, i2, h => if h.1 a0 3 ≤ i2 then (k i2 h) else (zgi 6 i2 (zgi 6 i2 (zbd (q_X5_copyFrom h (h.2 (h.2 a0 4) i2.toNat) (h.2 (h.2 a1 4) i2.toNat)) (fun _ h7 => zlet (zw (i2 + 1)) (fun x8 => q_X4_copyFrom_L57 a0 a1 k n x8 h7)))))
def q_X4_copyFrom_L88 (a0 : Nat) (a1 : Nat) (k : Int → zH → Option (Unit × zH)) : Nat → Int → zH → Option (Unit × zH)
  | 0, _, _ => none
  | n + 1, i2, h => if h.1 a0 5 ≤ i2 then (k i2 h) else (zgi 8 i2 (zgi 8 i2 (zbd (q_X3_copyFrom h (h.2 (h.2 a0 6) i2.toNat) (h.2 (h.2 a1 6) i2.toNat)) (fun _ h11 => zlet (zw (i2 + 1)) (fun x12 => q_X4_copyFrom_L88 a0 a1 k n x12 h11)))))
def q_X4_copyFrom_L119 (a0 : Nat) (a1 : Nat) (k : Int → zH → Option (Unit × zH)) : Nat → Int → zH → Option (Unit × zH)
  | 0, _, _ => none
  | n + 1, i2, h => if h.1 a0 7 ≤ i2 then (k i2 h) else (zgi 16 i2 (zgi 16 i2 (zbd (q_X0_copyFrom h (h.2 (h.2 a0 8) i2.toNat) (h.2 (h.2 a1 8) i2.toNat)) (fun _ h15 => zlet (zw (i2 + 1)) (fun x16 => q_X4_copyFrom_L119 a0 a1 k n x16 h15)))))
def q_X4_copyFrom (h : zH) (a_0 : Nat) (a_1 : Nat) : Option (Unit × zH) := zlet (zput h a_0 0 (h.1 a_1 0)) (fun h1 => zlet (zput h1 a_0 1 (h1.1 a_1 1)) (fun h2 => zlet (zput h2 a_0 3 (h2.1 a_1 3)) (fun h3 => zlet (zput h3 a_0 5 (h3.1 a_1 5)) (fun h4 => zlet (zput h4 a_0 7 (h4.1 a_1 7)) (fun h5 => zlet (zcpy h5 (h5.2 a_1 2) (h5.2 a_0 2) 7) (fun h6 => q_X4_copyFrom_L57 a_0 a_1 (fun x9 h10 => q_X4_copyFrom_L88 a_0 a_1 (fun x13 h14 => q_X4_copyFrom_L119 a_0 a_1 (fun x17 h18 => some ((), h18)) zF 0 h14) zF 0 h10) zF 0 h6))))))
theorem cq_X4_copyFrom (w : zW) (l : Launch) (h : zH) (a_0 : Nat) (a_1 : Nat) : zCq w l yX4_copyFrom cX4_copyFrom 3 none 2 93 [.inr (4, a_0), .inr (4, a_1)] h qU (q_X4_copyFrom h a_0 a_1) := by
  refine zCq.of (own := RX4) (loc := [some (.inr (4, a_0)), some (.inr (4, a_1)), none]) (by decide) rfl (Nat.le_of_ble_eq_true rfl) (fun k v hk => ?_) ?_
  · exact zloc_ok 1 rfl hk
  intro p e s m args below meth c C Z1 Z2
  have L57 : ∀ (a0 : Nat) (a1 : Nat) (k : Int → zH → Option (Unit × zH)) (hk : ∀ (i2 : Int) (h : zH), zQV w p l e (zRm 2 93) s m args below meth c 3 qU (k i2 h) 86 [some (.inr (4, a0)), some (.inr (4, a1)), some (.inl i2)] [] h) (n : Nat) (i2 : Int) (h : zH), zQV w p l e (zRm 2 93) s m args below meth c 3 qU (q_X4_copyFrom_L57 a0 a1 k n i2 h) 57 [some (.inr (4, a0)), some (.inr (4, a1)), some (.inl i2)] [] h := by
    intro a0 a1 k hk n
    induction n with
    | zero =>
      intro i2 h
      exact q_none
    | succ n ih =>
      intro i2 h
      rw [q_X4_copyFrom_L57]
      refine q_iload_n C dX4_copyFrom_57 rfl ?_
      refine q_aload_n C dX4_copyFrom_58 rfl ?_
      refine q_getI C dX4_copyFrom_59 fl4_46 rfl ?_
      refine q_icmp_ge C dX4_copyFrom_62 (tgt := 86) (by decide) ?_ ?_
      · exact hk i2 h
      · refine q_aload_n C dX4_copyFrom_65 rfl ?_
        refine q_getR C dX4_copyFrom_66 fl4_17 rfl ?_
        refine q_iload_n C dX4_copyFrom_69 rfl ?_
        refine q_aald C dX4_copyFrom_70 ⟨by decide, by decide, _, rfl⟩ ?_
        refine q_aload_n C dX4_copyFrom_71 rfl ?_
        refine q_getR C dX4_copyFrom_72 fl4_17 rfl ?_
        refine q_iload_n C dX4_copyFrom_75 rfl ?_
        refine q_aald C dX4_copyFrom_76 ⟨by decide, by decide, _, rfl⟩ ?_
        refine q_callVU C dX4_copyFrom_77 mv4_64 (cq_X5_copyFrom w l h _ _) rfl ⟨by decide, by decide⟩ ⟨rfl, Nat.le_of_ble_eq_true rfl⟩ (fun _ h7 => ?_)
        refine q_iincL C dX4_copyFrom_80 rfl (by decide) (fun x8 => ?_)
        refine q_goto C dX4_copyFrom_83 (tgt := 57) (by decide) ?_
        exact ih x8 h7
  have L88 : ∀ (a0 : Nat) (a1 : Nat) (k : Int → zH → Option (Unit × zH)) (hk : ∀ (i2 : Int) (h : zH), zQV w p l e (zRm 2 93) s m args below meth c 3 qU (k i2 h) 117 [some (.inr (4, a0)), some (.inr (4, a1)), some (.inl i2)] [] h) (n : Nat) (i2 : Int) (h : zH), zQV w p l e (zRm 2 93) s m args below meth c 3 qU (q_X4_copyFrom_L88 a0 a1 k n i2 h) 88 [some (.inr (4, a0)), some (.inr (4, a1)), some (.inl i2)] [] h := by
    intro a0 a1 k hk n
    induction n with
    | zero =>
      intro i2 h
      exact q_none
    | succ n ih =>
      intro i2 h
      rw [q_X4_copyFrom_L88]
      refine q_iload_n C dX4_copyFrom_88 rfl ?_
      refine q_aload_n C dX4_copyFrom_89 rfl ?_
      refine q_getI C dX4_copyFrom_90 fl4_49 rfl ?_
      refine q_icmp_ge C dX4_copyFrom_93 (tgt := 117) (by decide) ?_ ?_
      · exact hk i2 h
      · refine q_aload_n C dX4_copyFrom_96 rfl ?_
        refine q_getR C dX4_copyFrom_97 fl4_23 rfl ?_
        refine q_iload_n C dX4_copyFrom_100 rfl ?_
        refine q_aald C dX4_copyFrom_101 ⟨by decide, by decide, _, rfl⟩ ?_
        refine q_aload_n C dX4_copyFrom_102 rfl ?_
        refine q_getR C dX4_copyFrom_103 fl4_23 rfl ?_
        refine q_iload_n C dX4_copyFrom_106 rfl ?_
        refine q_aald C dX4_copyFrom_107 ⟨by decide, by decide, _, rfl⟩ ?_
        refine q_callVU C dX4_copyFrom_108 mv4_68 (cq_X3_copyFrom w l h _ _) rfl ⟨by decide, by decide⟩ ⟨rfl, Nat.le_of_ble_eq_true rfl⟩ (fun _ h11 => ?_)
        refine q_iincL C dX4_copyFrom_111 rfl (by decide) (fun x12 => ?_)
        refine q_goto C dX4_copyFrom_114 (tgt := 88) (by decide) ?_
        exact ih x12 h11
  have L119 : ∀ (a0 : Nat) (a1 : Nat) (k : Int → zH → Option (Unit × zH)) (hk : ∀ (i2 : Int) (h : zH), zQV w p l e (zRm 2 93) s m args below meth c 3 qU (k i2 h) 148 [some (.inr (4, a0)), some (.inr (4, a1)), some (.inl i2)] [] h) (n : Nat) (i2 : Int) (h : zH), zQV w p l e (zRm 2 93) s m args below meth c 3 qU (q_X4_copyFrom_L119 a0 a1 k n i2 h) 119 [some (.inr (4, a0)), some (.inr (4, a1)), some (.inl i2)] [] h := by
    intro a0 a1 k hk n
    induction n with
    | zero =>
      intro i2 h
      exact q_none
    | succ n ih =>
      intro i2 h
      rw [q_X4_copyFrom_L119]
      refine q_iload_n C dX4_copyFrom_119 rfl ?_
      refine q_aload_n C dX4_copyFrom_120 rfl ?_
      refine q_getI C dX4_copyFrom_121 fl4_52 rfl ?_
      refine q_icmp_ge C dX4_copyFrom_124 (tgt := 148) (by decide) ?_ ?_
      · exact hk i2 h
      · refine q_aload_n C dX4_copyFrom_127 rfl ?_
        refine q_getR C dX4_copyFrom_128 fl4_29 rfl ?_
        refine q_iload_n C dX4_copyFrom_131 rfl ?_
        refine q_aald C dX4_copyFrom_132 ⟨by decide, by decide, _, rfl⟩ ?_
        refine q_aload_n C dX4_copyFrom_133 rfl ?_
        refine q_getR C dX4_copyFrom_134 fl4_29 rfl ?_
        refine q_iload_n C dX4_copyFrom_137 rfl ?_
        refine q_aald C dX4_copyFrom_138 ⟨by decide, by decide, _, rfl⟩ ?_
        refine q_callVU C dX4_copyFrom_139 mv4_71 (cq_X0_copyFrom w l h _ _) rfl ⟨by decide, by decide⟩ ⟨rfl, Nat.le_of_ble_eq_true rfl⟩ (fun _ h15 => ?_)
        refine q_iincL C dX4_copyFrom_142 rfl (by decide) (fun x16 => ?_)
        refine q_goto C dX4_copyFrom_145 (tgt := 119) (by decide) ?_
        exact ih x16 h15
  unfold q_X4_copyFrom
  refine q_aload_n C dX4_copyFrom_0 rfl ?_
  refine q_aload_n C dX4_copyFrom_1 rfl ?_
  refine q_getI C dX4_copyFrom_2 fl4_39 rfl ?_
  refine q_putI C dX4_copyFrom_5 pl4_39 rfl (fun h1 => ?_)
  refine q_aload_n C dX4_copyFrom_8 rfl ?_
  refine q_aload_n C dX4_copyFrom_9 rfl ?_
  refine q_getI C dX4_copyFrom_10 fl4_43 rfl ?_
  refine q_putI C dX4_copyFrom_13 pl4_43 rfl (fun h2 => ?_)
  refine q_aload_n C dX4_copyFrom_16 rfl ?_
  refine q_aload_n C dX4_copyFrom_17 rfl ?_
  refine q_getI C dX4_copyFrom_18 fl4_46 rfl ?_
  refine q_putI C dX4_copyFrom_21 pl4_46 rfl (fun h3 => ?_)
  refine q_aload_n C dX4_copyFrom_24 rfl ?_
  refine q_aload_n C dX4_copyFrom_25 rfl ?_
  refine q_getI C dX4_copyFrom_26 fl4_49 rfl ?_
  refine q_putI C dX4_copyFrom_29 pl4_49 rfl (fun h4 => ?_)
  refine q_aload_n C dX4_copyFrom_32 rfl ?_
  refine q_aload_n C dX4_copyFrom_33 rfl ?_
  refine q_getI C dX4_copyFrom_34 fl4_52 rfl ?_
  refine q_putI C dX4_copyFrom_37 pl4_52 rfl (fun h5 => ?_)
  refine q_aload_n C dX4_copyFrom_40 rfl ?_
  refine q_getR C dX4_copyFrom_41 fl4_9 rfl ?_
  refine q_iconst C dX4_copyFrom_44 rfl ?_
  refine q_aload_n C dX4_copyFrom_45 rfl ?_
  refine q_getR C dX4_copyFrom_46 fl4_9 rfl ?_
  refine q_iconst C dX4_copyFrom_49 rfl ?_
  refine q_bipush C dX4_copyFrom_50 (by decide) rfl ?_
  refine q_copy (d := 9) (n := 7) C dX4_copyFrom_52 (zmem 321 (by decide +kernel)) ⟨by decide, by decide, rfl⟩ (by decide) ⟨by decide, Nat.le_of_ble_eq_true rfl⟩ (fun h6 => ?_)
  refine q_iconst C dX4_copyFrom_55 rfl ?_
  refine q_istore_n C dX4_copyFrom_56 (by decide) ?_
  refine L57 a_0 a_1 _ ?_ zF 0 h6
  intro x9 h10
  refine q_iconst C dX4_copyFrom_86 rfl ?_
  refine q_istore_n C dX4_copyFrom_87 (by decide) ?_
  refine L88 a_0 a_1 _ ?_ zF 0 h10
  intro x13 h14
  refine q_iconst C dX4_copyFrom_117 rfl ?_
  refine q_istore_n C dX4_copyFrom_118 (by decide) ?_
  refine L119 a_0 a_1 _ ?_ zF 0 h14
  intro x17 h18
  exact q_vret C Z1 Z2 dX4_copyFrom_148
def q_X6_appendWord_L3 (a0 : Nat) (i1 : Int) (k : Int → zH → Option (Unit × zH)) : Nat → Int → zH → Option (Unit × zH)
  | 0, _, _ => none
  | n + 1, i2, h => if i2 < 0 then (k i2 h) else (if 1000 ≤ h.1 a0 0 then (k i2 h) else (zgi 1000 (h.1 a0 0) (zlet (zput h (h.2 a0 1) (h.1 a0 0).toNat (zi2b (zshr i1 i2))) (fun h1 => zlet (zput h1 a0 0 (zw (h1.1 a0 0 + 1))) (fun h2 => zlet (zw (i2 + (-8))) (fun x3 => q_X6_appendWord_L3 a0 i1 k n x3 h2))))))
def q_X6_appendWord (h : zH) (a_0 : Nat) (x_1 : Int) : Option (Unit × zH) := q_X6_appendWord_L3 a_0 x_1 (fun x4 h5 => some ((), h5)) zF 24 h
theorem cq_X6_appendWord (w : zW) (l : Launch) (h : zH) (a_0 : Nat) (x_1 : Int) : zCq w l yX6_appendWord cX6_appendWord 3 none 0 0 [.inr (6, a_0), .inl x_1] h qU (q_X6_appendWord h a_0 x_1) := by
  refine zCq.of (own := RX6) (loc := [some (.inr (6, a_0)), some (.inl x_1), none]) (by decide) rfl (Nat.le_of_ble_eq_true rfl) (fun k v hk => ?_) ?_
  · exact zloc_ok 1 rfl hk
  intro p e s m args below meth c C Z1 Z2
  have L3 : ∀ (a0 : Nat) (i1 : Int) (k : Int → zH → Option (Unit × zH)) (hk : ∀ (i2 : Int) (h : zH), zQV w p l e (zRm 0 0) s m args below meth c 3 qU (k i2 h) 46 [some (.inr (6, a0)), some (.inl i1), some (.inl i2)] [] h) (n : Nat) (i2 : Int) (h : zH), zQV w p l e (zRm 0 0) s m args below meth c 3 qU (q_X6_appendWord_L3 a0 i1 k n i2 h) 3 [some (.inr (6, a0)), some (.inl i1), some (.inl i2)] [] h := by
    intro a0 i1 k hk n
    induction n with
    | zero =>
      intro i2 h
      exact q_none
    | succ n ih =>
      intro i2 h
      rw [q_X6_appendWord_L3]
      refine q_iload_n C dX6_appendWord_3 rfl ?_
      refine q_if_lt C dX6_appendWord_4 (tgt := 46) (by decide) ?_ ?_
      · exact hk i2 h
      · refine q_aload_n C dX6_appendWord_7 rfl ?_
        refine q_getI C dX6_appendWord_8 fl6_15 rfl ?_
        refine q_sipush C dX6_appendWord_11 (by decide) rfl ?_
        refine q_icmp_ge C dX6_appendWord_14 (tgt := 46) (by decide) ?_ ?_
        · exact hk i2 h
        · refine q_aload_n C dX6_appendWord_17 rfl ?_
          refine q_getR C dX6_appendWord_18 fl6_9 rfl ?_
          refine q_aload_n C dX6_appendWord_21 rfl ?_
          refine q_getI C dX6_appendWord_22 fl6_15 rfl ?_
          refine q_iload_n C dX6_appendWord_25 rfl ?_
          refine q_iload_n C dX6_appendWord_26 rfl ?_
          refine q_ishr C dX6_appendWord_27 ?_
          refine q_i2b C dX6_appendWord_28 ?_
          refine q_bast C dX6_appendWord_29 ⟨by decide, by decide, rfl⟩ (fun h1 => ?_)
          refine q_aload_n C dX6_appendWord_30 rfl ?_
          refine q_dup C dX6_appendWord_31 ?_
          refine q_getI C dX6_appendWord_32 fl6_15 rfl ?_
          refine q_iconst C dX6_appendWord_35 rfl ?_
          refine q_iadd C dX6_appendWord_36 ?_
          refine q_putI C dX6_appendWord_37 pl6_15 rfl (fun h2 => ?_)
          refine q_iincL C dX6_appendWord_40 rfl (by decide) (fun x3 => ?_)
          refine q_goto C dX6_appendWord_43 (tgt := 3) (by decide) ?_
          exact ih x3 h2
  unfold q_X6_appendWord
  refine q_bipush C dX6_appendWord_0 (by decide) rfl ?_
  refine q_istore_n C dX6_appendWord_2 (by decide) ?_
  refine L3 a_0 x_1 _ ?_ zF 24 h
  intro x4 h5
  exact q_vret C Z1 Z2 dX6_appendWord_46
def q_X2_append (h : zH) (a_0 : Nat) (x_1 : Int) (x_2 : Int) (x_3 : Int) (x_4 : Int) (x_5 : Int) : Option (Int × zH) := if zw (h.1 (h.2 a_0 0) 0 + 20) ≤ 1000 then (zbd (q_X6_appendWord h (h.2 a_0 0) x_1) (fun _ h1 => zbd (q_X6_appendWord h1 (h1.2 a_0 0) x_2) (fun _ h2 => zbd (q_X6_appendWord h2 (h2.2 a_0 0) x_3) (fun _ h3 => zbd (q_X6_appendWord h3 (h3.2 a_0 0) x_4) (fun _ h4 => zbd (q_X6_appendWord h4 (h4.2 a_0 0) x_5) (fun _ h5 => some (h5.1 (h5.2 a_0 0) 0, h5))))))) else (some ((-3), h))
theorem cq_X2_append (w : zW) (l : Launch) (h : zH) (a_0 : Nat) (x_1 : Int) (x_2 : Int) (x_3 : Int) (x_4 : Int) (x_5 : Int) : zCq w l yX2_append cX2_append 6 (some .int) 1 22 [.inr (2, a_0), .inl x_1, .inl x_2, .inl x_3, .inl x_4, .inl x_5] h qI (q_X2_append h a_0 x_1 x_2 x_3 x_4 x_5) := by
  refine zCq.of (own := RX2) (loc := [some (.inr (2, a_0)), some (.inl x_1), some (.inl x_2), some (.inl x_3), some (.inl x_4), some (.inl x_5)]) (by decide) rfl (Nat.le_of_ble_eq_true rfl) (fun k v hk => ?_) ?_
  · exact zloc_ok 0 rfl hk
  intro p e s m args below meth c C Z1 Z2
  unfold q_X2_append
  refine q_aload_n C dX2_append_0 rfl ?_
  refine q_getR C dX2_append_1 fl2_12 rfl ?_
  refine q_getI C dX2_append_4 fl2_29 rfl ?_
  refine q_bipush C dX2_append_7 (by decide) rfl ?_
  refine q_iadd C dX2_append_9 ?_
  refine q_sipush C dX2_append_10 (by decide) rfl ?_
  refine q_icmp_le C dX2_append_13 (tgt := 19) (by decide) ?_ ?_
  · refine q_aload_n C dX2_append_19 rfl ?_
    refine q_getR C dX2_append_20 fl2_12 rfl ?_
    refine q_iload_n C dX2_append_23 rfl ?_
    refine q_callVU C dX2_append_24 mv2_32 (cq_X6_appendWord w l h _ _) rfl ⟨by decide, by decide⟩ ⟨rfl, Nat.le_of_ble_eq_true rfl⟩ (fun _ h1 => ?_)
    refine q_aload_n C dX2_append_27 rfl ?_
    refine q_getR C dX2_append_28 fl2_12 rfl ?_
    refine q_iload_n C dX2_append_31 rfl ?_
    refine q_callVU C dX2_append_32 mv2_32 (cq_X6_appendWord w l h1 _ _) rfl ⟨by decide, by decide⟩ ⟨rfl, Nat.le_of_ble_eq_true rfl⟩ (fun _ h2 => ?_)
    refine q_aload_n C dX2_append_35 rfl ?_
    refine q_getR C dX2_append_36 fl2_12 rfl ?_
    refine q_iload_n C dX2_append_39 rfl ?_
    refine q_callVU C dX2_append_40 mv2_32 (cq_X6_appendWord w l h2 _ _) rfl ⟨by decide, by decide⟩ ⟨rfl, Nat.le_of_ble_eq_true rfl⟩ (fun _ h3 => ?_)
    refine q_aload_n C dX2_append_43 rfl ?_
    refine q_getR C dX2_append_44 fl2_12 rfl ?_
    refine q_iload C dX2_append_47 rfl ?_
    refine q_callVU C dX2_append_49 mv2_32 (cq_X6_appendWord w l h3 _ _) rfl ⟨by decide, by decide⟩ ⟨rfl, Nat.le_of_ble_eq_true rfl⟩ (fun _ h4 => ?_)
    refine q_aload_n C dX2_append_52 rfl ?_
    refine q_getR C dX2_append_53 fl2_12 rfl ?_
    refine q_iload C dX2_append_56 rfl ?_
    refine q_callVU C dX2_append_58 mv2_32 (cq_X6_appendWord w l h4 _ _) rfl ⟨by decide, by decide⟩ ⟨rfl, Nat.le_of_ble_eq_true rfl⟩ (fun _ h5 => ?_)
    refine q_aload_n C dX2_append_61 rfl ?_
    refine q_getR C dX2_append_62 fl2_12 rfl ?_
    refine q_getI C dX2_append_65 fl2_29 rfl ?_
    exact q_iret C Z1 Z2 dX2_append_68
  · refine q_bipush C dX2_append_16 (by decide) rfl ?_
    exact q_iret C Z1 Z2 dX2_append_18
def q_X6_signAt (h : zH) (a_0 : Nat) (x_1 : Int) : Option Int := if x_1 < 0 then (some ((-1))) else (if h.1 a_0 2 ≤ x_1 then (some ((-1))) else (if 1000 ≤ x_1 then (some ((-1))) else (zgi 1000 x_1 (some (zand (h.1 (h.2 a_0 1) x_1.toNat) 255)))))
theorem cq_X6_signAt (w : zW) (l : Launch) (h : zH) (a_0 : Nat) (x_1 : Int) : zCp w l yX6_signAt cX6_signAt 2 (some .int) 0 0 [.inr (6, a_0), .inl x_1] h qI (q_X6_signAt h a_0 x_1) := by
  refine zCp.of (own := RX6) (loc := [some (.inr (6, a_0)), some (.inl x_1)]) (by decide) rfl (Nat.le_of_ble_eq_true rfl) (fun k v hk => ?_) ?_
  · exact zloc_ok 0 rfl hk
  intro p e s m args below meth c C Z1 Z2
  unfold q_X6_signAt
  refine p_iload_n C dX6_signAt_0 rfl ?_
  refine p_if_lt C dX6_signAt_1 (tgt := 32) (by decide) ?_ ?_
  · refine p_iconst C dX6_signAt_32 rfl ?_
    exact p_iret C Z1 Z2 dX6_signAt_33
  · refine p_iload_n C dX6_signAt_4 rfl ?_
    refine p_aload_n C dX6_signAt_5 rfl ?_
    refine p_getI C dX6_signAt_6 fl6_25 rfl ?_
    refine p_icmp_ge C dX6_signAt_9 (tgt := 32) (by decide) ?_ ?_
    · refine p_iconst C dX6_signAt_32 rfl ?_
      exact p_iret C Z1 Z2 dX6_signAt_33
    · refine p_iload_n C dX6_signAt_12 rfl ?_
      refine p_sipush C dX6_signAt_13 (by decide) rfl ?_
      refine p_icmp_ge C dX6_signAt_16 (tgt := 32) (by decide) ?_ ?_
      · refine p_iconst C dX6_signAt_32 rfl ?_
        exact p_iret C Z1 Z2 dX6_signAt_33
      · refine p_aload_n C dX6_signAt_19 rfl ?_
        refine p_getR C dX6_signAt_20 fl6_9 rfl ?_
        refine p_iload_n C dX6_signAt_23 rfl ?_
        refine p_bald C dX6_signAt_24 ⟨by decide, by decide, rfl⟩ ?_
        refine p_sipush C dX6_signAt_25 (by decide) rfl ?_
        refine p_iand C dX6_signAt_28 ?_
        refine p_goto C dX6_signAt_29 (tgt := 33) (by decide) ?_
        exact p_iret C Z1 Z2 dX6_signAt_33
def q_X6_isLetter (h : zH) (x_0 : Int) : Option Int := if x_0 < 97 then (some 0) else (if 122 < x_0 then (some 0) else (some 1))
theorem cq_X6_isLetter (w : zW) (l : Launch) (h : zH) (x_0 : Int) : zCp w l yX6_isLetter cX6_isLetter 1 (some .boolean) 0 0 [.inl x_0] h qI (q_X6_isLetter h x_0) := by
  refine zCp.of (own := RX6) (loc := [some (.inl x_0)]) (by decide) rfl (Nat.le_of_ble_eq_true rfl) (fun k v hk => ?_) ?_
  · exact zloc_ok 0 rfl hk
  intro p e s m args below meth c C Z1 Z2
  unfold q_X6_isLetter
  refine p_iload_n C dX6_isLetter_0 rfl ?_
  refine p_bipush C dX6_isLetter_1 (by decide) rfl ?_
  refine p_icmp_lt C dX6_isLetter_3 (tgt := 16) (by decide) ?_ ?_
  · refine p_iconst C dX6_isLetter_16 rfl ?_
    exact p_zret C Z1 Z2 (Or.inl rfl) dX6_isLetter_17
  · refine p_iload_n C dX6_isLetter_6 rfl ?_
    refine p_bipush C dX6_isLetter_7 (by decide) rfl ?_
    refine p_icmp_gt C dX6_isLetter_9 (tgt := 16) (by decide) ?_ ?_
    · refine p_iconst C dX6_isLetter_16 rfl ?_
      exact p_zret C Z1 Z2 (Or.inl rfl) dX6_isLetter_17
    · refine p_iconst C dX6_isLetter_12 rfl ?_
      refine p_goto C dX6_isLetter_13 (tgt := 17) (by decide) ?_
      exact p_zret C Z1 Z2 (Or.inr rfl) dX6_isLetter_17
def q_X6_isDigit (h : zH) (x_0 : Int) : Option Int := if x_0 < 48 then (some 0) else (if 57 < x_0 then (some 0) else (some 1))
theorem cq_X6_isDigit (w : zW) (l : Launch) (h : zH) (x_0 : Int) : zCp w l yX6_isDigit cX6_isDigit 1 (some .boolean) 0 0 [.inl x_0] h qI (q_X6_isDigit h x_0) := by
  refine zCp.of (own := RX6) (loc := [some (.inl x_0)]) (by decide) rfl (Nat.le_of_ble_eq_true rfl) (fun k v hk => ?_) ?_
  · exact zloc_ok 0 rfl hk
  intro p e s m args below meth c C Z1 Z2
  unfold q_X6_isDigit
  refine p_iload_n C dX6_isDigit_0 rfl ?_
  refine p_bipush C dX6_isDigit_1 (by decide) rfl ?_
  refine p_icmp_lt C dX6_isDigit_3 (tgt := 16) (by decide) ?_ ?_
  · refine p_iconst C dX6_isDigit_16 rfl ?_
    exact p_zret C Z1 Z2 (Or.inl rfl) dX6_isDigit_17
  · refine p_iload_n C dX6_isDigit_6 rfl ?_
    refine p_bipush C dX6_isDigit_7 (by decide) rfl ?_
    refine p_icmp_gt C dX6_isDigit_9 (tgt := 16) (by decide) ?_ ?_
    · refine p_iconst C dX6_isDigit_16 rfl ?_
      exact p_zret C Z1 Z2 (Or.inl rfl) dX6_isDigit_17
    · refine p_iconst C dX6_isDigit_12 rfl ?_
      refine p_goto C dX6_isDigit_13 (tgt := 17) (by decide) ?_
      exact p_zret C Z1 Z2 (Or.inr rfl) dX6_isDigit_17
def q_X6_step_L0 (a0 : Nat) (k : zH → Option (Unit × zH)) : Nat → zH → Option (Unit × zH)
  | 0, _ => none
  | n + 1, h => if h.1 a0 2 ≤ h.1 a0 3 then (k h) else (zbp (q_X6_signAt h a0 (h.1 a0 3)) (fun x1 => if x1 = 32 then (zlet (zput h a0 3 (zw (h.1 a0 3 + 1))) (fun h2 => q_X6_step_L0 a0 k n h2)) else (zbp (q_X6_signAt h a0 (h.1 a0 3)) (fun x3 => if x3 = 10 then (zlet (zput h a0 3 (zw (h.1 a0 3 + 1))) (fun h4 => q_X6_step_L0 a0 k n h4)) else (k h)))))
def q_X6_step_L153 (a0 : Nat) (k : zH → Option (Unit × zH)) : Nat → zH → Option (Unit × zH)
  | 0, _ => none
  | n + 1, h => if h.1 a0 2 ≤ h.1 a0 3 then (k h) else (zbp (q_X6_signAt h a0 (h.1 a0 3)) (fun x19 => zbp (q_X6_isDigit h x19) (fun x20 => if x20 = 0 then (k h) else (zbp (q_X6_signAt h a0 (h.1 a0 3)) (fun x21 => zlet (zput h a0 6 (zmin 1000000 (zw (zw (zw (10 * h.1 a0 6) + x21) - 48)))) (fun h22 => zlet (zput h22 a0 3 (zw (h22.1 a0 3 + 1))) (fun h23 => q_X6_step_L153 a0 k n h23)))))))
def q_X6_step_L98 (a0 : Nat) (k : zH → Option (Unit × zH)) : Nat → zH → Option (Unit × zH)
  | 0, _ => none
  | n + 1, h => if h.1 a0 2 ≤ h.1 a0 3 then (k h) else (zbp (q_X6_signAt h a0 (h.1 a0 3)) (fun x27 => zbp (q_X6_isLetter h x27) (fun x28 => if x28 = 0 then (k h) else (zlet (zput h a0 3 (zw (h.1 a0 3 + 1))) (fun h29 => q_X6_step_L98 a0 k n h29)))))
def q_X6_step (h : zH) (a_0 : Nat) : Option (Unit × zH) := q_X6_step_L0 a_0 (fun h5 => zlet (zput h5 a_0 5 (h5.1 a_0 3)) (fun h7 => zbp (q_X6_signAt h7 a_0 (h7.1 a_0 5)) (fun x8 => if h7.1 a_0 5 < h7.1 a_0 2 then (zbp (q_X6_isLetter h7 x8) (fun x9 => if x9 = 0 then (zbp (q_X6_isDigit h7 x8) (fun x10 => if x10 = 0 then (if x8 = 59 then (zlet (zput h7 a_0 4 3) (fun h15 => zlet (zput h15 a_0 3 (zw (h15.1 a_0 3 + 1))) (fun h16 => some ((), h16)))) else (if x8 = 45 then (zlet (zput h7 a_0 4 4) (fun h13 => zlet (zput h13 a_0 3 (zw (h13.1 a_0 3 + 1))) (fun h14 => some ((), h14)))) else (zlet (zput h7 a_0 4 5) (fun h11 => zlet (zput h11 a_0 3 (zw (h11.1 a_0 3 + 1))) (fun h12 => some ((), h12)))))) else (zlet (zput h7 a_0 4 2) (fun h17 => zlet (zput h17 a_0 6 0) (fun h18 => q_X6_step_L153 a_0 (fun h24 => some ((), h24)) zF h18))))) else (zlet (zput h7 a_0 4 1) (fun h26 => q_X6_step_L98 a_0 (fun h30 => some ((), h30)) zF h26)))) else (zlet (zput h7 a_0 4 0) (fun h32 => some ((), h32)))))) zF h
theorem cq_X6_step (w : zW) (l : Launch) (h : zH) (a_0 : Nat) : zCq w l yX6_step cX6_step 2 none 1 72 [.inr (6, a_0)] h qU (q_X6_step h a_0) := by
  refine zCq.of (own := RX6) (loc := [some (.inr (6, a_0)), none]) (by decide) rfl (Nat.le_of_ble_eq_true rfl) (fun k v hk => ?_) ?_
  · exact zloc_ok 1 rfl hk
  intro p e s m args below meth c C Z1 Z2
  have L0 : ∀ (a0 : Nat) (k : zH → Option (Unit × zH)) (hk : ∀ (u1 : Option zv) (h : zH), zQV w p l e (zRm 1 72) s m args below meth c 2 qU (k h) 50 [some (.inr (6, a0)), u1] [] h) (n : Nat) (u1 : Option zv) (h : zH), zQV w p l e (zRm 1 72) s m args below meth c 2 qU (q_X6_step_L0 a0 k n h) 0 [some (.inr (6, a0)), u1] [] h := by
    intro a0 k hk n
    induction n with
    | zero =>
      intro u1 h
      exact q_none
    | succ n ih =>
      intro u1 h
      rw [q_X6_step_L0]
      refine q_aload_n C dX6_step_0 rfl ?_
      refine q_getI C dX6_step_1 fl6_28 rfl ?_
      refine q_aload_n C dX6_step_4 rfl ?_
      refine q_getI C dX6_step_5 fl6_25 rfl ?_
      refine q_icmp_ge C dX6_step_8 (tgt := 50) (by decide) ?_ ?_
      · exact hk _ h
      · refine q_aload_n C dX6_step_11 rfl ?_
        refine q_aload_n C dX6_step_12 rfl ?_
        refine q_getI C dX6_step_13 fl6_28 rfl ?_
        refine q_pcallVI C dX6_step_16 mv6_34 (cq_X6_signAt w l h _ _) rfl ⟨by decide, by decide⟩ ⟨rfl, Nat.le_of_ble_eq_true rfl⟩ (fun x1 => ?_)
        refine q_bipush C dX6_step_19 (by decide) rfl ?_
        refine q_icmp_eq C dX6_step_21 (tgt := 37) (by decide) ?_ ?_
        · refine q_aload_n C dX6_step_37 rfl ?_
          refine q_dup C dX6_step_38 ?_
          refine q_getI C dX6_step_39 fl6_28 rfl ?_
          refine q_iconst C dX6_step_42 rfl ?_
          refine q_iadd C dX6_step_43 ?_
          refine q_putI C dX6_step_44 pl6_28 rfl (fun h2 => ?_)
          refine q_goto C dX6_step_47 (tgt := 0) (by decide) ?_
          exact ih _ h2
        · refine q_aload_n C dX6_step_24 rfl ?_
          refine q_aload_n C dX6_step_25 rfl ?_
          refine q_getI C dX6_step_26 fl6_28 rfl ?_
          refine q_pcallVI C dX6_step_29 mv6_34 (cq_X6_signAt w l h _ _) rfl ⟨by decide, by decide⟩ ⟨rfl, Nat.le_of_ble_eq_true rfl⟩ (fun x3 => ?_)
          refine q_bipush C dX6_step_32 (by decide) rfl ?_
          refine q_icmp_ne C dX6_step_34 (tgt := 50) (by decide) ?_ ?_
          · exact hk _ h
          · refine q_aload_n C dX6_step_37 rfl ?_
            refine q_dup C dX6_step_38 ?_
            refine q_getI C dX6_step_39 fl6_28 rfl ?_
            refine q_iconst C dX6_step_42 rfl ?_
            refine q_iadd C dX6_step_43 ?_
            refine q_putI C dX6_step_44 pl6_28 rfl (fun h4 => ?_)
            refine q_goto C dX6_step_47 (tgt := 0) (by decide) ?_
            exact ih _ h4
  have L153 : ∀ (a0 : Nat) (k : zH → Option (Unit × zH)) (hk : ∀ (u1 : Option zv) (h : zH), zQV w p l e (zRm 1 72) s m args below meth c 2 qU (k h) 254 [some (.inr (6, a0)), u1] [] h) (n : Nat) (u1 : Option zv) (h : zH), zQV w p l e (zRm 1 72) s m args below meth c 2 qU (q_X6_step_L153 a0 k n h) 153 [some (.inr (6, a0)), u1] [] h := by
    intro a0 k hk n
    induction n with
    | zero =>
      intro u1 h
      exact q_none
    | succ n ih =>
      intro u1 h
      rw [q_X6_step_L153]
      refine q_aload_n C dX6_step_153 rfl ?_
      refine q_getI C dX6_step_154 fl6_28 rfl ?_
      refine q_aload_n C dX6_step_157 rfl ?_
      refine q_getI C dX6_step_158 fl6_25 rfl ?_
      refine q_icmp_ge C dX6_step_161 (tgt := 254) (by decide) ?_ ?_
      · exact hk _ h
      · refine q_aload_n C dX6_step_164 rfl ?_
        refine q_aload_n C dX6_step_165 rfl ?_
        refine q_getI C dX6_step_166 fl6_28 rfl ?_
        refine q_pcallVI C dX6_step_169 mv6_34 (cq_X6_signAt w l h _ _) rfl ⟨by decide, by decide⟩ ⟨rfl, Nat.le_of_ble_eq_true rfl⟩ (fun x19 => ?_)
        refine q_pcallSI C dX6_step_172 ms6_48 (cq_X6_isDigit w l h _) rfl ⟨by decide, by decide⟩ ⟨rfl, Nat.le_of_ble_eq_true rfl⟩ (fun x20 => ?_)
        refine q_if_eq C dX6_step_175 (tgt := 254) (by decide) ?_ ?_
        · exact hk _ h
        · refine q_aload_n C dX6_step_178 rfl ?_
          refine q_ldc (n := 1000000) C dX6_step_179 (zmem 822 (by decide +kernel)) rfl ?_
          refine q_bipush C dX6_step_181 (by decide) rfl ?_
          refine q_aload_n C dX6_step_183 rfl ?_
          refine q_getI C dX6_step_184 fl6_51 rfl ?_
          refine q_imul C dX6_step_187 ?_
          refine q_aload_n C dX6_step_188 rfl ?_
          refine q_aload_n C dX6_step_189 rfl ?_
          refine q_getI C dX6_step_190 fl6_28 rfl ?_
          refine q_pcallVI C dX6_step_193 mv6_34 (cq_X6_signAt w l h _ _) rfl ⟨by decide, by decide⟩ ⟨rfl, Nat.le_of_ble_eq_true rfl⟩ (fun x21 => ?_)
          refine q_iadd C dX6_step_196 ?_
          refine q_bipush C dX6_step_197 (by decide) rfl ?_
          refine q_isub C dX6_step_199 ?_
          refine q_mmin C dX6_step_200 (zmem 807 (by decide +kernel)) ⟨by decide, Nat.le_of_ble_eq_true rfl⟩ ?_
          refine q_putI C dX6_step_203 pl6_51 rfl (fun h22 => ?_)
          refine q_aload_n C dX6_step_206 rfl ?_
          refine q_dup C dX6_step_207 ?_
          refine q_getI C dX6_step_208 fl6_28 rfl ?_
          refine q_iconst C dX6_step_211 rfl ?_
          refine q_iadd C dX6_step_212 ?_
          refine q_putI C dX6_step_213 pl6_28 rfl (fun h23 => ?_)
          refine q_goto C dX6_step_216 (tgt := 153) (by decide) ?_
          exact ih _ h23
  have L98 : ∀ (a0 : Nat) (k : zH → Option (Unit × zH)) (hk : ∀ (u1 : Option zv) (h : zH), zQV w p l e (zRm 1 72) s m args below meth c 2 qU (k h) 254 [some (.inr (6, a0)), u1] [] h) (n : Nat) (u1 : Option zv) (h : zH), zQV w p l e (zRm 1 72) s m args below meth c 2 qU (q_X6_step_L98 a0 k n h) 98 [some (.inr (6, a0)), u1] [] h := by
    intro a0 k hk n
    induction n with
    | zero =>
      intro u1 h
      exact q_none
    | succ n ih =>
      intro u1 h
      rw [q_X6_step_L98]
      refine q_aload_n C dX6_step_98 rfl ?_
      refine q_getI C dX6_step_99 fl6_28 rfl ?_
      refine q_aload_n C dX6_step_102 rfl ?_
      refine q_getI C dX6_step_103 fl6_25 rfl ?_
      refine q_icmp_ge C dX6_step_106 (tgt := 254) (by decide) ?_ ?_
      · exact hk _ h
      · refine q_aload_n C dX6_step_109 rfl ?_
        refine q_aload_n C dX6_step_110 rfl ?_
        refine q_getI C dX6_step_111 fl6_28 rfl ?_
        refine q_pcallVI C dX6_step_114 mv6_34 (cq_X6_signAt w l h _ _) rfl ⟨by decide, by decide⟩ ⟨rfl, Nat.le_of_ble_eq_true rfl⟩ (fun x27 => ?_)
        refine q_pcallSI C dX6_step_117 ms6_44 (cq_X6_isLetter w l h _) rfl ⟨by decide, by decide⟩ ⟨rfl, Nat.le_of_ble_eq_true rfl⟩ (fun x28 => ?_)
        refine q_if_eq C dX6_step_120 (tgt := 254) (by decide) ?_ ?_
        · exact hk _ h
        · refine q_aload_n C dX6_step_123 rfl ?_
          refine q_dup C dX6_step_124 ?_
          refine q_getI C dX6_step_125 fl6_28 rfl ?_
          refine q_iconst C dX6_step_128 rfl ?_
          refine q_iadd C dX6_step_129 ?_
          refine q_putI C dX6_step_130 pl6_28 rfl (fun h29 => ?_)
          refine q_goto C dX6_step_133 (tgt := 98) (by decide) ?_
          exact ih _ h29
  unfold q_X6_step
  refine L0 a_0 _ ?_ zF _ h
  intro u6 h5
  refine q_aload_n C dX6_step_50 rfl ?_
  refine q_aload_n C dX6_step_51 rfl ?_
  refine q_getI C dX6_step_52 fl6_28 rfl ?_
  refine q_putI C dX6_step_55 pl6_38 rfl (fun h7 => ?_)
  refine q_aload_n C dX6_step_58 rfl ?_
  refine q_aload_n C dX6_step_59 rfl ?_
  refine q_getI C dX6_step_60 fl6_38 rfl ?_
  refine q_pcallVI C dX6_step_63 mv6_34 (cq_X6_signAt w l h7 _ _) rfl ⟨by decide, by decide⟩ ⟨rfl, Nat.le_of_ble_eq_true rfl⟩ (fun x8 => ?_)
  refine q_istore_n C dX6_step_66 (by decide) ?_
  refine q_aload_n C dX6_step_67 rfl ?_
  refine q_getI C dX6_step_68 fl6_38 rfl ?_
  refine q_aload_n C dX6_step_71 rfl ?_
  refine q_getI C dX6_step_72 fl6_25 rfl ?_
  refine q_icmp_lt C dX6_step_75 (tgt := 86) (by decide) ?_ ?_
  · refine q_iload_n C dX6_step_86 rfl ?_
    refine q_pcallSI C dX6_step_87 ms6_44 (cq_X6_isLetter w l h7 _) rfl ⟨by decide, by decide⟩ ⟨rfl, Nat.le_of_ble_eq_true rfl⟩ (fun x9 => ?_)
    refine q_if_eq C dX6_step_90 (tgt := 136) (by decide) ?_ ?_
    · refine q_iload_n C dX6_step_136 rfl ?_
      refine q_pcallSI C dX6_step_137 ms6_48 (cq_X6_isDigit w l h7 _) rfl ⟨by decide, by decide⟩ ⟨rfl, Nat.le_of_ble_eq_true rfl⟩ (fun x10 => ?_)
      refine q_if_eq C dX6_step_140 (tgt := 219) (by decide) ?_ ?_
      · refine q_aload_n C dX6_step_219 rfl ?_
        refine q_iload_n C dX6_step_220 rfl ?_
        refine q_bipush C dX6_step_221 (by decide) rfl ?_
        refine q_icmp_ne C dX6_step_223 (tgt := 230) (by decide) ?_ ?_
        · refine q_iload_n C dX6_step_230 rfl ?_
          refine q_bipush C dX6_step_231 (by decide) rfl ?_
          refine q_icmp_ne C dX6_step_233 (tgt := 240) (by decide) ?_ ?_
          · refine q_iconst C dX6_step_240 rfl ?_
            refine q_putI C dX6_step_241 pl6_41 rfl (fun h11 => ?_)
            refine q_aload_n C dX6_step_244 rfl ?_
            refine q_dup C dX6_step_245 ?_
            refine q_getI C dX6_step_246 fl6_28 rfl ?_
            refine q_iconst C dX6_step_249 rfl ?_
            refine q_iadd C dX6_step_250 ?_
            refine q_putI C dX6_step_251 pl6_28 rfl (fun h12 => ?_)
            exact q_vret C Z1 Z2 dX6_step_254
          · refine q_iconst C dX6_step_236 rfl ?_
            refine q_goto C dX6_step_237 (tgt := 241) (by decide) ?_
            refine q_putI C dX6_step_241 pl6_41 rfl (fun h13 => ?_)
            refine q_aload_n C dX6_step_244 rfl ?_
            refine q_dup C dX6_step_245 ?_
            refine q_getI C dX6_step_246 fl6_28 rfl ?_
            refine q_iconst C dX6_step_249 rfl ?_
            refine q_iadd C dX6_step_250 ?_
            refine q_putI C dX6_step_251 pl6_28 rfl (fun h14 => ?_)
            exact q_vret C Z1 Z2 dX6_step_254
        · refine q_iconst C dX6_step_226 rfl ?_
          refine q_goto C dX6_step_227 (tgt := 241) (by decide) ?_
          refine q_putI C dX6_step_241 pl6_41 rfl (fun h15 => ?_)
          refine q_aload_n C dX6_step_244 rfl ?_
          refine q_dup C dX6_step_245 ?_
          refine q_getI C dX6_step_246 fl6_28 rfl ?_
          refine q_iconst C dX6_step_249 rfl ?_
          refine q_iadd C dX6_step_250 ?_
          refine q_putI C dX6_step_251 pl6_28 rfl (fun h16 => ?_)
          exact q_vret C Z1 Z2 dX6_step_254
      · refine q_aload_n C dX6_step_143 rfl ?_
        refine q_iconst C dX6_step_144 rfl ?_
        refine q_putI C dX6_step_145 pl6_41 rfl (fun h17 => ?_)
        refine q_aload_n C dX6_step_148 rfl ?_
        refine q_iconst C dX6_step_149 rfl ?_
        refine q_putI C dX6_step_150 pl6_51 rfl (fun h18 => ?_)
        refine L153 a_0 _ ?_ zF _ h18
        intro u25 h24
        exact q_vret C Z1 Z2 dX6_step_254
    · refine q_aload_n C dX6_step_93 rfl ?_
      refine q_iconst C dX6_step_94 rfl ?_
      refine q_putI C dX6_step_95 pl6_41 rfl (fun h26 => ?_)
      refine L98 a_0 _ ?_ zF _ h26
      intro u31 h30
      exact q_vret C Z1 Z2 dX6_step_254
  · refine q_aload_n C dX6_step_78 rfl ?_
    refine q_iconst C dX6_step_79 rfl ?_
    refine q_putI C dX6_step_80 pl6_41 rfl (fun h32 => ?_)
    refine q_goto C dX6_step_83 (tgt := 254) (by decide) ?_
    exact q_vret C Z1 Z2 dX6_step_254
def q_X6_begin (h : zH) (a_0 : Nat) (x_1 : Int) : Option (Unit × zH) := zlet (zput h a_0 2 (zmin x_1 (h.1 a_0 0))) (fun h1 => zlet (zput h1 a_0 3 0) (fun h2 => zbd (q_X6_step h2 a_0) (fun _ h3 => some ((), h3))))
theorem cq_X6_begin (w : zW) (l : Launch) (h : zH) (a_0 : Nat) (x_1 : Int) : zCq w l yX6_begin cX6_begin 2 none 2 93 [.inr (6, a_0), .inl x_1] h qU (q_X6_begin h a_0 x_1) := by
  refine zCq.of (own := RX6) (loc := [some (.inr (6, a_0)), some (.inl x_1)]) (by decide) rfl (Nat.le_of_ble_eq_true rfl) (fun k v hk => ?_) ?_
  · exact zloc_ok 0 rfl hk
  intro p e s m args below meth c C Z1 Z2
  unfold q_X6_begin
  refine q_aload_n C dX6_begin_0 rfl ?_
  refine q_iload_n C dX6_begin_1 rfl ?_
  refine q_aload_n C dX6_begin_2 rfl ?_
  refine q_getI C dX6_begin_3 fl6_15 rfl ?_
  refine q_mmin C dX6_begin_6 (zmem 807 (by decide +kernel)) ⟨by decide, Nat.le_of_ble_eq_true rfl⟩ ?_
  refine q_putI C dX6_begin_9 pl6_25 rfl (fun h1 => ?_)
  refine q_aload_n C dX6_begin_12 rfl ?_
  refine q_iconst C dX6_begin_13 rfl ?_
  refine q_putI C dX6_begin_14 pl6_28 rfl (fun h2 => ?_)
  refine q_aload_n C dX6_begin_17 rfl ?_
  refine q_callVU C dX6_begin_18 mv6_31 (cq_X6_step w l h2 _) rfl ⟨by decide, by decide⟩ ⟨rfl, Nat.le_of_ble_eq_true rfl⟩ (fun _ h3 => ?_)
  exact q_vret C Z1 Z2 dX6_begin_21
def q_X2_fail (h : zH) (a_0 : Nat) (x_1 : Int) : Option (Unit × zH) := if h.1 a_0 3 = 0 then (zlet (zput h a_0 3 x_1) (fun h1 => zlet (zput h1 a_0 2 (h1.1 (h1.2 a_0 0) 5)) (fun h2 => some ((), h2)))) else (some ((), h))
theorem cq_X2_fail (w : zW) (l : Launch) (h : zH) (a_0 : Nat) (x_1 : Int) : zCq w l yX2_fail cX2_fail 2 none 0 0 [.inr (2, a_0), .inl x_1] h qU (q_X2_fail h a_0 x_1) := by
  refine zCq.of (own := RX2) (loc := [some (.inr (2, a_0)), some (.inl x_1)]) (by decide) rfl (Nat.le_of_ble_eq_true rfl) (fun k v hk => ?_) ?_
  · exact zloc_ok 0 rfl hk
  intro p e s m args below meth c C Z1 Z2
  unfold q_X2_fail
  refine q_aload_n C dX2_fail_0 rfl ?_
  refine q_getI C dX2_fail_1 fl2_39 rfl ?_
  refine q_if_ne C dX2_fail_4 (tgt := 23) (by decide) ?_ ?_
  · exact q_vret C Z1 Z2 dX2_fail_23
  · refine q_aload_n C dX2_fail_7 rfl ?_
    refine q_iload_n C dX2_fail_8 rfl ?_
    refine q_putI C dX2_fail_9 pl2_39 rfl (fun h1 => ?_)
    refine q_aload_n C dX2_fail_12 rfl ?_
    refine q_aload_n C dX2_fail_13 rfl ?_
    refine q_getR C dX2_fail_14 fl2_12 rfl ?_
    refine q_getI C dX2_fail_17 fl2_143 rfl ?_
    refine q_putI C dX2_fail_20 pl2_25 rfl (fun h2 => ?_)
    exact q_vret C Z1 Z2 dX2_fail_23
def q_X2_accept (h : zH) (a_0 : Nat) : Option (Unit × zH) := if h.1 a_0 3 = 0 then (zbd (q_X6_step h (h.2 a_0 0)) (fun _ h1 => some ((), h1))) else (some ((), h))
theorem cq_X2_accept (w : zW) (l : Launch) (h : zH) (a_0 : Nat) : zCq w l yX2_accept cX2_accept 1 none 2 93 [.inr (2, a_0)] h qU (q_X2_accept h a_0) := by
  refine zCq.of (own := RX2) (loc := [some (.inr (2, a_0))]) (by decide) rfl (Nat.le_of_ble_eq_true rfl) (fun k v hk => ?_) ?_
  · exact zloc_ok 0 rfl hk
  intro p e s m args below meth c C Z1 Z2
  unfold q_X2_accept
  refine q_aload_n C dX2_accept_0 rfl ?_
  refine q_getI C dX2_accept_1 fl2_39 rfl ?_
  refine q_if_ne C dX2_accept_4 (tgt := 14) (by decide) ?_ ?_
  · exact q_vret C Z1 Z2 dX2_accept_14
  · refine q_aload_n C dX2_accept_7 rfl ?_
    refine q_getR C dX2_accept_8 fl2_12 rfl ?_
    refine q_callVU C dX2_accept_11 mv2_140 (cq_X6_step w l h _) rfl ⟨by decide, by decide⟩ ⟨rfl, Nat.le_of_ble_eq_true rfl⟩ (fun _ h1 => ?_)
    exact q_vret C Z1 Z2 dX2_accept_14
def q_X7_inRange (h : zH) (x_0 : Int) (x_1 : Int) (x_2 : Int) : Option Int := if x_0 < x_1 then (some 0) else (if x_2 < x_0 then (some 0) else (some 1))
theorem cq_X7_inRange (w : zW) (l : Launch) (h : zH) (x_0 : Int) (x_1 : Int) (x_2 : Int) : zCp w l yX7_inRange cX7_inRange 3 (some .boolean) 0 0 [.inl x_0, .inl x_1, .inl x_2] h qI (q_X7_inRange h x_0 x_1 x_2) := by
  refine zCp.of (own := RX7) (loc := [some (.inl x_0), some (.inl x_1), some (.inl x_2)]) (by decide) rfl (Nat.le_of_ble_eq_true rfl) (fun k v hk => ?_) ?_
  · exact zloc_ok 0 rfl hk
  intro p e s m args below meth c C Z1 Z2
  unfold q_X7_inRange
  refine p_iload_n C dX7_inRange_0 rfl ?_
  refine p_iload_n C dX7_inRange_1 rfl ?_
  refine p_icmp_lt C dX7_inRange_2 (tgt := 14) (by decide) ?_ ?_
  · refine p_iconst C dX7_inRange_14 rfl ?_
    exact p_zret C Z1 Z2 (Or.inl rfl) dX7_inRange_15
  · refine p_iload_n C dX7_inRange_5 rfl ?_
    refine p_iload_n C dX7_inRange_6 rfl ?_
    refine p_icmp_gt C dX7_inRange_7 (tgt := 14) (by decide) ?_ ?_
    · refine p_iconst C dX7_inRange_14 rfl ?_
      exact p_zret C Z1 Z2 (Or.inl rfl) dX7_inRange_15
    · refine p_iconst C dX7_inRange_10 rfl ?_
      refine p_goto C dX7_inRange_11 (tgt := 15) (by decide) ?_
      exact p_zret C Z1 Z2 (Or.inr rfl) dX7_inRange_15
def q_X2_readNumber (h : zH) (a_0 : Nat) (x_1 : Int) (x_2 : Int) : Option (Int × zH) := if h.1 (h.2 a_0 0) 4 = 2 then (zbp (q_X7_inRange h (h.1 (h.2 a_0 0) 6) x_1 x_2) (fun x1 => if x1 = 0 then (zbd (q_X2_fail h a_0 ((-12))) (fun _ h4 => zlet (h4.1 (h4.2 a_0 0) 6) (fun x5 => zbd (q_X2_accept h4 a_0) (fun _ h6 => some (x5, h6))))) else (zlet (h.1 (h.2 a_0 0) 6) (fun x2 => zbd (q_X2_accept h a_0) (fun _ h3 => some (x2, h3)))))) else (zbd (q_X2_fail h a_0 ((-11))) (fun _ h7 => zlet (h7.1 (h7.2 a_0 0) 6) (fun x8 => zbd (q_X2_accept h7 a_0) (fun _ h9 => some (x8, h9)))))
theorem cq_X2_readNumber (w : zW) (l : Launch) (h : zH) (a_0 : Nat) (x_1 : Int) (x_2 : Int) : zCq w l yX2_readNumber cX2_readNumber 4 (some .int) 3 113 [.inr (2, a_0), .inl x_1, .inl x_2] h qI (q_X2_readNumber h a_0 x_1 x_2) := by
  refine zCq.of (own := RX2) (loc := [some (.inr (2, a_0)), some (.inl x_1), some (.inl x_2), none]) (by decide) rfl (Nat.le_of_ble_eq_true rfl) (fun k v hk => ?_) ?_
  · exact zloc_ok 1 rfl hk
  intro p e s m args below meth c C Z1 Z2
  unfold q_X2_readNumber
  refine q_aload_n C dX2_readNumber_0 rfl ?_
  refine q_getR C dX2_readNumber_1 fl2_12 rfl ?_
  refine q_getI C dX2_readNumber_4 fl2_52 rfl ?_
  refine q_iconst C dX2_readNumber_7 rfl ?_
  refine q_icmp_eq C dX2_readNumber_8 (tgt := 20) (by decide) ?_ ?_
  · refine q_aload_n C dX2_readNumber_20 rfl ?_
    refine q_getR C dX2_readNumber_21 fl2_12 rfl ?_
    refine q_getI C dX2_readNumber_24 fl2_146 rfl ?_
    refine q_iload_n C dX2_readNumber_27 rfl ?_
    refine q_iload_n C dX2_readNumber_28 rfl ?_
    refine q_pcallNI C dX2_readNumber_29 mn2_149 (cq_X7_inRange w l h _ _ _) rfl ⟨by decide, by decide⟩ ⟨rfl, Nat.le_of_ble_eq_true rfl⟩ (fun x1 => ?_)
    refine q_if_ne C dX2_readNumber_32 (tgt := 41) (by decide) ?_ ?_
    · refine q_aload_n C dX2_readNumber_41 rfl ?_
      refine q_getR C dX2_readNumber_42 fl2_12 rfl ?_
      refine q_getI C dX2_readNumber_45 fl2_146 rfl ?_
      refine q_istore_nL C dX2_readNumber_48 (by decide) (fun x2 => ?_)
      refine q_aload_n C dX2_readNumber_49 rfl ?_
      refine q_callVU C dX2_readNumber_50 mv2_90 (cq_X2_accept w l h _) rfl ⟨by decide, by decide⟩ ⟨rfl, Nat.le_of_ble_eq_true rfl⟩ (fun _ h3 => ?_)
      refine q_iload_n C dX2_readNumber_53 rfl ?_
      exact q_iret C Z1 Z2 dX2_readNumber_54
    · refine q_aload_n C dX2_readNumber_35 rfl ?_
      refine q_bipush C dX2_readNumber_36 (by decide) rfl ?_
      refine q_callVU C dX2_readNumber_38 mv2_84 (cq_X2_fail w l h _ _) rfl ⟨by decide, by decide⟩ ⟨rfl, Nat.le_of_ble_eq_true rfl⟩ (fun _ h4 => ?_)
      refine q_aload_n C dX2_readNumber_41 rfl ?_
      refine q_getR C dX2_readNumber_42 fl2_12 rfl ?_
      refine q_getI C dX2_readNumber_45 fl2_146 rfl ?_
      refine q_istore_nL C dX2_readNumber_48 (by decide) (fun x5 => ?_)
      refine q_aload_n C dX2_readNumber_49 rfl ?_
      refine q_callVU C dX2_readNumber_50 mv2_90 (cq_X2_accept w l h4 _) rfl ⟨by decide, by decide⟩ ⟨rfl, Nat.le_of_ble_eq_true rfl⟩ (fun _ h6 => ?_)
      refine q_iload_n C dX2_readNumber_53 rfl ?_
      exact q_iret C Z1 Z2 dX2_readNumber_54
  · refine q_aload_n C dX2_readNumber_11 rfl ?_
    refine q_bipush C dX2_readNumber_12 (by decide) rfl ?_
    refine q_callVU C dX2_readNumber_14 mv2_84 (cq_X2_fail w l h _ _) rfl ⟨by decide, by decide⟩ ⟨rfl, Nat.le_of_ble_eq_true rfl⟩ (fun _ h7 => ?_)
    refine q_goto C dX2_readNumber_17 (tgt := 41) (by decide) ?_
    refine q_aload_n C dX2_readNumber_41 rfl ?_
    refine q_getR C dX2_readNumber_42 fl2_12 rfl ?_
    refine q_getI C dX2_readNumber_45 fl2_146 rfl ?_
    refine q_istore_nL C dX2_readNumber_48 (by decide) (fun x8 => ?_)
    refine q_aload_n C dX2_readNumber_49 rfl ?_
    refine q_callVU C dX2_readNumber_50 mv2_90 (cq_X2_accept w l h7 _) rfl ⟨by decide, by decide⟩ ⟨rfl, Nat.le_of_ble_eq_true rfl⟩ (fun _ h9 => ?_)
    refine q_iload_n C dX2_readNumber_53 rfl ?_
    exact q_iret C Z1 Z2 dX2_readNumber_54
def q_X2_readSemicolon (h : zH) (a_0 : Nat) : Option (Unit × zH) := if h.1 (h.2 a_0 0) 4 = 3 then (zbd (q_X2_accept h a_0) (fun _ h1 => some ((), h1))) else (zbd (q_X2_fail h a_0 ((-11))) (fun _ h2 => zbd (q_X2_accept h2 a_0) (fun _ h3 => some ((), h3))))
theorem cq_X2_readSemicolon (w : zW) (l : Launch) (h : zH) (a_0 : Nat) : zCq w l yX2_readSemicolon cX2_readSemicolon 1 none 3 113 [.inr (2, a_0)] h qU (q_X2_readSemicolon h a_0) := by
  refine zCq.of (own := RX2) (loc := [some (.inr (2, a_0))]) (by decide) rfl (Nat.le_of_ble_eq_true rfl) (fun k v hk => ?_) ?_
  · exact zloc_ok 0 rfl hk
  intro p e s m args below meth c C Z1 Z2
  unfold q_X2_readSemicolon
  refine q_aload_n C dX2_readSemicolon_0 rfl ?_
  refine q_getR C dX2_readSemicolon_1 fl2_12 rfl ?_
  refine q_getI C dX2_readSemicolon_4 fl2_52 rfl ?_
  refine q_iconst C dX2_readSemicolon_7 rfl ?_
  refine q_icmp_eq C dX2_readSemicolon_8 (tgt := 17) (by decide) ?_ ?_
  · refine q_aload_n C dX2_readSemicolon_17 rfl ?_
    refine q_callVU C dX2_readSemicolon_18 mv2_90 (cq_X2_accept w l h _) rfl ⟨by decide, by decide⟩ ⟨rfl, Nat.le_of_ble_eq_true rfl⟩ (fun _ h1 => ?_)
    exact q_vret C Z1 Z2 dX2_readSemicolon_21
  · refine q_aload_n C dX2_readSemicolon_11 rfl ?_
    refine q_bipush C dX2_readSemicolon_12 (by decide) rfl ?_
    refine q_callVU C dX2_readSemicolon_14 mv2_84 (cq_X2_fail w l h _ _) rfl ⟨by decide, by decide⟩ ⟨rfl, Nat.le_of_ble_eq_true rfl⟩ (fun _ h2 => ?_)
    refine q_aload_n C dX2_readSemicolon_17 rfl ?_
    refine q_callVU C dX2_readSemicolon_18 mv2_90 (cq_X2_accept w l h2 _) rfl ⟨by decide, by decide⟩ ⟨rfl, Nat.le_of_ble_eq_true rfl⟩ (fun _ h3 => ?_)
    exact q_vret C Z1 Z2 dX2_readSemicolon_21
def q_X2_readCarriers (h : zH) (a_0 : Nat) : Option (Unit × zH) := if h.1 a_0 4 = 0 then (if h.1 (h.2 a_0 1) 7 ≤ 0 then (zbd (q_X2_accept h a_0) (fun _ h1 => zbd (q_X2_readNumber h1 a_0 1 4) (fun x2 h3 => zbd (q_X2_readSemicolon h3 a_0) (fun _ h4 => if h4.1 a_0 3 = 0 then (zlet (zput h4 a_0 4 1) (fun h5 => zlet (zput h5 (h5.2 a_0 1) 1 x2) (fun h6 => some ((), h6)))) else (some ((), h4)))))) else (zbd (q_X2_fail h a_0 ((-15))) (fun _ h7 => zbd (q_X2_accept h7 a_0) (fun _ h8 => zbd (q_X2_readNumber h8 a_0 1 4) (fun x9 h10 => zbd (q_X2_readSemicolon h10 a_0) (fun _ h11 => if h11.1 a_0 3 = 0 then (zlet (zput h11 a_0 4 1) (fun h12 => zlet (zput h12 (h12.2 a_0 1) 1 x9) (fun h13 => some ((), h13)))) else (some ((), h11)))))))) else (zbd (q_X2_fail h a_0 ((-14))) (fun _ h14 => zbd (q_X2_accept h14 a_0) (fun _ h15 => zbd (q_X2_readNumber h15 a_0 1 4) (fun x16 h17 => zbd (q_X2_readSemicolon h17 a_0) (fun _ h18 => if h18.1 a_0 3 = 0 then (zlet (zput h18 a_0 4 1) (fun h19 => zlet (zput h19 (h19.2 a_0 1) 1 x16) (fun h20 => some ((), h20)))) else (some ((), h18)))))))
theorem cq_X2_readCarriers (w : zW) (l : Launch) (h : zH) (a_0 : Nat) : zCq w l yX2_readCarriers cX2_readCarriers 2 none 4 136 [.inr (2, a_0)] h qU (q_X2_readCarriers h a_0) := by
  refine zCq.of (own := RX2) (loc := [some (.inr (2, a_0)), none]) (by decide) rfl (Nat.le_of_ble_eq_true rfl) (fun k v hk => ?_) ?_
  · exact zloc_ok 1 rfl hk
  intro p e s m args below meth c C Z1 Z2
  unfold q_X2_readCarriers
  refine q_aload_n C dX2_readCarriers_0 rfl ?_
  refine q_getI C dX2_readCarriers_1 fl2_42 rfl ?_
  refine q_if_eq C dX2_readCarriers_4 (tgt := 16) (by decide) ?_ ?_
  · refine q_aload_n C dX2_readCarriers_16 rfl ?_
    refine q_getR C dX2_readCarriers_17 fl2_21 rfl ?_
    refine q_getI C dX2_readCarriers_20 fl2_87 rfl ?_
    refine q_if_le C dX2_readCarriers_23 (tgt := 32) (by decide) ?_ ?_
    · refine q_aload_n C dX2_readCarriers_32 rfl ?_
      refine q_callVU C dX2_readCarriers_33 mv2_90 (cq_X2_accept w l h _) rfl ⟨by decide, by decide⟩ ⟨rfl, Nat.le_of_ble_eq_true rfl⟩ (fun _ h1 => ?_)
      refine q_aload_n C dX2_readCarriers_36 rfl ?_
      refine q_iconst C dX2_readCarriers_37 rfl ?_
      refine q_iconst C dX2_readCarriers_38 rfl ?_
      refine q_callVI C dX2_readCarriers_39 mv2_93 (cq_X2_readNumber w l h1 _ _ _) rfl ⟨by decide, by decide⟩ ⟨rfl, Nat.le_of_ble_eq_true rfl⟩ (fun x2 h3 => ?_)
      refine q_istore_n C dX2_readCarriers_42 (by decide) ?_
      refine q_aload_n C dX2_readCarriers_43 rfl ?_
      refine q_callVU C dX2_readCarriers_44 mv2_97 (cq_X2_readSemicolon w l h3 _) rfl ⟨by decide, by decide⟩ ⟨rfl, Nat.le_of_ble_eq_true rfl⟩ (fun _ h4 => ?_)
      refine q_aload_n C dX2_readCarriers_47 rfl ?_
      refine q_getI C dX2_readCarriers_48 fl2_39 rfl ?_
      refine q_if_ne C dX2_readCarriers_51 (tgt := 67) (by decide) ?_ ?_
      · exact q_vret C Z1 Z2 dX2_readCarriers_67
      · refine q_aload_n C dX2_readCarriers_54 rfl ?_
        refine q_iconst C dX2_readCarriers_55 rfl ?_
        refine q_putZ C dX2_readCarriers_56 pl2_42 rfl (Or.inr rfl) (fun h5 => ?_)
        refine q_aload_n C dX2_readCarriers_59 rfl ?_
        refine q_getR C dX2_readCarriers_60 fl2_21 rfl ?_
        refine q_iload_n C dX2_readCarriers_63 rfl ?_
        refine q_putI C dX2_readCarriers_64 pl2_100 rfl (fun h6 => ?_)
        exact q_vret C Z1 Z2 dX2_readCarriers_67
    · refine q_aload_n C dX2_readCarriers_26 rfl ?_
      refine q_bipush C dX2_readCarriers_27 (by decide) rfl ?_
      refine q_callVU C dX2_readCarriers_29 mv2_84 (cq_X2_fail w l h _ _) rfl ⟨by decide, by decide⟩ ⟨rfl, Nat.le_of_ble_eq_true rfl⟩ (fun _ h7 => ?_)
      refine q_aload_n C dX2_readCarriers_32 rfl ?_
      refine q_callVU C dX2_readCarriers_33 mv2_90 (cq_X2_accept w l h7 _) rfl ⟨by decide, by decide⟩ ⟨rfl, Nat.le_of_ble_eq_true rfl⟩ (fun _ h8 => ?_)
      refine q_aload_n C dX2_readCarriers_36 rfl ?_
      refine q_iconst C dX2_readCarriers_37 rfl ?_
      refine q_iconst C dX2_readCarriers_38 rfl ?_
      refine q_callVI C dX2_readCarriers_39 mv2_93 (cq_X2_readNumber w l h8 _ _ _) rfl ⟨by decide, by decide⟩ ⟨rfl, Nat.le_of_ble_eq_true rfl⟩ (fun x9 h10 => ?_)
      refine q_istore_n C dX2_readCarriers_42 (by decide) ?_
      refine q_aload_n C dX2_readCarriers_43 rfl ?_
      refine q_callVU C dX2_readCarriers_44 mv2_97 (cq_X2_readSemicolon w l h10 _) rfl ⟨by decide, by decide⟩ ⟨rfl, Nat.le_of_ble_eq_true rfl⟩ (fun _ h11 => ?_)
      refine q_aload_n C dX2_readCarriers_47 rfl ?_
      refine q_getI C dX2_readCarriers_48 fl2_39 rfl ?_
      refine q_if_ne C dX2_readCarriers_51 (tgt := 67) (by decide) ?_ ?_
      · exact q_vret C Z1 Z2 dX2_readCarriers_67
      · refine q_aload_n C dX2_readCarriers_54 rfl ?_
        refine q_iconst C dX2_readCarriers_55 rfl ?_
        refine q_putZ C dX2_readCarriers_56 pl2_42 rfl (Or.inr rfl) (fun h12 => ?_)
        refine q_aload_n C dX2_readCarriers_59 rfl ?_
        refine q_getR C dX2_readCarriers_60 fl2_21 rfl ?_
        refine q_iload_n C dX2_readCarriers_63 rfl ?_
        refine q_putI C dX2_readCarriers_64 pl2_100 rfl (fun h13 => ?_)
        exact q_vret C Z1 Z2 dX2_readCarriers_67
  · refine q_aload_n C dX2_readCarriers_7 rfl ?_
    refine q_bipush C dX2_readCarriers_8 (by decide) rfl ?_
    refine q_callVU C dX2_readCarriers_10 mv2_84 (cq_X2_fail w l h _ _) rfl ⟨by decide, by decide⟩ ⟨rfl, Nat.le_of_ble_eq_true rfl⟩ (fun _ h14 => ?_)
    refine q_goto C dX2_readCarriers_13 (tgt := 32) (by decide) ?_
    refine q_aload_n C dX2_readCarriers_32 rfl ?_
    refine q_callVU C dX2_readCarriers_33 mv2_90 (cq_X2_accept w l h14 _) rfl ⟨by decide, by decide⟩ ⟨rfl, Nat.le_of_ble_eq_true rfl⟩ (fun _ h15 => ?_)
    refine q_aload_n C dX2_readCarriers_36 rfl ?_
    refine q_iconst C dX2_readCarriers_37 rfl ?_
    refine q_iconst C dX2_readCarriers_38 rfl ?_
    refine q_callVI C dX2_readCarriers_39 mv2_93 (cq_X2_readNumber w l h15 _ _ _) rfl ⟨by decide, by decide⟩ ⟨rfl, Nat.le_of_ble_eq_true rfl⟩ (fun x16 h17 => ?_)
    refine q_istore_n C dX2_readCarriers_42 (by decide) ?_
    refine q_aload_n C dX2_readCarriers_43 rfl ?_
    refine q_callVU C dX2_readCarriers_44 mv2_97 (cq_X2_readSemicolon w l h17 _) rfl ⟨by decide, by decide⟩ ⟨rfl, Nat.le_of_ble_eq_true rfl⟩ (fun _ h18 => ?_)
    refine q_aload_n C dX2_readCarriers_47 rfl ?_
    refine q_getI C dX2_readCarriers_48 fl2_39 rfl ?_
    refine q_if_ne C dX2_readCarriers_51 (tgt := 67) (by decide) ?_ ?_
    · exact q_vret C Z1 Z2 dX2_readCarriers_67
    · refine q_aload_n C dX2_readCarriers_54 rfl ?_
      refine q_iconst C dX2_readCarriers_55 rfl ?_
      refine q_putZ C dX2_readCarriers_56 pl2_42 rfl (Or.inr rfl) (fun h19 => ?_)
      refine q_aload_n C dX2_readCarriers_59 rfl ?_
      refine q_getR C dX2_readCarriers_60 fl2_21 rfl ?_
      refine q_iload_n C dX2_readCarriers_63 rfl ?_
      refine q_putI C dX2_readCarriers_64 pl2_100 rfl (fun h20 => ?_)
      exact q_vret C Z1 Z2 dX2_readCarriers_67
def q_X6_isShortWord (h : zH) (a_0 : Nat) : Option Int := if h.1 a_0 4 = 1 then (if 6 < zw (h.1 a_0 3 - h.1 a_0 5) then (some 0) else (some 1)) else (some 0)
theorem cq_X6_isShortWord (w : zW) (l : Launch) (h : zH) (a_0 : Nat) : zCp w l yX6_isShortWord cX6_isShortWord 1 (some .boolean) 0 0 [.inr (6, a_0)] h qI (q_X6_isShortWord h a_0) := by
  refine zCp.of (own := RX6) (loc := [some (.inr (6, a_0))]) (by decide) rfl (Nat.le_of_ble_eq_true rfl) (fun k v hk => ?_) ?_
  · exact zloc_ok 0 rfl hk
  intro p e s m args below meth c C Z1 Z2
  unfold q_X6_isShortWord
  refine p_aload_n C dX6_isShortWord_0 rfl ?_
  refine p_getI C dX6_isShortWord_1 fl6_41 rfl ?_
  refine p_iconst C dX6_isShortWord_4 rfl ?_
  refine p_icmp_ne C dX6_isShortWord_5 (tgt := 26) (by decide) ?_ ?_
  · refine p_iconst C dX6_isShortWord_26 rfl ?_
    exact p_zret C Z1 Z2 (Or.inl rfl) dX6_isShortWord_27
  · refine p_aload_n C dX6_isShortWord_8 rfl ?_
    refine p_getI C dX6_isShortWord_9 fl6_28 rfl ?_
    refine p_aload_n C dX6_isShortWord_12 rfl ?_
    refine p_getI C dX6_isShortWord_13 fl6_38 rfl ?_
    refine p_isub C dX6_isShortWord_16 ?_
    refine p_bipush C dX6_isShortWord_17 (by decide) rfl ?_
    refine p_icmp_gt C dX6_isShortWord_19 (tgt := 26) (by decide) ?_ ?_
    · refine p_iconst C dX6_isShortWord_26 rfl ?_
      exact p_zret C Z1 Z2 (Or.inl rfl) dX6_isShortWord_27
    · refine p_iconst C dX6_isShortWord_22 rfl ?_
      refine p_goto C dX6_isShortWord_23 (tgt := 27) (by decide) ?_
      exact p_zret C Z1 Z2 (Or.inr rfl) dX6_isShortWord_27
def q_X6_packedLetters_L4 (h : zH) (a0 : Nat) (k : Int → Int → Option Int) : Nat → Int → Int → Option Int
  | 0, _, _ => none
  | n + 1, i1, i2 => if 6 ≤ i2 then (k i1 i2) else (if h.1 a0 3 ≤ zw (h.1 a0 5 + i2) then (zlet (zor (zshl i1 5) 0) (fun x1 => zlet (zw (i2 + 1)) (fun x2 => q_X6_packedLetters_L4 h a0 k n x1 x2))) else (zbp (q_X6_signAt h a0 (zw (h.1 a0 5 + i2))) (fun x3 => zlet (zw (zw (x3 - 97) + 1)) (fun x4 => zlet (zor (zshl i1 5) x4) (fun x5 => zlet (zw (i2 + 1)) (fun x6 => q_X6_packedLetters_L4 h a0 k n x5 x6))))))
def q_X6_packedLetters (h : zH) (a_0 : Nat) : Option Int := q_X6_packedLetters_L4 h a_0 (fun x7 x8 => some x7) zF 0 0
theorem cq_X6_packedLetters (w : zW) (l : Launch) (h : zH) (a_0 : Nat) : zCp w l yX6_packedLetters cX6_packedLetters 4 (some .int) 1 21 [.inr (6, a_0)] h qI (q_X6_packedLetters h a_0) := by
  refine zCp.of (own := RX6) (loc := [some (.inr (6, a_0)), none, none, none]) (by decide) rfl (Nat.le_of_ble_eq_true rfl) (fun k v hk => ?_) ?_
  · exact zloc_ok 3 rfl hk
  intro p e s m args below meth c C Z1 Z2
  have L4 : ∀ (a0 : Nat) (k : Int → Int → Option Int) (hk : ∀ (u3 : Option zv) (i1 : Int) (i2 : Int), zQP w p l e (zRm 1 21) s m args below meth c 4 qI (k i1 i2) 55 [some (.inr (6, a0)), some (.inl i1), some (.inl i2), u3] [] h) (n : Nat) (u3 : Option zv) (i1 : Int) (i2 : Int), zQP w p l e (zRm 1 21) s m args below meth c 4 qI (q_X6_packedLetters_L4 h a0 k n i1 i2) 4 [some (.inr (6, a0)), some (.inl i1), some (.inl i2), u3] [] h := by
    intro a0 k hk n
    induction n with
    | zero =>
      intro u3 i1 i2
      exact p_none
    | succ n ih =>
      intro u3 i1 i2
      rw [q_X6_packedLetters_L4]
      refine p_iload_n C dX6_packedLetters_4 rfl ?_
      refine p_bipush C dX6_packedLetters_5 (by decide) rfl ?_
      refine p_icmp_ge C dX6_packedLetters_7 (tgt := 55) (by decide) ?_ ?_
      · exact hk _ i1 i2
      · refine p_aload_n C dX6_packedLetters_10 rfl ?_
        refine p_getI C dX6_packedLetters_11 fl6_38 rfl ?_
        refine p_iload_n C dX6_packedLetters_14 rfl ?_
        refine p_iadd C dX6_packedLetters_15 ?_
        refine p_aload_n C dX6_packedLetters_16 rfl ?_
        refine p_getI C dX6_packedLetters_17 fl6_28 rfl ?_
        refine p_icmp_ge C dX6_packedLetters_20 (tgt := 41) (by decide) ?_ ?_
        · refine p_iconst C dX6_packedLetters_41 rfl ?_
          refine p_istore_n C dX6_packedLetters_42 (by decide) ?_
          refine p_iload_n C dX6_packedLetters_43 rfl ?_
          refine p_iconst C dX6_packedLetters_44 rfl ?_
          refine p_ishl C dX6_packedLetters_45 ?_
          refine p_iload_n C dX6_packedLetters_46 rfl ?_
          refine p_ior C dX6_packedLetters_47 ?_
          refine p_istore_nL C dX6_packedLetters_48 (by decide) (fun x1 => ?_)
          refine p_iincL C dX6_packedLetters_49 rfl (by decide) (fun x2 => ?_)
          refine p_goto C dX6_packedLetters_52 (tgt := 4) (by decide) ?_
          exact ih _ x1 x2
        · refine p_aload_n C dX6_packedLetters_23 rfl ?_
          refine p_aload_n C dX6_packedLetters_24 rfl ?_
          refine p_getI C dX6_packedLetters_25 fl6_38 rfl ?_
          refine p_iload_n C dX6_packedLetters_28 rfl ?_
          refine p_iadd C dX6_packedLetters_29 ?_
          refine p_pcallVI C dX6_packedLetters_30 mv6_34 (cq_X6_signAt w l h _ _) rfl ⟨by decide, by decide⟩ ⟨rfl, Nat.le_of_ble_eq_true rfl⟩ (fun x3 => ?_)
          refine p_bipush C dX6_packedLetters_33 (by decide) rfl ?_
          refine p_isub C dX6_packedLetters_35 ?_
          refine p_iconst C dX6_packedLetters_36 rfl ?_
          refine p_iadd C dX6_packedLetters_37 ?_
          refine p_goto C dX6_packedLetters_38 (tgt := 42) (by decide) ?_
          refine p_istore_nL C dX6_packedLetters_42 (by decide) (fun x4 => ?_)
          refine p_iload_n C dX6_packedLetters_43 rfl ?_
          refine p_iconst C dX6_packedLetters_44 rfl ?_
          refine p_ishl C dX6_packedLetters_45 ?_
          refine p_iload_n C dX6_packedLetters_46 rfl ?_
          refine p_ior C dX6_packedLetters_47 ?_
          refine p_istore_nL C dX6_packedLetters_48 (by decide) (fun x5 => ?_)
          refine p_iincL C dX6_packedLetters_49 rfl (by decide) (fun x6 => ?_)
          refine p_goto C dX6_packedLetters_52 (tgt := 4) (by decide) ?_
          exact ih _ x5 x6
  unfold q_X6_packedLetters
  refine p_iconst C dX6_packedLetters_0 rfl ?_
  refine p_istore_n C dX6_packedLetters_1 (by decide) ?_
  refine p_iconst C dX6_packedLetters_2 rfl ?_
  refine p_istore_n C dX6_packedLetters_3 (by decide) ?_
  refine L4 a_0 _ ?_ zF _ 0 0
  intro u9 x7 x8
  refine p_iload_n C dX6_packedLetters_55 rfl ?_
  exact p_iret C Z1 Z2 dX6_packedLetters_56
def q_X4_stationWithName_L2 (h : zH) (a0 : Nat) (i1 : Int) (k : Int → Option Int) : Nat → Int → Option Int
  | 0, _ => none
  | n + 1, i2 => if h.1 a0 3 ≤ i2 then (k i2) else (zgi 6 i2 (if h.1 (h.2 (h.2 a0 4) i2.toNat) 0 = i1 then (some i2) else (zlet (zw (i2 + 1)) (fun x1 => q_X4_stationWithName_L2 h a0 i1 k n x1))))
def q_X4_stationWithName (h : zH) (a_0 : Nat) (x_1 : Int) : Option Int := q_X4_stationWithName_L2 h a_0 x_1 (fun x2 => some ((-1))) zF 0
theorem cq_X4_stationWithName (w : zW) (l : Launch) (h : zH) (a_0 : Nat) (x_1 : Int) : zCp w l yX4_stationWithName cX4_stationWithName 3 (some .int) 0 0 [.inr (4, a_0), .inl x_1] h qI (q_X4_stationWithName h a_0 x_1) := by
  refine zCp.of (own := RX4) (loc := [some (.inr (4, a_0)), some (.inl x_1), none]) (by decide) rfl (Nat.le_of_ble_eq_true rfl) (fun k v hk => ?_) ?_
  · exact zloc_ok 1 rfl hk
  intro p e s m args below meth c C Z1 Z2
  have L2 : ∀ (a0 : Nat) (i1 : Int) (k : Int → Option Int) (hk : ∀ (i2 : Int), zQP w p l e (zRm 0 0) s m args below meth c 3 qI (k i2) 31 [some (.inr (4, a0)), some (.inl i1), some (.inl i2)] [] h) (n : Nat) (i2 : Int), zQP w p l e (zRm 0 0) s m args below meth c 3 qI (q_X4_stationWithName_L2 h a0 i1 k n i2) 2 [some (.inr (4, a0)), some (.inl i1), some (.inl i2)] [] h := by
    intro a0 i1 k hk n
    induction n with
    | zero =>
      intro i2
      exact p_none
    | succ n ih =>
      intro i2
      rw [q_X4_stationWithName_L2]
      refine p_iload_n C dX4_stationWithName_2 rfl ?_
      refine p_aload_n C dX4_stationWithName_3 rfl ?_
      refine p_getI C dX4_stationWithName_4 fl4_46 rfl ?_
      refine p_icmp_ge C dX4_stationWithName_7 (tgt := 31) (by decide) ?_ ?_
      · exact hk i2
      · refine p_aload_n C dX4_stationWithName_10 rfl ?_
        refine p_getR C dX4_stationWithName_11 fl4_17 rfl ?_
        refine p_iload_n C dX4_stationWithName_14 rfl ?_
        refine p_aald C dX4_stationWithName_15 ⟨by decide, by decide, _, rfl⟩ ?_
        refine p_getI C dX4_stationWithName_16 fl4_74 rfl ?_
        refine p_iload_n C dX4_stationWithName_19 rfl ?_
        refine p_icmp_ne C dX4_stationWithName_20 (tgt := 25) (by decide) ?_ ?_
        · refine p_iincL C dX4_stationWithName_25 rfl (by decide) (fun x1 => ?_)
          refine p_goto C dX4_stationWithName_28 (tgt := 2) (by decide) ?_
          exact ih x1
        · refine p_iload_n C dX4_stationWithName_23 rfl ?_
          exact p_iret C Z1 Z2 dX4_stationWithName_24
  unfold q_X4_stationWithName
  refine p_iconst C dX4_stationWithName_0 rfl ?_
  refine p_istore_n C dX4_stationWithName_1 (by decide) ?_
  refine L2 a_0 x_1 _ ?_ zF 0
  intro x2
  refine p_iconst C dX4_stationWithName_31 rfl ?_
  exact p_iret C Z1 Z2 dX4_stationWithName_32
def q_X5_forgetErrors_L2 (a0 : Nat) (k : Int → zH → Option (Unit × zH)) : Nat → Int → zH → Option (Unit × zH)
  | 0, _, _ => none
  | n + 1, i1, h => if 64 ≤ i1 then (k i1 h) else (zgi 64 i1 (zlet (zput h (h.2 a0 7) i1.toNat 0) (fun h1 => zlet (zw (i1 + 1)) (fun x2 => q_X5_forgetErrors_L2 a0 k n x2 h1))))
def q_X5_forgetErrors (h : zH) (a_0 : Nat) : Option (Unit × zH) := q_X5_forgetErrors_L2 a_0 (fun x3 h4 => some ((), h4)) zF 0 h
theorem cq_X5_forgetErrors (w : zW) (l : Launch) (h : zH) (a_0 : Nat) : zCq w l yX5_forgetErrors cX5_forgetErrors 2 none 0 0 [.inr (5, a_0)] h qU (q_X5_forgetErrors h a_0) := by
  refine zCq.of (own := RX5) (loc := [some (.inr (5, a_0)), none]) (by decide) rfl (Nat.le_of_ble_eq_true rfl) (fun k v hk => ?_) ?_
  · exact zloc_ok 1 rfl hk
  intro p e s m args below meth c C Z1 Z2
  have L2 : ∀ (a0 : Nat) (k : Int → zH → Option (Unit × zH)) (hk : ∀ (i1 : Int) (h : zH), zQV w p l e (zRm 0 0) s m args below meth c 2 qU (k i1 h) 21 [some (.inr (5, a0)), some (.inl i1)] [] h) (n : Nat) (i1 : Int) (h : zH), zQV w p l e (zRm 0 0) s m args below meth c 2 qU (q_X5_forgetErrors_L2 a0 k n i1 h) 2 [some (.inr (5, a0)), some (.inl i1)] [] h := by
    intro a0 k hk n
    induction n with
    | zero =>
      intro i1 h
      exact q_none
    | succ n ih =>
      intro i1 h
      rw [q_X5_forgetErrors_L2]
      refine q_iload_n C dX5_forgetErrors_2 rfl ?_
      refine q_bipush C dX5_forgetErrors_3 (by decide) rfl ?_
      refine q_icmp_ge C dX5_forgetErrors_5 (tgt := 21) (by decide) ?_ ?_
      · exact hk i1 h
      · refine q_aload_n C dX5_forgetErrors_8 rfl ?_
        refine q_getR C dX5_forgetErrors_9 fl5_11 rfl ?_
        refine q_iload_n C dX5_forgetErrors_12 rfl ?_
        refine q_iconst C dX5_forgetErrors_13 rfl ?_
        refine q_iast C dX5_forgetErrors_14 ⟨by decide, by decide, rfl⟩ (fun h1 => ?_)
        refine q_iincL C dX5_forgetErrors_15 rfl (by decide) (fun x2 => ?_)
        refine q_goto C dX5_forgetErrors_18 (tgt := 2) (by decide) ?_
        exact ih x2 h1
  unfold q_X5_forgetErrors
  refine q_iconst C dX5_forgetErrors_0 rfl ?_
  refine q_istore_n C dX5_forgetErrors_1 (by decide) ?_
  refine L2 a_0 _ ?_ zF 0 h
  intro x3 h4
  exact q_vret C Z1 Z2 dX5_forgetErrors_21
def q_X5_declare (h : zH) (a_0 : Nat) (x_1 : Int) (x_2 : Int) (x_3 : Int) (x_4 : Int) (x_5 : Int) : Option (Unit × zH) := zlet (zput h a_0 0 x_1) (fun h1 => zlet (zput h1 a_0 1 x_2) (fun h2 => zlet (zput h2 a_0 2 x_3) (fun h3 => zlet (zput h3 a_0 3 x_4) (fun h4 => zlet (zput h4 a_0 4 x_5) (fun h5 => zlet (zput h5 a_0 5 x_4) (fun h6 => zlet (zput h6 a_0 6 0) (fun h7 => zbd (q_X5_forgetErrors h7 a_0) (fun _ h8 => some ((), h8)))))))))
theorem cq_X5_declare (w : zW) (l : Launch) (h : zH) (a_0 : Nat) (x_1 : Int) (x_2 : Int) (x_3 : Int) (x_4 : Int) (x_5 : Int) : zCq w l yX5_declare cX5_declare 6 none 1 21 [.inr (5, a_0), .inl x_1, .inl x_2, .inl x_3, .inl x_4, .inl x_5] h qU (q_X5_declare h a_0 x_1 x_2 x_3 x_4 x_5) := by
  refine zCq.of (own := RX5) (loc := [some (.inr (5, a_0)), some (.inl x_1), some (.inl x_2), some (.inl x_3), some (.inl x_4), some (.inl x_5)]) (by decide) rfl (Nat.le_of_ble_eq_true rfl) (fun k v hk => ?_) ?_
  · exact zloc_ok 0 rfl hk
  intro p e s m args below meth c C Z1 Z2
  unfold q_X5_declare
  refine q_aload_n C dX5_declare_0 rfl ?_
  refine q_iload_n C dX5_declare_1 rfl ?_
  refine q_putI C dX5_declare_2 pl5_15 rfl (fun h1 => ?_)
  refine q_aload_n C dX5_declare_5 rfl ?_
  refine q_iload_n C dX5_declare_6 rfl ?_
  refine q_putI C dX5_declare_7 pl5_19 rfl (fun h2 => ?_)
  refine q_aload_n C dX5_declare_10 rfl ?_
  refine q_iload_n C dX5_declare_11 rfl ?_
  refine q_putI C dX5_declare_12 pl5_22 rfl (fun h3 => ?_)
  refine q_aload_n C dX5_declare_15 rfl ?_
  refine q_iload C dX5_declare_16 rfl ?_
  refine q_putI C dX5_declare_18 pl5_25 rfl (fun h4 => ?_)
  refine q_aload_n C dX5_declare_21 rfl ?_
  refine q_iload C dX5_declare_22 rfl ?_
  refine q_putI C dX5_declare_24 pl5_28 rfl (fun h5 => ?_)
  refine q_aload_n C dX5_declare_27 rfl ?_
  refine q_iload C dX5_declare_28 rfl ?_
  refine q_putI C dX5_declare_30 pl5_31 rfl (fun h6 => ?_)
  refine q_aload_n C dX5_declare_33 rfl ?_
  refine q_iconst C dX5_declare_34 rfl ?_
  refine q_putI C dX5_declare_35 pl5_34 rfl (fun h7 => ?_)
  refine q_aload_n C dX5_declare_38 rfl ?_
  refine q_callVU C dX5_declare_39 mv5_37 (cq_X5_forgetErrors w l h7 _) rfl ⟨by decide, by decide⟩ ⟨rfl, Nat.le_of_ble_eq_true rfl⟩ (fun _ h8 => ?_)
  exact q_vret C Z1 Z2 dX5_declare_42
def q_X4_addStation (h : zH) (a_0 : Nat) (x_1 : Int) (x_2 : Int) (x_3 : Int) (x_4 : Int) (x_5 : Int) : Option (Unit × zH) := if 6 ≤ h.1 a_0 3 then (some ((), h)) else (zgi 6 (h.1 a_0 3) (zbd (q_X5_declare h (h.2 (h.2 a_0 4) (h.1 a_0 3).toNat) x_1 x_2 x_3 x_4 x_5) (fun _ h1 => zlet (zput h1 a_0 3 (zw (h1.1 a_0 3 + 1))) (fun h2 => some ((), h2)))))
theorem cq_X4_addStation (w : zW) (l : Launch) (h : zH) (a_0 : Nat) (x_1 : Int) (x_2 : Int) (x_3 : Int) (x_4 : Int) (x_5 : Int) : zCq w l yX4_addStation cX4_addStation 6 none 2 46 [.inr (4, a_0), .inl x_1, .inl x_2, .inl x_3, .inl x_4, .inl x_5] h qU (q_X4_addStation h a_0 x_1 x_2 x_3 x_4 x_5) := by
  refine zCq.of (own := RX4) (loc := [some (.inr (4, a_0)), some (.inl x_1), some (.inl x_2), some (.inl x_3), some (.inl x_4), some (.inl x_5)]) (by decide) rfl (Nat.le_of_ble_eq_true rfl) (fun k v hk => ?_) ?_
  · exact zloc_ok 0 rfl hk
  intro p e s m args below meth c C Z1 Z2
  unfold q_X4_addStation
  refine q_aload_n C dX4_addStation_0 rfl ?_
  refine q_getI C dX4_addStation_1 fl4_46 rfl ?_
  refine q_bipush C dX4_addStation_4 (by decide) rfl ?_
  refine q_icmp_ge C dX4_addStation_6 (tgt := 38) (by decide) ?_ ?_
  · exact q_vret C Z1 Z2 dX4_addStation_38
  · refine q_aload_n C dX4_addStation_9 rfl ?_
    refine q_getR C dX4_addStation_10 fl4_17 rfl ?_
    refine q_aload_n C dX4_addStation_13 rfl ?_
    refine q_getI C dX4_addStation_14 fl4_46 rfl ?_
    refine q_aald C dX4_addStation_17 ⟨by decide, by decide, _, rfl⟩ ?_
    refine q_iload_n C dX4_addStation_18 rfl ?_
    refine q_iload_n C dX4_addStation_19 rfl ?_
    refine q_iload_n C dX4_addStation_20 rfl ?_
    refine q_iload C dX4_addStation_21 rfl ?_
    refine q_iload C dX4_addStation_23 rfl ?_
    refine q_callVU C dX4_addStation_25 mv4_77 (cq_X5_declare w l h _ _ _ _ _ _) rfl ⟨by decide, by decide⟩ ⟨rfl, Nat.le_of_ble_eq_true rfl⟩ (fun _ h1 => ?_)
    refine q_aload_n C dX4_addStation_28 rfl ?_
    refine q_dup C dX4_addStation_29 ?_
    refine q_getI C dX4_addStation_30 fl4_46 rfl ?_
    refine q_iconst C dX4_addStation_33 rfl ?_
    refine q_iadd C dX4_addStation_34 ?_
    refine q_putI C dX4_addStation_35 pl4_46 rfl (fun h2 => ?_)
    exact q_vret C Z1 Z2 dX4_addStation_38
def q_X4_addRain (h : zH) (a_0 : Nat) (x_1 : Int) (x_2 : Int) (x_3 : Int) (x_4 : Int) : Option (Unit × zH) := if 8 ≤ h.1 a_0 5 then (some ((), h)) else (zgi 8 (h.1 a_0 5) (zlet (h.2 (h.2 a_0 6) (h.1 a_0 5).toNat) (fun r1 => zlet (zput h r1 0 x_1) (fun h2 => zlet (zput h2 r1 1 x_2) (fun h3 => zlet (zput h3 r1 2 x_3) (fun h4 => zlet (zput h4 r1 3 x_4) (fun h5 => zlet (zput h5 a_0 5 (zw (h5.1 a_0 5 + 1))) (fun h6 => some ((), h6)))))))))
theorem cq_X4_addRain (w : zW) (l : Launch) (h : zH) (a_0 : Nat) (x_1 : Int) (x_2 : Int) (x_3 : Int) (x_4 : Int) : zCq w l yX4_addRain cX4_addRain 6 none 0 0 [.inr (4, a_0), .inl x_1, .inl x_2, .inl x_3, .inl x_4] h qU (q_X4_addRain h a_0 x_1 x_2 x_3 x_4) := by
  refine zCq.of (own := RX4) (loc := [some (.inr (4, a_0)), some (.inl x_1), some (.inl x_2), some (.inl x_3), some (.inl x_4), none]) (by decide) rfl (Nat.le_of_ble_eq_true rfl) (fun k v hk => ?_) ?_
  · exact zloc_ok 1 rfl hk
  intro p e s m args below meth c C Z1 Z2
  unfold q_X4_addRain
  refine q_aload_n C dX4_addRain_0 rfl ?_
  refine q_getI C dX4_addRain_1 fl4_49 rfl ?_
  refine q_bipush C dX4_addRain_4 (by decide) rfl ?_
  refine q_icmp_ge C dX4_addRain_6 (tgt := 55) (by decide) ?_ ?_
  · exact q_vret C Z1 Z2 dX4_addRain_55
  · refine q_aload_n C dX4_addRain_9 rfl ?_
    refine q_getR C dX4_addRain_10 fl4_23 rfl ?_
    refine q_aload_n C dX4_addRain_13 rfl ?_
    refine q_getI C dX4_addRain_14 fl4_49 rfl ?_
    refine q_aald C dX4_addRain_17 ⟨by decide, by decide, _, rfl⟩ ?_
    refine q_astoreL C dX4_addRain_18 (by decide) (fun r1 => ?_)
    refine q_aload C dX4_addRain_20 rfl ?_
    refine q_iload_n C dX4_addRain_22 rfl ?_
    refine q_putI C dX4_addRain_23 pl4_81 rfl (fun h2 => ?_)
    refine q_aload C dX4_addRain_26 rfl ?_
    refine q_iload_n C dX4_addRain_28 rfl ?_
    refine q_putI C dX4_addRain_29 pl4_84 rfl (fun h3 => ?_)
    refine q_aload C dX4_addRain_32 rfl ?_
    refine q_iload_n C dX4_addRain_34 rfl ?_
    refine q_putI C dX4_addRain_35 pl4_87 rfl (fun h4 => ?_)
    refine q_aload C dX4_addRain_38 rfl ?_
    refine q_iload C dX4_addRain_40 rfl ?_
    refine q_putI C dX4_addRain_42 pl4_90 rfl (fun h5 => ?_)
    refine q_aload_n C dX4_addRain_45 rfl ?_
    refine q_dup C dX4_addRain_46 ?_
    refine q_getI C dX4_addRain_47 fl4_49 rfl ?_
    refine q_iconst C dX4_addRain_50 rfl ?_
    refine q_iadd C dX4_addRain_51 ?_
    refine q_putI C dX4_addRain_52 pl4_49 rfl (fun h6 => ?_)
    exact q_vret C Z1 Z2 dX4_addRain_55
def q_X4_firstStart (h : zH) (a_0 : Nat) : Option Int := some (zw (h.1 (h.2 a_0 2) 2 + h.1 (h.2 a_0 2) 1))
theorem cq_X4_firstStart (w : zW) (l : Launch) (h : zH) (a_0 : Nat) : zCp w l yX4_firstStart cX4_firstStart 1 (some .int) 0 0 [.inr (4, a_0)] h qI (q_X4_firstStart h a_0) := by
  refine zCp.of (own := RX4) (loc := [some (.inr (4, a_0))]) (by decide) rfl (Nat.le_of_ble_eq_true rfl) (fun k v hk => ?_) ?_
  · exact zloc_ok 0 rfl hk
  intro p e s m args below meth c C Z1 Z2
  unfold q_X4_firstStart
  refine p_aload_n C dX4_firstStart_0 rfl ?_
  refine p_getR C dX4_firstStart_1 fl4_9 rfl ?_
  refine p_iconst C dX4_firstStart_4 rfl ?_
  refine p_ialdN (j := 2) C dX4_firstStart_5 ⟨by decide, by decide, rfl⟩ rfl (by decide) ?_
  refine p_aload_n C dX4_firstStart_6 rfl ?_
  refine p_getR C dX4_firstStart_7 fl4_9 rfl ?_
  refine p_iconst C dX4_firstStart_10 rfl ?_
  refine p_ialdN (j := 1) C dX4_firstStart_11 ⟨by decide, by decide, rfl⟩ rfl (by decide) ?_
  refine p_iadd C dX4_firstStart_12 ?_
  exact p_iret C Z1 Z2 dX4_firstStart_13
def q_X4_lastStart (h : zH) (a_0 : Nat) (a_1 : Nat) : Option Int := some (zw (zw (h.1 (h.2 a_0 2) 0 - h.1 (h.2 a_0 2) 1) - h.1 a_1 3))
theorem cq_X4_lastStart (w : zW) (l : Launch) (h : zH) (a_0 : Nat) (a_1 : Nat) : zCp w l yX4_lastStart cX4_lastStart 2 (some .int) 0 0 [.inr (4, a_0), .inr (0, a_1)] h qI (q_X4_lastStart h a_0 a_1) := by
  refine zCp.of (own := RX4) (loc := [some (.inr (4, a_0)), some (.inr (0, a_1))]) (by decide) rfl (Nat.le_of_ble_eq_true rfl) (fun k v hk => ?_) ?_
  · exact zloc_ok 0 rfl hk
  intro p e s m args below meth c C Z1 Z2
  unfold q_X4_lastStart
  refine p_aload_n C dX4_lastStart_0 rfl ?_
  refine p_getR C dX4_lastStart_1 fl4_9 rfl ?_
  refine p_iconst C dX4_lastStart_4 rfl ?_
  refine p_ialdN (j := 0) C dX4_lastStart_5 ⟨by decide, by decide, rfl⟩ rfl (by decide) ?_
  refine p_aload_n C dX4_lastStart_6 rfl ?_
  refine p_getR C dX4_lastStart_7 fl4_9 rfl ?_
  refine p_iconst C dX4_lastStart_10 rfl ?_
  refine p_ialdN (j := 1) C dX4_lastStart_11 ⟨by decide, by decide, rfl⟩ rfl (by decide) ?_
  refine p_isub C dX4_lastStart_12 ?_
  refine p_aload_n C dX4_lastStart_13 rfl ?_
  refine p_getI C dX4_lastStart_14 fl4_102 rfl ?_
  refine p_isub C dX4_lastStart_17 ?_
  exact p_iret C Z1 Z2 dX4_lastStart_18
def q_X4_freeBehind (h : zH) (a_0 : Nat) (a_1 : Nat) : Option Int := some (zw (zw (h.1 a_1 7 + h.1 a_1 3) + h.1 (h.2 a_0 2) 1))
theorem cq_X4_freeBehind (w : zW) (l : Launch) (h : zH) (a_0 : Nat) (a_1 : Nat) : zCp w l yX4_freeBehind cX4_freeBehind 2 (some .int) 0 0 [.inr (4, a_0), .inr (0, a_1)] h qI (q_X4_freeBehind h a_0 a_1) := by
  refine zCp.of (own := RX4) (loc := [some (.inr (4, a_0)), some (.inr (0, a_1))]) (by decide) rfl (Nat.le_of_ble_eq_true rfl) (fun k v hk => ?_) ?_
  · exact zloc_ok 0 rfl hk
  intro p e s m args below meth c C Z1 Z2
  unfold q_X4_freeBehind
  refine p_aload_n C dX4_freeBehind_0 rfl ?_
  refine p_getI C dX4_freeBehind_1 fl4_168 rfl ?_
  refine p_aload_n C dX4_freeBehind_4 rfl ?_
  refine p_getI C dX4_freeBehind_5 fl4_102 rfl ?_
  refine p_iadd C dX4_freeBehind_8 ?_
  refine p_aload_n C dX4_freeBehind_9 rfl ?_
  refine p_getR C dX4_freeBehind_10 fl4_9 rfl ?_
  refine p_iconst C dX4_freeBehind_13 rfl ?_
  refine p_ialdN (j := 1) C dX4_freeBehind_14 ⟨by decide, by decide, rfl⟩ rfl (by decide) ?_
  refine p_iadd C dX4_freeBehind_15 ?_
  exact p_iret C Z1 Z2 dX4_freeBehind_16
def q_X4_callsInTheWay_L21 (h : zH) (a0 : Nat) (a1 : Nat) (i2 : Int) (i3 : Int) (i4 : Int) (k : Int → Int → Option Int) : Nat → Int → Int → Option Int
  | 0, _, _ => none
  | n + 1, i5, i6 => if h.1 a0 7 ≤ i6 then (k i5 i6) else (zgi 16 i6 (zlet (h.2 (h.2 a0 8) i6.toNat) (fun r2 => if h.1 r2 5 = 1 then (zbp (q_X4_freeBehind h a0 r2) (fun x4 => if x4 ≤ i3 then (zlet (zw (i6 + 1)) (fun x5 => q_X4_callsInTheWay_L21 h a0 a1 i2 i3 i4 k n i5 x5)) else (if i4 ≤ h.1 r2 7 then (zlet (zw (i6 + 1)) (fun x6 => q_X4_callsInTheWay_L21 h a0 a1 i2 i3 i4 k n i5 x6)) else (zbp (q_X0_conflictsWith h r2 a1 i2) (fun x7 => if x7 = 0 then (zlet (zw (i6 + 1)) (fun x8 => q_X4_callsInTheWay_L21 h a0 a1 i2 i3 i4 k n i5 x8)) else (zlet (zor i5 (zshl 1 i6)) (fun x9 => zlet (zw (i6 + 1)) (fun x10 => q_X4_callsInTheWay_L21 h a0 a1 i2 i3 i4 k n x9 x10)))))))) else (zlet (zw (i6 + 1)) (fun x3 => q_X4_callsInTheWay_L21 h a0 a1 i2 i3 i4 k n i5 x3)))))
def q_X4_callsInTheWay (h : zH) (a_0 : Nat) (a_1 : Nat) (x_2 : Int) (x_3 : Int) : Option Int := zlet (zw (zw (x_3 + h.1 a_1 3) + h.1 (h.2 a_0 2) 1)) (fun x1 => q_X4_callsInTheWay_L21 h a_0 a_1 x_2 x_3 x1 (fun x11 x12 => some x11) zF 0 0)
theorem cq_X4_callsInTheWay (w : zW) (l : Launch) (h : zH) (a_0 : Nat) (a_1 : Nat) (x_2 : Int) (x_3 : Int) : zCp w l yX4_callsInTheWay cX4_callsInTheWay 8 (some .int) 1 22 [.inr (4, a_0), .inr (0, a_1), .inl x_2, .inl x_3] h qI (q_X4_callsInTheWay h a_0 a_1 x_2 x_3) := by
  refine zCp.of (own := RX4) (loc := [some (.inr (4, a_0)), some (.inr (0, a_1)), some (.inl x_2), some (.inl x_3), none, none, none, none]) (by decide) rfl (Nat.le_of_ble_eq_true rfl) (fun k v hk => ?_) ?_
  · exact zloc_ok 4 rfl hk
  intro p e s m args below meth c C Z1 Z2
  have L21 : ∀ (a0 : Nat) (a1 : Nat) (i2 : Int) (i3 : Int) (i4 : Int) (k : Int → Int → Option Int) (hk : ∀ (u7 : Option zv) (i5 : Int) (i6 : Int), zQP w p l e (zRm 1 22) s m args below meth c 8 qI (k i5 i6) 93 [some (.inr (4, a0)), some (.inr (0, a1)), some (.inl i2), some (.inl i3), some (.inl i4), some (.inl i5), some (.inl i6), u7] [] h) (n : Nat) (u7 : Option zv) (i5 : Int) (i6 : Int), zQP w p l e (zRm 1 22) s m args below meth c 8 qI (q_X4_callsInTheWay_L21 h a0 a1 i2 i3 i4 k n i5 i6) 21 [some (.inr (4, a0)), some (.inr (0, a1)), some (.inl i2), some (.inl i3), some (.inl i4), some (.inl i5), some (.inl i6), u7] [] h := by
    intro a0 a1 i2 i3 i4 k hk n
    induction n with
    | zero =>
      intro u7 i5 i6
      exact p_none
    | succ n ih =>
      intro u7 i5 i6
      rw [q_X4_callsInTheWay_L21]
      refine p_iload C dX4_callsInTheWay_21 rfl ?_
      refine p_aload_n C dX4_callsInTheWay_23 rfl ?_
      refine p_getI C dX4_callsInTheWay_24 fl4_52 rfl ?_
      refine p_icmp_ge C dX4_callsInTheWay_27 (tgt := 93) (by decide) ?_ ?_
      · exact hk _ i5 i6
      · refine p_aload_n C dX4_callsInTheWay_30 rfl ?_
        refine p_getR C dX4_callsInTheWay_31 fl4_29 rfl ?_
        refine p_iload C dX4_callsInTheWay_34 rfl ?_
        refine p_aald C dX4_callsInTheWay_36 ⟨by decide, by decide, _, rfl⟩ ?_
        refine p_astoreL C dX4_callsInTheWay_37 (by decide) (fun r2 => ?_)
        refine p_aload C dX4_callsInTheWay_39 rfl ?_
        refine p_getI C dX4_callsInTheWay_41 fl4_108 rfl ?_
        refine p_iconst C dX4_callsInTheWay_44 rfl ?_
        refine p_icmp_ne C dX4_callsInTheWay_45 (tgt := 87) (by decide) ?_ ?_
        · refine p_iincL C dX4_callsInTheWay_87 rfl (by decide) (fun x3 => ?_)
          refine p_goto C dX4_callsInTheWay_90 (tgt := 21) (by decide) ?_
          exact ih _ i5 x3
        · refine p_iload_n C dX4_callsInTheWay_48 rfl ?_
          refine p_aload_n C dX4_callsInTheWay_49 rfl ?_
          refine p_aload C dX4_callsInTheWay_50 rfl ?_
          refine p_pcallVI C dX4_callsInTheWay_52 mv4_171 (cq_X4_freeBehind w l h _ _) rfl ⟨by decide, by decide⟩ ⟨rfl, Nat.le_of_ble_eq_true rfl⟩ (fun x4 => ?_)
          refine p_icmp_ge C dX4_callsInTheWay_55 (tgt := 87) (by decide) ?_ ?_
          · refine p_iincL C dX4_callsInTheWay_87 rfl (by decide) (fun x5 => ?_)
            refine p_goto C dX4_callsInTheWay_90 (tgt := 21) (by decide) ?_
            exact ih _ i5 x5
          · refine p_aload C dX4_callsInTheWay_58 rfl ?_
            refine p_getI C dX4_callsInTheWay_60 fl4_168 rfl ?_
            refine p_iload C dX4_callsInTheWay_63 rfl ?_
            refine p_icmp_ge C dX4_callsInTheWay_65 (tgt := 87) (by decide) ?_ ?_
            · refine p_iincL C dX4_callsInTheWay_87 rfl (by decide) (fun x6 => ?_)
              refine p_goto C dX4_callsInTheWay_90 (tgt := 21) (by decide) ?_
              exact ih _ i5 x6
            · refine p_aload C dX4_callsInTheWay_68 rfl ?_
              refine p_aload_n C dX4_callsInTheWay_70 rfl ?_
              refine p_iload_n C dX4_callsInTheWay_71 rfl ?_
              refine p_pcallVI C dX4_callsInTheWay_72 mv4_174 (cq_X0_conflictsWith w l h _ _ _) rfl ⟨by decide, by decide⟩ ⟨rfl, Nat.le_of_ble_eq_true rfl⟩ (fun x7 => ?_)
              refine p_if_eq C dX4_callsInTheWay_75 (tgt := 87) (by decide) ?_ ?_
              · refine p_iincL C dX4_callsInTheWay_87 rfl (by decide) (fun x8 => ?_)
                refine p_goto C dX4_callsInTheWay_90 (tgt := 21) (by decide) ?_
                exact ih _ i5 x8
              · refine p_iload C dX4_callsInTheWay_78 rfl ?_
                refine p_iconst C dX4_callsInTheWay_80 rfl ?_
                refine p_iload C dX4_callsInTheWay_81 rfl ?_
                refine p_ishl C dX4_callsInTheWay_83 ?_
                refine p_ior C dX4_callsInTheWay_84 ?_
                refine p_istoreL C dX4_callsInTheWay_85 (by decide) (fun x9 => ?_)
                refine p_iincL C dX4_callsInTheWay_87 rfl (by decide) (fun x10 => ?_)
                refine p_goto C dX4_callsInTheWay_90 (tgt := 21) (by decide) ?_
                exact ih _ x9 x10
  unfold q_X4_callsInTheWay
  refine p_iload_n C dX4_callsInTheWay_0 rfl ?_
  refine p_aload_n C dX4_callsInTheWay_1 rfl ?_
  refine p_getI C dX4_callsInTheWay_2 fl4_102 rfl ?_
  refine p_iadd C dX4_callsInTheWay_5 ?_
  refine p_aload_n C dX4_callsInTheWay_6 rfl ?_
  refine p_getR C dX4_callsInTheWay_7 fl4_9 rfl ?_
  refine p_iconst C dX4_callsInTheWay_10 rfl ?_
  refine p_ialdN (j := 1) C dX4_callsInTheWay_11 ⟨by decide, by decide, rfl⟩ rfl (by decide) ?_
  refine p_iadd C dX4_callsInTheWay_12 ?_
  refine p_istoreL C dX4_callsInTheWay_13 (by decide) (fun x1 => ?_)
  refine p_iconst C dX4_callsInTheWay_15 rfl ?_
  refine p_istore C dX4_callsInTheWay_16 (by decide) ?_
  refine p_iconst C dX4_callsInTheWay_18 rfl ?_
  refine p_istore C dX4_callsInTheWay_19 (by decide) ?_
  refine L21 a_0 a_1 x_2 x_3 x1 _ ?_ zF _ 0 0
  intro u13 x11 x12
  refine p_iload C dX4_callsInTheWay_93 rfl ?_
  exact p_iret C Z1 Z2 dX4_callsInTheWay_95
def q_X4_isIn (h : zH) (x_0 : Int) (x_1 : Int) : Option Int := if zand (zshr x_0 x_1) 1 = 0 then (some 0) else (some 1)
theorem cq_X4_isIn (w : zW) (l : Launch) (h : zH) (x_0 : Int) (x_1 : Int) : zCp w l yX4_isIn cX4_isIn 2 (some .boolean) 0 0 [.inl x_0, .inl x_1] h qI (q_X4_isIn h x_0 x_1) := by
  refine zCp.of (own := RX4) (loc := [some (.inl x_0), some (.inl x_1)]) (by decide) rfl (Nat.le_of_ble_eq_true rfl) (fun k v hk => ?_) ?_
  · exact zloc_ok 0 rfl hk
  intro p e s m args below meth c C Z1 Z2
  unfold q_X4_isIn
  refine p_iload_n C dX4_isIn_0 rfl ?_
  refine p_iload_n C dX4_isIn_1 rfl ?_
  refine p_ishr C dX4_isIn_2 ?_
  refine p_iconst C dX4_isIn_3 rfl ?_
  refine p_iand C dX4_isIn_4 ?_
  refine p_if_eq C dX4_isIn_5 (tgt := 12) (by decide) ?_ ?_
  · refine p_iconst C dX4_isIn_12 rfl ?_
    exact p_zret C Z1 Z2 (Or.inl rfl) dX4_isIn_13
  · refine p_iconst C dX4_isIn_8 rfl ?_
    refine p_goto C dX4_isIn_9 (tgt := 13) (by decide) ?_
    exact p_zret C Z1 Z2 (Or.inr rfl) dX4_isIn_13
def q_X4_leastStart_L51 (h : zH) (a0 : Nat) (a1 : Nat) (i2 : Int) (i3 : Int) (i5 : Int) (i6 : Int) (k : Int → Int → Option Int) : Nat → Int → Int → Option Int
  | 0, _, _ => none
  | n + 1, i4, i7 => if h.1 a0 7 ≤ i7 then (k i4 i7) else (zbp (q_X4_isIn h i6 i7) (fun x5 => if x5 = 0 then (zlet (zw (i7 + 1)) (fun x6 => q_X4_leastStart_L51 h a0 a1 i2 i3 i5 i6 k n i4 x6)) else (zgi 16 i7 (zbp (q_X4_freeBehind h a0 (h.2 (h.2 a0 8) i7.toNat)) (fun x7 => zlet (zmax i4 x7) (fun x8 => zlet (zw (i7 + 1)) (fun x9 => q_X4_leastStart_L51 h a0 a1 i2 i3 i5 i6 k n x8 x9)))))))
def q_X4_leastStart_L9 (h : zH) (a0 : Nat) (a1 : Nat) (i2 : Int) (i3 : Int) (k : Int → Int → Option Int) : Nat → Int → Int → Option Int
  | 0, _, _ => none
  | n + 1, i4, i5 => if 16 ≤ i5 then (k i4 i5) else (zbp (q_X4_lastStart h a0 a1) (fun x2 => if x2 < i4 then (k i4 i5) else (zbp (q_X4_callsInTheWay h a0 a1 i2 i4) (fun x3 => zlet (zand x3 (zxor i3 ((-1)))) (fun x4 => if x4 = 0 then (some i4) else (q_X4_leastStart_L51 h a0 a1 i2 i3 i5 x4 (fun x10 x11 => zlet (zw (i5 + 1)) (fun x12 => q_X4_leastStart_L9 h a0 a1 i2 i3 k n x10 x12)) zF i4 0))))))
def q_X4_leastStart (h : zH) (a_0 : Nat) (a_1 : Nat) (x_2 : Int) (x_3 : Int) : Option Int := zbp (q_X4_firstStart h a_0) (fun x1 => q_X4_leastStart_L9 h a_0 a_1 x_2 x_3 (fun x13 x14 => some ((-1))) zF x1 0)
theorem cq_X4_leastStart (w : zW) (l : Launch) (h : zH) (a_0 : Nat) (a_1 : Nat) (x_2 : Int) (x_3 : Int) : zCp w l yX4_leastStart cX4_leastStart 8 (some .int) 2 72 [.inr (4, a_0), .inr (0, a_1), .inl x_2, .inl x_3] h qI (q_X4_leastStart h a_0 a_1 x_2 x_3) := by
  refine zCp.of (own := RX4) (loc := [some (.inr (4, a_0)), some (.inr (0, a_1)), some (.inl x_2), some (.inl x_3), none, none, none, none]) (by decide) rfl (Nat.le_of_ble_eq_true rfl) (fun k v hk => ?_) ?_
  · exact zloc_ok 4 rfl hk
  intro p e s m args below meth c C Z1 Z2
  have L51 : ∀ (a0 : Nat) (a1 : Nat) (i2 : Int) (i3 : Int) (i5 : Int) (i6 : Int) (k : Int → Int → Option Int) (hk : ∀ (i4 : Int) (i7 : Int), zQP w p l e (zRm 2 72) s m args below meth c 8 qI (k i4 i7) 94 [some (.inr (4, a0)), some (.inr (0, a1)), some (.inl i2), some (.inl i3), some (.inl i4), some (.inl i5), some (.inl i6), some (.inl i7)] [] h) (n : Nat) (i4 : Int) (i7 : Int), zQP w p l e (zRm 2 72) s m args below meth c 8 qI (q_X4_leastStart_L51 h a0 a1 i2 i3 i5 i6 k n i4 i7) 51 [some (.inr (4, a0)), some (.inr (0, a1)), some (.inl i2), some (.inl i3), some (.inl i4), some (.inl i5), some (.inl i6), some (.inl i7)] [] h := by
    intro a0 a1 i2 i3 i5 i6 k hk n
    induction n with
    | zero =>
      intro i4 i7
      exact p_none
    | succ n ih =>
      intro i4 i7
      rw [q_X4_leastStart_L51]
      refine p_iload C dX4_leastStart_51 rfl ?_
      refine p_aload_n C dX4_leastStart_53 rfl ?_
      refine p_getI C dX4_leastStart_54 fl4_52 rfl ?_
      refine p_icmp_ge C dX4_leastStart_57 (tgt := 94) (by decide) ?_ ?_
      · exact hk i4 i7
      · refine p_iload C dX4_leastStart_60 rfl ?_
        refine p_iload C dX4_leastStart_62 rfl ?_
        refine p_pcallSI C dX4_leastStart_64 ms4_156 (cq_X4_isIn w l h _ _) rfl ⟨by decide, by decide⟩ ⟨rfl, Nat.le_of_ble_eq_true rfl⟩ (fun x5 => ?_)
        refine p_if_eq C dX4_leastStart_67 (tgt := 88) (by decide) ?_ ?_
        · refine p_iincL C dX4_leastStart_88 rfl (by decide) (fun x6 => ?_)
          refine p_goto C dX4_leastStart_91 (tgt := 51) (by decide) ?_
          exact ih i4 x6
        · refine p_iload C dX4_leastStart_70 rfl ?_
          refine p_aload_n C dX4_leastStart_72 rfl ?_
          refine p_aload_n C dX4_leastStart_73 rfl ?_
          refine p_getR C dX4_leastStart_74 fl4_29 rfl ?_
          refine p_iload C dX4_leastStart_77 rfl ?_
          refine p_aald C dX4_leastStart_79 ⟨by decide, by decide, _, rfl⟩ ?_
          refine p_pcallVI C dX4_leastStart_80 mv4_171 (cq_X4_freeBehind w l h _ _) rfl ⟨by decide, by decide⟩ ⟨rfl, Nat.le_of_ble_eq_true rfl⟩ (fun x7 => ?_)
          refine p_mmax C dX4_leastStart_83 (zmem 957 (by decide +kernel)) ⟨by decide, Nat.le_of_ble_eq_true rfl⟩ ?_
          refine p_istoreL C dX4_leastStart_86 (by decide) (fun x8 => ?_)
          refine p_iincL C dX4_leastStart_88 rfl (by decide) (fun x9 => ?_)
          refine p_goto C dX4_leastStart_91 (tgt := 51) (by decide) ?_
          exact ih x8 x9
  have L9 : ∀ (a0 : Nat) (a1 : Nat) (i2 : Int) (i3 : Int) (k : Int → Int → Option Int) (hk : ∀ (u6 u7 : Option zv) (i4 : Int) (i5 : Int), zQP w p l e (zRm 2 72) s m args below meth c 8 qI (k i4 i5) 100 [some (.inr (4, a0)), some (.inr (0, a1)), some (.inl i2), some (.inl i3), some (.inl i4), some (.inl i5), u6, u7] [] h) (n : Nat) (u6 u7 : Option zv) (i4 : Int) (i5 : Int), zQP w p l e (zRm 2 72) s m args below meth c 8 qI (q_X4_leastStart_L9 h a0 a1 i2 i3 k n i4 i5) 9 [some (.inr (4, a0)), some (.inr (0, a1)), some (.inl i2), some (.inl i3), some (.inl i4), some (.inl i5), u6, u7] [] h := by
    intro a0 a1 i2 i3 k hk n
    induction n with
    | zero =>
      intro u6 u7 i4 i5
      exact p_none
    | succ n ih =>
      intro u6 u7 i4 i5
      rw [q_X4_leastStart_L9]
      refine p_iload C dX4_leastStart_9 rfl ?_
      refine p_bipush C dX4_leastStart_11 (by decide) rfl ?_
      refine p_icmp_ge C dX4_leastStart_13 (tgt := 100) (by decide) ?_ ?_
      · exact hk _ _ i4 i5
      · refine p_iload C dX4_leastStart_16 rfl ?_
        refine p_aload_n C dX4_leastStart_18 rfl ?_
        refine p_aload_n C dX4_leastStart_19 rfl ?_
        refine p_pcallVI C dX4_leastStart_20 mv4_182 (cq_X4_lastStart w l h _ _) rfl ⟨by decide, by decide⟩ ⟨rfl, Nat.le_of_ble_eq_true rfl⟩ (fun x2 => ?_)
        refine p_icmp_gt C dX4_leastStart_23 (tgt := 100) (by decide) ?_ ?_
        · exact hk _ _ i4 i5
        · refine p_aload_n C dX4_leastStart_26 rfl ?_
          refine p_aload_n C dX4_leastStart_27 rfl ?_
          refine p_iload_n C dX4_leastStart_28 rfl ?_
          refine p_iload C dX4_leastStart_29 rfl ?_
          refine p_pcallVI C dX4_leastStart_31 mv4_185 (cq_X4_callsInTheWay w l h _ _ _ _) rfl ⟨by decide, by decide⟩ ⟨rfl, Nat.le_of_ble_eq_true rfl⟩ (fun x3 => ?_)
          refine p_iload_n C dX4_leastStart_34 rfl ?_
          refine p_iconst C dX4_leastStart_35 rfl ?_
          refine p_ixor C dX4_leastStart_36 ?_
          refine p_iand C dX4_leastStart_37 ?_
          refine p_istoreL C dX4_leastStart_38 (by decide) (fun x4 => ?_)
          refine p_iload C dX4_leastStart_40 rfl ?_
          refine p_if_ne C dX4_leastStart_42 (tgt := 48) (by decide) ?_ ?_
          · refine p_iconst C dX4_leastStart_48 rfl ?_
            refine p_istore C dX4_leastStart_49 (by decide) ?_
            refine L51 a0 a1 i2 i3 i5 x4 _ ?_ zF i4 0
            intro x10 x11
            refine p_iincL C dX4_leastStart_94 rfl (by decide) (fun x12 => ?_)
            refine p_goto C dX4_leastStart_97 (tgt := 9) (by decide) ?_
            exact ih _ _ x10 x12
          · refine p_iload C dX4_leastStart_45 rfl ?_
            exact p_iret C Z1 Z2 dX4_leastStart_47
  unfold q_X4_leastStart
  refine p_aload_n C dX4_leastStart_0 rfl ?_
  refine p_pcallVI C dX4_leastStart_1 mv4_178 (cq_X4_firstStart w l h _) rfl ⟨by decide, by decide⟩ ⟨rfl, Nat.le_of_ble_eq_true rfl⟩ (fun x1 => ?_)
  refine p_istore C dX4_leastStart_4 (by decide) ?_
  refine p_iconst C dX4_leastStart_6 rfl ?_
  refine p_istore C dX4_leastStart_7 (by decide) ?_
  refine L9 a_0 a_1 x_2 x_3 _ ?_ zF _ _ x1 0
  intro u15 u16 x13 x14
  refine p_iconst C dX4_leastStart_100 rfl ?_
  exact p_iret C Z1 Z2 dX4_leastStart_101
def q_X4_place_L4 (a0 : Nat) (a1 : Nat) (k : Int → Int → zH → Option (Int × zH)) : Nat → Int → Int → zH → Option (Int × zH)
  | 0, _, _, _ => none
  | n + 1, i2, i3, h => if h.1 a0 1 ≤ i3 then (k i2 i3 h) else (zbp (q_X4_leastStart h a0 a1 i3 0) (fun x1 => if x1 = (-1) then (zlet (zw (i3 + 1)) (fun x2 => q_X4_place_L4 a0 a1 k n i2 x2 h)) else (if i2 = (-1) then (zlet (zput h a1 6 i3) (fun h3 => zlet (zw (i3 + 1)) (fun x4 => q_X4_place_L4 a0 a1 k n x1 x4 h3))) else (if i2 ≤ x1 then (zlet (zw (i3 + 1)) (fun x5 => q_X4_place_L4 a0 a1 k n i2 x5 h)) else (zlet (zput h a1 6 i3) (fun h6 => zlet (zw (i3 + 1)) (fun x7 => q_X4_place_L4 a0 a1 k n x1 x7 h6)))))))
def q_X4_place (h : zH) (a_0 : Nat) (a_1 : Nat) : Option (Int × zH) := q_X4_place_L4 a_0 a_1 (fun x8 x9 h10 => if x8 = (-1) then (some (0, h10)) else (zlet (zput h10 a_1 7 x8) (fun h12 => zlet (zput h12 a_1 5 1) (fun h13 => if h13.1 a_1 9 = (-1) then (zlet (zput h13 a_1 9 (h13.1 a_0 0)) (fun h14 => some (1, h14))) else (some (1, h13)))))) zF ((-1)) 0 h
theorem cq_X4_place (w : zW) (l : Launch) (h : zH) (a_0 : Nat) (a_1 : Nat) : zCq w l yX4_place cX4_place 5 (some .boolean) 3 99 [.inr (4, a_0), .inr (0, a_1)] h qI (q_X4_place h a_0 a_1) := by
  refine zCq.of (own := RX4) (loc := [some (.inr (4, a_0)), some (.inr (0, a_1)), none, none, none]) (by decide) rfl (Nat.le_of_ble_eq_true rfl) (fun k v hk => ?_) ?_
  · exact zloc_ok 3 rfl hk
  intro p e s m args below meth c C Z1 Z2
  have L4 : ∀ (a0 : Nat) (a1 : Nat) (k : Int → Int → zH → Option (Int × zH)) (hk : ∀ (u4 : Option zv) (i2 : Int) (i3 : Int) (h : zH), zQV w p l e (zRm 3 99) s m args below meth c 5 qI (k i2 i3 h) 52 [some (.inr (4, a0)), some (.inr (0, a1)), some (.inl i2), some (.inl i3), u4] [] h) (n : Nat) (u4 : Option zv) (i2 : Int) (i3 : Int) (h : zH), zQV w p l e (zRm 3 99) s m args below meth c 5 qI (q_X4_place_L4 a0 a1 k n i2 i3 h) 4 [some (.inr (4, a0)), some (.inr (0, a1)), some (.inl i2), some (.inl i3), u4] [] h := by
    intro a0 a1 k hk n
    induction n with
    | zero =>
      intro u4 i2 i3 h
      exact q_none
    | succ n ih =>
      intro u4 i2 i3 h
      rw [q_X4_place_L4]
      refine q_iload_n C dX4_place_4 rfl ?_
      refine q_aload_n C dX4_place_5 rfl ?_
      refine q_getI C dX4_place_6 fl4_43 rfl ?_
      refine q_icmp_ge C dX4_place_9 (tgt := 52) (by decide) ?_ ?_
      · exact hk _ i2 i3 h
      · refine q_aload_n C dX4_place_12 rfl ?_
        refine q_aload_n C dX4_place_13 rfl ?_
        refine q_iload_n C dX4_place_14 rfl ?_
        refine q_iconst C dX4_place_15 rfl ?_
        refine q_pcallVI C dX4_place_16 mv4_188 (cq_X4_leastStart w l h _ _ _ _) rfl ⟨by decide, by decide⟩ ⟨rfl, Nat.le_of_ble_eq_true rfl⟩ (fun x1 => ?_)
        refine q_istore C dX4_place_19 (by decide) ?_
        refine q_iload C dX4_place_21 rfl ?_
        refine q_iconst C dX4_place_23 rfl ?_
        refine q_icmp_eq C dX4_place_24 (tgt := 46) (by decide) ?_ ?_
        · refine q_iincL C dX4_place_46 rfl (by decide) (fun x2 => ?_)
          refine q_goto C dX4_place_49 (tgt := 4) (by decide) ?_
          exact ih _ i2 x2 h
        · refine q_iload_n C dX4_place_27 rfl ?_
          refine q_iconst C dX4_place_28 rfl ?_
          refine q_icmp_eq C dX4_place_29 (tgt := 38) (by decide) ?_ ?_
          · refine q_iload C dX4_place_38 rfl ?_
            refine q_istore_n C dX4_place_40 (by decide) ?_
            refine q_aload_n C dX4_place_41 rfl ?_
            refine q_iload_n C dX4_place_42 rfl ?_
            refine q_putI C dX4_place_43 pl4_191 rfl (fun h3 => ?_)
            refine q_iincL C dX4_place_46 rfl (by decide) (fun x4 => ?_)
            refine q_goto C dX4_place_49 (tgt := 4) (by decide) ?_
            exact ih _ x1 x4 h3
          · refine q_iload C dX4_place_32 rfl ?_
            refine q_iload_n C dX4_place_34 rfl ?_
            refine q_icmp_ge C dX4_place_35 (tgt := 46) (by decide) ?_ ?_
            · refine q_iincL C dX4_place_46 rfl (by decide) (fun x5 => ?_)
              refine q_goto C dX4_place_49 (tgt := 4) (by decide) ?_
              exact ih _ i2 x5 h
            · refine q_iload C dX4_place_38 rfl ?_
              refine q_istore_n C dX4_place_40 (by decide) ?_
              refine q_aload_n C dX4_place_41 rfl ?_
              refine q_iload_n C dX4_place_42 rfl ?_
              refine q_putI C dX4_place_43 pl4_191 rfl (fun h6 => ?_)
              refine q_iincL C dX4_place_46 rfl (by decide) (fun x7 => ?_)
              refine q_goto C dX4_place_49 (tgt := 4) (by decide) ?_
              exact ih _ x1 x7 h6
  unfold q_X4_place
  refine q_iconst C dX4_place_0 rfl ?_
  refine q_istore_n C dX4_place_1 (by decide) ?_
  refine q_iconst C dX4_place_2 rfl ?_
  refine q_istore_n C dX4_place_3 (by decide) ?_
  refine L4 a_0 a_1 _ ?_ zF _ ((-1)) 0 h
  intro u11 x8 x9 h10
  refine q_iload_n C dX4_place_52 rfl ?_
  refine q_iconst C dX4_place_53 rfl ?_
  refine q_icmp_ne C dX4_place_54 (tgt := 59) (by decide) ?_ ?_
  · refine q_aload_n C dX4_place_59 rfl ?_
    refine q_iload_n C dX4_place_60 rfl ?_
    refine q_putI C dX4_place_61 pl4_168 rfl (fun h12 => ?_)
    refine q_aload_n C dX4_place_64 rfl ?_
    refine q_iconst C dX4_place_65 rfl ?_
    refine q_putI C dX4_place_66 pl4_108 rfl (fun h13 => ?_)
    refine q_aload_n C dX4_place_69 rfl ?_
    refine q_getI C dX4_place_70 fl4_114 rfl ?_
    refine q_iconst C dX4_place_73 rfl ?_
    refine q_icmp_ne C dX4_place_74 (tgt := 85) (by decide) ?_ ?_
    · refine q_iconst C dX4_place_85 rfl ?_
      exact q_zret C Z1 Z2 (Or.inr rfl) dX4_place_86
    · refine q_aload_n C dX4_place_77 rfl ?_
      refine q_aload_n C dX4_place_78 rfl ?_
      refine q_getI C dX4_place_79 fl4_39 rfl ?_
      refine q_putI C dX4_place_82 pl4_114 rfl (fun h14 => ?_)
      refine q_iconst C dX4_place_85 rfl ?_
      exact q_zret C Z1 Z2 (Or.inr rfl) dX4_place_86
  · refine q_iconst C dX4_place_57 rfl ?_
    exact q_zret C Z1 Z2 (Or.inl rfl) dX4_place_58
def q_X4_addCall (h : zH) (a_0 : Nat) (x_1 : Int) (x_2 : Int) (x_3 : Int) (x_4 : Int) (x_5 : Int) : Option (Unit × zH) := if 16 ≤ h.1 a_0 7 then (some ((), h)) else (zgi 16 (h.1 a_0 7) (zlet (h.2 (h.2 a_0 8) (h.1 a_0 7).toNat) (fun r1 => zlet (zput h a_0 7 (zw (h.1 a_0 7 + 1))) (fun h2 => zlet (zput h2 r1 0 x_1) (fun h3 => zlet (zput h3 r1 1 x_2) (fun h4 => zlet (zput h4 r1 2 x_3) (fun h5 => zlet (zput h5 r1 3 (zw (h5.1 (h5.2 a_0 2) 3 + x_4))) (fun h6 => zlet (zput h6 r1 4 x_5) (fun h7 => zlet (zput h7 r1 5 0) (fun h8 => zlet (zput h8 r1 8 (h8.1 a_0 0)) (fun h9 => zlet (zput h9 r1 9 ((-1))) (fun h10 => zlet (zput h10 r1 10 0) (fun h11 => zbd (q_X4_place h11 a_0 r1) (fun x12 h13 => some ((), h13)))))))))))))))
theorem cq_X4_addCall (w : zW) (l : Launch) (h : zH) (a_0 : Nat) (x_1 : Int) (x_2 : Int) (x_3 : Int) (x_4 : Int) (x_5 : Int) : zCq w l yX4_addCall cX4_addCall 7 none 4 123 [.inr (4, a_0), .inl x_1, .inl x_2, .inl x_3, .inl x_4, .inl x_5] h qU (q_X4_addCall h a_0 x_1 x_2 x_3 x_4 x_5) := by
  refine zCq.of (own := RX4) (loc := [some (.inr (4, a_0)), some (.inl x_1), some (.inl x_2), some (.inl x_3), some (.inl x_4), some (.inl x_5), none]) (by decide) rfl (Nat.le_of_ble_eq_true rfl) (fun k v hk => ?_) ?_
  · exact zloc_ok 1 rfl hk
  intro p e s m args below meth c C Z1 Z2
  unfold q_X4_addCall
  refine q_aload_n C dX4_addCall_0 rfl ?_
  refine q_getI C dX4_addCall_1 fl4_52 rfl ?_
  refine q_bipush C dX4_addCall_4 (by decide) rfl ?_
  refine q_icmp_ge C dX4_addCall_6 (tgt := 103) (by decide) ?_ ?_
  · exact q_vret C Z1 Z2 dX4_addCall_103
  · refine q_aload_n C dX4_addCall_9 rfl ?_
    refine q_getR C dX4_addCall_10 fl4_29 rfl ?_
    refine q_aload_n C dX4_addCall_13 rfl ?_
    refine q_getI C dX4_addCall_14 fl4_52 rfl ?_
    refine q_aald C dX4_addCall_17 ⟨by decide, by decide, _, rfl⟩ ?_
    refine q_astoreL C dX4_addCall_18 (by decide) (fun r1 => ?_)
    refine q_aload_n C dX4_addCall_20 rfl ?_
    refine q_dup C dX4_addCall_21 ?_
    refine q_getI C dX4_addCall_22 fl4_52 rfl ?_
    refine q_iconst C dX4_addCall_25 rfl ?_
    refine q_iadd C dX4_addCall_26 ?_
    refine q_putI C dX4_addCall_27 pl4_52 rfl (fun h2 => ?_)
    refine q_aload C dX4_addCall_30 rfl ?_
    refine q_iload_n C dX4_addCall_32 rfl ?_
    refine q_putI C dX4_addCall_33 pl4_93 rfl (fun h3 => ?_)
    refine q_aload C dX4_addCall_36 rfl ?_
    refine q_iload_n C dX4_addCall_38 rfl ?_
    refine q_putI C dX4_addCall_39 pl4_96 rfl (fun h4 => ?_)
    refine q_aload C dX4_addCall_42 rfl ?_
    refine q_iload_n C dX4_addCall_44 rfl ?_
    refine q_putI C dX4_addCall_45 pl4_99 rfl (fun h5 => ?_)
    refine q_aload C dX4_addCall_48 rfl ?_
    refine q_aload_n C dX4_addCall_50 rfl ?_
    refine q_getR C dX4_addCall_51 fl4_9 rfl ?_
    refine q_iconst C dX4_addCall_54 rfl ?_
    refine q_ialdN (j := 3) C dX4_addCall_55 ⟨by decide, by decide, rfl⟩ rfl (by decide) ?_
    refine q_iload C dX4_addCall_56 rfl ?_
    refine q_iadd C dX4_addCall_58 ?_
    refine q_putI C dX4_addCall_59 pl4_102 rfl (fun h6 => ?_)
    refine q_aload C dX4_addCall_62 rfl ?_
    refine q_iload C dX4_addCall_64 rfl ?_
    refine q_putI C dX4_addCall_66 pl4_105 rfl (fun h7 => ?_)
    refine q_aload C dX4_addCall_69 rfl ?_
    refine q_iconst C dX4_addCall_71 rfl ?_
    refine q_putI C dX4_addCall_72 pl4_108 rfl (fun h8 => ?_)
    refine q_aload C dX4_addCall_75 rfl ?_
    refine q_aload_n C dX4_addCall_77 rfl ?_
    refine q_getI C dX4_addCall_78 fl4_39 rfl ?_
    refine q_putI C dX4_addCall_81 pl4_111 rfl (fun h9 => ?_)
    refine q_aload C dX4_addCall_84 rfl ?_
    refine q_iconst C dX4_addCall_86 rfl ?_
    refine q_putI C dX4_addCall_87 pl4_114 rfl (fun h10 => ?_)
    refine q_aload C dX4_addCall_90 rfl ?_
    refine q_iconst C dX4_addCall_92 rfl ?_
    refine q_putI C dX4_addCall_93 pl4_117 rfl (fun h11 => ?_)
    refine q_aload_n C dX4_addCall_96 rfl ?_
    refine q_aload C dX4_addCall_97 rfl ?_
    refine q_callVI C dX4_addCall_99 mv4_120 (cq_X4_place w l h11 _ _) rfl ⟨by decide, by decide⟩ ⟨rfl, Nat.le_of_ble_eq_true rfl⟩ (fun x12 h13 => ?_)
    refine q_pop C dX4_addCall_102 ?_
    exact q_vret C Z1 Z2 dX4_addCall_103
def q_X4_tripOf (h : zH) (a_0 : Nat) (a_1 : Nat) : Option Int := zlet (h.1 (h.2 a_0 2) 0) (fun x1 => if x1 ≤ 0 then (some 0) else (zgz x1 (some (zw ((zw (zw (zw (2 * h.1 a_1 1) + x1) - 1)).tdiv x1)))))
theorem cq_X4_tripOf (w : zW) (l : Launch) (h : zH) (a_0 : Nat) (a_1 : Nat) : zCp w l yX4_tripOf cX4_tripOf 3 (some .int) 0 0 [.inr (4, a_0), .inr (5, a_1)] h qI (q_X4_tripOf h a_0 a_1) := by
  refine zCp.of (own := RX4) (loc := [some (.inr (4, a_0)), some (.inr (5, a_1)), none]) (by decide) rfl (Nat.le_of_ble_eq_true rfl) (fun k v hk => ?_) ?_
  · exact zloc_ok 1 rfl hk
  intro p e s m args below meth c C Z1 Z2
  unfold q_X4_tripOf
  refine p_aload_n C dX4_tripOf_0 rfl ?_
  refine p_getR C dX4_tripOf_1 fl4_9 rfl ?_
  refine p_iconst C dX4_tripOf_4 rfl ?_
  refine p_ialdN (j := 0) C dX4_tripOf_5 ⟨by decide, by decide, rfl⟩ rfl (by decide) ?_
  refine p_istore_nL C dX4_tripOf_6 (by decide) (fun x1 => ?_)
  refine p_iload_n C dX4_tripOf_7 rfl ?_
  refine p_if_le C dX4_tripOf_8 (tgt := 26) (by decide) ?_ ?_
  · refine p_iconst C dX4_tripOf_26 rfl ?_
    exact p_iret C Z1 Z2 dX4_tripOf_27
  · refine p_iconst C dX4_tripOf_11 rfl ?_
    refine p_aload_n C dX4_tripOf_12 rfl ?_
    refine p_getI C dX4_tripOf_13 fl4_124 rfl ?_
    refine p_imul C dX4_tripOf_16 ?_
    refine p_iload_n C dX4_tripOf_17 rfl ?_
    refine p_iadd C dX4_tripOf_18 ?_
    refine p_iconst C dX4_tripOf_19 rfl ?_
    refine p_isub C dX4_tripOf_20 ?_
    refine p_iload_n C dX4_tripOf_21 rfl ?_
    refine p_idiv C dX4_tripOf_22 ?_
    refine p_goto C dX4_tripOf_23 (tgt := 27) (by decide) ?_
    exact p_iret C Z1 Z2 dX4_tripOf_27
def q_X4_fadeIn_L5 (h : zH) (a0 : Nat) (i1 : Int) (i2 : Int) (k : Int → Int → Option Int) : Nat → Int → Int → Option Int
  | 0, _, _ => none
  | n + 1, i3, i4 => if h.1 a0 5 ≤ i4 then (k i3 i4) else (zgi 8 i4 (zlet (h.2 (h.2 a0 6) i4.toNat) (fun r1 => if h.1 r1 0 = i1 then (zbp (q_X7_inRange h i2 (h.1 r1 1) (h.1 r1 2)) (fun x3 => if x3 = 0 then (zlet (zw (i4 + 1)) (fun x4 => q_X4_fadeIn_L5 h a0 i1 i2 k n i3 x4)) else (zlet (zw (i3 + h.1 r1 3)) (fun x5 => zlet (zw (i4 + 1)) (fun x6 => q_X4_fadeIn_L5 h a0 i1 i2 k n x5 x6))))) else (zlet (zw (i4 + 1)) (fun x2 => q_X4_fadeIn_L5 h a0 i1 i2 k n i3 x2)))))
def q_X4_fadeIn (h : zH) (a_0 : Nat) (x_1 : Int) (x_2 : Int) : Option Int := q_X4_fadeIn_L5 h a_0 x_1 x_2 (fun x7 x8 => some x7) zF 0 0
theorem cq_X4_fadeIn (w : zW) (l : Launch) (h : zH) (a_0 : Nat) (x_1 : Int) (x_2 : Int) : zCp w l yX4_fadeIn cX4_fadeIn 6 (some .int) 1 22 [.inr (4, a_0), .inl x_1, .inl x_2] h qI (q_X4_fadeIn h a_0 x_1 x_2) := by
  refine zCp.of (own := RX4) (loc := [some (.inr (4, a_0)), some (.inl x_1), some (.inl x_2), none, none, none]) (by decide) rfl (Nat.le_of_ble_eq_true rfl) (fun k v hk => ?_) ?_
  · exact zloc_ok 3 rfl hk
  intro p e s m args below meth c C Z1 Z2
  have L5 : ∀ (a0 : Nat) (i1 : Int) (i2 : Int) (k : Int → Int → Option Int) (hk : ∀ (u5 : Option zv) (i3 : Int) (i4 : Int), zQP w p l e (zRm 1 22) s m args below meth c 6 qI (k i3 i4) 63 [some (.inr (4, a0)), some (.inl i1), some (.inl i2), some (.inl i3), some (.inl i4), u5] [] h) (n : Nat) (u5 : Option zv) (i3 : Int) (i4 : Int), zQP w p l e (zRm 1 22) s m args below meth c 6 qI (q_X4_fadeIn_L5 h a0 i1 i2 k n i3 i4) 5 [some (.inr (4, a0)), some (.inl i1), some (.inl i2), some (.inl i3), some (.inl i4), u5] [] h := by
    intro a0 i1 i2 k hk n
    induction n with
    | zero =>
      intro u5 i3 i4
      exact p_none
    | succ n ih =>
      intro u5 i3 i4
      rw [q_X4_fadeIn_L5]
      refine p_iload C dX4_fadeIn_5 rfl ?_
      refine p_aload_n C dX4_fadeIn_7 rfl ?_
      refine p_getI C dX4_fadeIn_8 fl4_49 rfl ?_
      refine p_icmp_ge C dX4_fadeIn_11 (tgt := 63) (by decide) ?_ ?_
      · exact hk _ i3 i4
      · refine p_aload_n C dX4_fadeIn_14 rfl ?_
        refine p_getR C dX4_fadeIn_15 fl4_23 rfl ?_
        refine p_iload C dX4_fadeIn_18 rfl ?_
        refine p_aald C dX4_fadeIn_20 ⟨by decide, by decide, _, rfl⟩ ?_
        refine p_astoreL C dX4_fadeIn_21 (by decide) (fun r1 => ?_)
        refine p_aload C dX4_fadeIn_23 rfl ?_
        refine p_getI C dX4_fadeIn_25 fl4_81 rfl ?_
        refine p_iload_n C dX4_fadeIn_28 rfl ?_
        refine p_icmp_ne C dX4_fadeIn_29 (tgt := 57) (by decide) ?_ ?_
        · refine p_iincL C dX4_fadeIn_57 rfl (by decide) (fun x2 => ?_)
          refine p_goto C dX4_fadeIn_60 (tgt := 5) (by decide) ?_
          exact ih _ i3 x2
        · refine p_iload_n C dX4_fadeIn_32 rfl ?_
          refine p_aload C dX4_fadeIn_33 rfl ?_
          refine p_getI C dX4_fadeIn_35 fl4_84 rfl ?_
          refine p_aload C dX4_fadeIn_38 rfl ?_
          refine p_getI C dX4_fadeIn_40 fl4_87 rfl ?_
          refine p_pcallNI C dX4_fadeIn_43 mn4_127 (cq_X7_inRange w l h _ _ _) rfl ⟨by decide, by decide⟩ ⟨rfl, Nat.le_of_ble_eq_true rfl⟩ (fun x3 => ?_)
          refine p_if_eq C dX4_fadeIn_46 (tgt := 57) (by decide) ?_ ?_
          · refine p_iincL C dX4_fadeIn_57 rfl (by decide) (fun x4 => ?_)
            refine p_goto C dX4_fadeIn_60 (tgt := 5) (by decide) ?_
            exact ih _ i3 x4
          · refine p_iload_n C dX4_fadeIn_49 rfl ?_
            refine p_aload C dX4_fadeIn_50 rfl ?_
            refine p_getI C dX4_fadeIn_52 fl4_90 rfl ?_
            refine p_iadd C dX4_fadeIn_55 ?_
            refine p_istore_nL C dX4_fadeIn_56 (by decide) (fun x5 => ?_)
            refine p_iincL C dX4_fadeIn_57 rfl (by decide) (fun x6 => ?_)
            refine p_goto C dX4_fadeIn_60 (tgt := 5) (by decide) ?_
            exact ih _ x5 x6
  unfold q_X4_fadeIn
  refine p_iconst C dX4_fadeIn_0 rfl ?_
  refine p_istore_n C dX4_fadeIn_1 (by decide) ?_
  refine p_iconst C dX4_fadeIn_2 rfl ?_
  refine p_istore C dX4_fadeIn_3 (by decide) ?_
  refine L5 a_0 x_1 x_2 _ ?_ zF _ 0 0
  intro u9 x7 x8
  refine p_iload_n C dX4_fadeIn_63 rfl ?_
  exact p_iret C Z1 Z2 dX4_fadeIn_64
def q_X4_nextPower (h : zH) (a_0 : Nat) (x_1 : Int) (x_2 : Int) (x_3 : Int) : Option Int := zlet (h.1 (h.2 a_0 2) 5) (fun x1 => zgi 6 x_1 (zbp (q_X4_fadeIn h a_0 x_1 x_3) (fun x2 => zgi 6 x_1 (zlet (zmin (zw (h.1 (h.2 (h.2 a_0 4) x_1.toNat) 3 + x2)) (h.1 (h.2 (h.2 a_0 4) x_1.toNat) 4)) (fun x3 => some (zw (x_2 + zmax (zw (-x1)) (zmin x1 (zw (x3 - x_2))))))))))
theorem cq_X4_nextPower (w : zW) (l : Launch) (h : zH) (a_0 : Nat) (x_1 : Int) (x_2 : Int) (x_3 : Int) : zCp w l yX4_nextPower cX4_nextPower 6 (some .int) 2 72 [.inr (4, a_0), .inl x_1, .inl x_2, .inl x_3] h qI (q_X4_nextPower h a_0 x_1 x_2 x_3) := by
  refine zCp.of (own := RX4) (loc := [some (.inr (4, a_0)), some (.inl x_1), some (.inl x_2), some (.inl x_3), none, none]) (by decide) rfl (Nat.le_of_ble_eq_true rfl) (fun k v hk => ?_) ?_
  · exact zloc_ok 2 rfl hk
  intro p e s m args below meth c C Z1 Z2
  unfold q_X4_nextPower
  refine p_aload_n C dX4_nextPower_0 rfl ?_
  refine p_getR C dX4_nextPower_1 fl4_9 rfl ?_
  refine p_iconst C dX4_nextPower_4 rfl ?_
  refine p_ialdN (j := 5) C dX4_nextPower_5 ⟨by decide, by decide, rfl⟩ rfl (by decide) ?_
  refine p_istoreL C dX4_nextPower_6 (by decide) (fun x1 => ?_)
  refine p_aload_n C dX4_nextPower_8 rfl ?_
  refine p_getR C dX4_nextPower_9 fl4_17 rfl ?_
  refine p_iload_n C dX4_nextPower_12 rfl ?_
  refine p_aald C dX4_nextPower_13 ⟨by decide, by decide, _, rfl⟩ ?_
  refine p_getI C dX4_nextPower_14 fl4_131 rfl ?_
  refine p_aload_n C dX4_nextPower_17 rfl ?_
  refine p_iload_n C dX4_nextPower_18 rfl ?_
  refine p_iload_n C dX4_nextPower_19 rfl ?_
  refine p_pcallVI C dX4_nextPower_20 mv4_134 (cq_X4_fadeIn w l h _ _ _) rfl ⟨by decide, by decide⟩ ⟨rfl, Nat.le_of_ble_eq_true rfl⟩ (fun x2 => ?_)
  refine p_iadd C dX4_nextPower_23 ?_
  refine p_aload_n C dX4_nextPower_24 rfl ?_
  refine p_getR C dX4_nextPower_25 fl4_17 rfl ?_
  refine p_iload_n C dX4_nextPower_28 rfl ?_
  refine p_aald C dX4_nextPower_29 ⟨by decide, by decide, _, rfl⟩ ?_
  refine p_getI C dX4_nextPower_30 fl4_138 rfl ?_
  refine p_mmin C dX4_nextPower_33 (zmem 1057 (by decide +kernel)) ⟨by decide, Nat.le_of_ble_eq_true rfl⟩ ?_
  refine p_istoreL C dX4_nextPower_36 (by decide) (fun x3 => ?_)
  refine p_iload_n C dX4_nextPower_38 rfl ?_
  refine p_iload C dX4_nextPower_39 rfl ?_
  refine p_ineg C dX4_nextPower_41 ?_
  refine p_iload C dX4_nextPower_42 rfl ?_
  refine p_iload C dX4_nextPower_44 rfl ?_
  refine p_iload_n C dX4_nextPower_46 rfl ?_
  refine p_isub C dX4_nextPower_47 ?_
  refine p_mmin C dX4_nextPower_48 (zmem 1057 (by decide +kernel)) ⟨by decide, Nat.le_of_ble_eq_true rfl⟩ ?_
  refine p_mmax C dX4_nextPower_51 (zmem 957 (by decide +kernel)) ⟨by decide, Nat.le_of_ble_eq_true rfl⟩ ?_
  refine p_iadd C dX4_nextPower_54 ?_
  exact p_iret C Z1 Z2 dX4_nextPower_55
def q_X4_marginWith (h : zH) (a_0 : Nat) (a_1 : Nat) (x_2 : Int) (x_3 : Int) : Option Int := zbp (q_X4_fadeIn h a_0 (h.1 a_1 0) x_3) (fun x1 => zbp (q_X4_fadeIn h a_0 (h.1 a_1 1) x_3) (fun x2 => some (zw (zw (zw (x_2 - x1) - x2) - h.1 (h.2 a_0 2) 4))))
theorem cq_X4_marginWith (w : zW) (l : Launch) (h : zH) (a_0 : Nat) (a_1 : Nat) (x_2 : Int) (x_3 : Int) : zCp w l yX4_marginWith cX4_marginWith 4 (some .int) 2 47 [.inr (4, a_0), .inr (0, a_1), .inl x_2, .inl x_3] h qI (q_X4_marginWith h a_0 a_1 x_2 x_3) := by
  refine zCp.of (own := RX4) (loc := [some (.inr (4, a_0)), some (.inr (0, a_1)), some (.inl x_2), some (.inl x_3)]) (by decide) rfl (Nat.le_of_ble_eq_true rfl) (fun k v hk => ?_) ?_
  · exact zloc_ok 0 rfl hk
  intro p e s m args below meth c C Z1 Z2
  unfold q_X4_marginWith
  refine p_iload_n C dX4_marginWith_0 rfl ?_
  refine p_aload_n C dX4_marginWith_1 rfl ?_
  refine p_aload_n C dX4_marginWith_2 rfl ?_
  refine p_getI C dX4_marginWith_3 fl4_93 rfl ?_
  refine p_iload_n C dX4_marginWith_6 rfl ?_
  refine p_pcallVI C dX4_marginWith_7 mv4_134 (cq_X4_fadeIn w l h _ _ _) rfl ⟨by decide, by decide⟩ ⟨rfl, Nat.le_of_ble_eq_true rfl⟩ (fun x1 => ?_)
  refine p_isub C dX4_marginWith_10 ?_
  refine p_aload_n C dX4_marginWith_11 rfl ?_
  refine p_aload_n C dX4_marginWith_12 rfl ?_
  refine p_getI C dX4_marginWith_13 fl4_96 rfl ?_
  refine p_iload_n C dX4_marginWith_16 rfl ?_
  refine p_pcallVI C dX4_marginWith_17 mv4_134 (cq_X4_fadeIn w l h _ _ _) rfl ⟨by decide, by decide⟩ ⟨rfl, Nat.le_of_ble_eq_true rfl⟩ (fun x2 => ?_)
  refine p_isub C dX4_marginWith_20 ?_
  refine p_aload_n C dX4_marginWith_21 rfl ?_
  refine p_getR C dX4_marginWith_22 fl4_9 rfl ?_
  refine p_iconst C dX4_marginWith_25 rfl ?_
  refine p_ialdN (j := 4) C dX4_marginWith_26 ⟨by decide, by decide, rfl⟩ rfl (by decide) ?_
  refine p_isub C dX4_marginWith_27 ?_
  exact p_iret C Z1 Z2 dX4_marginWith_28
def q_X4_presentMargin (h : zH) (a_0 : Nat) (a_1 : Nat) : Option Int := zgi 6 (h.1 a_1 0) (zbp (q_X4_marginWith h a_0 a_1 (h.1 (h.2 (h.2 a_0 4) (h.1 a_1 0).toNat) 5) (h.1 a_0 0)) (fun x1 => some x1))
theorem cq_X4_presentMargin (w : zW) (l : Launch) (h : zH) (a_0 : Nat) (a_1 : Nat) : zCp w l yX4_presentMargin cX4_presentMargin 2 (some .int) 3 70 [.inr (4, a_0), .inr (0, a_1)] h qI (q_X4_presentMargin h a_0 a_1) := by
  refine zCp.of (own := RX4) (loc := [some (.inr (4, a_0)), some (.inr (0, a_1))]) (by decide) rfl (Nat.le_of_ble_eq_true rfl) (fun k v hk => ?_) ?_
  · exact zloc_ok 0 rfl hk
  intro p e s m args below meth c C Z1 Z2
  unfold q_X4_presentMargin
  refine p_aload_n C dX4_presentMargin_0 rfl ?_
  refine p_aload_n C dX4_presentMargin_1 rfl ?_
  refine p_aload_n C dX4_presentMargin_2 rfl ?_
  refine p_getR C dX4_presentMargin_3 fl4_17 rfl ?_
  refine p_aload_n C dX4_presentMargin_6 rfl ?_
  refine p_getI C dX4_presentMargin_7 fl4_93 rfl ?_
  refine p_aald C dX4_presentMargin_10 ⟨by decide, by decide, _, rfl⟩ ?_
  refine p_getI C dX4_presentMargin_11 fl4_149 rfl ?_
  refine p_aload_n C dX4_presentMargin_14 rfl ?_
  refine p_getI C dX4_presentMargin_15 fl4_39 rfl ?_
  refine p_pcallVI C dX4_presentMargin_18 mv4_152 (cq_X4_marginWith w l h _ _ _ _) rfl ⟨by decide, by decide⟩ ⟨rfl, Nat.le_of_ble_eq_true rfl⟩ (fun x1 => ?_)
  exact p_iret C Z1 Z2 dX4_presentMargin_21
def q_X4_degradedAmong_L4 (h : zH) (a0 : Nat) (i1 : Int) (k : Int → Int → Option Int) : Nat → Int → Int → Option Int
  | 0, _, _ => none
  | n + 1, i2, i3 => if h.1 a0 7 ≤ i3 then (k i2 i3) else (zbp (q_X4_isIn h i1 i3) (fun x1 => if x1 = 0 then (zlet (zw (i3 + 1)) (fun x2 => q_X4_degradedAmong_L4 h a0 i1 k n i2 x2)) else (zgi 16 i3 (zbp (q_X4_presentMargin h a0 (h.2 (h.2 a0 8) i3.toNat)) (fun x3 => if 0 ≤ x3 then (zlet (zw (i3 + 1)) (fun x4 => q_X4_degradedAmong_L4 h a0 i1 k n i2 x4)) else (zlet (zor i2 (zshl 1 i3)) (fun x5 => zlet (zw (i3 + 1)) (fun x6 => q_X4_degradedAmong_L4 h a0 i1 k n x5 x6))))))))
def q_X4_degradedAmong (h : zH) (a_0 : Nat) (x_1 : Int) : Option Int := q_X4_degradedAmong_L4 h a_0 x_1 (fun x7 x8 => some x7) zF 0 0
theorem cq_X4_degradedAmong (w : zW) (l : Launch) (h : zH) (a_0 : Nat) (x_1 : Int) : zCp w l yX4_degradedAmong cX4_degradedAmong 4 (some .int) 4 91 [.inr (4, a_0), .inl x_1] h qI (q_X4_degradedAmong h a_0 x_1) := by
  refine zCp.of (own := RX4) (loc := [some (.inr (4, a_0)), some (.inl x_1), none, none]) (by decide) rfl (Nat.le_of_ble_eq_true rfl) (fun k v hk => ?_) ?_
  · exact zloc_ok 2 rfl hk
  intro p e s m args below meth c C Z1 Z2
  have L4 : ∀ (a0 : Nat) (i1 : Int) (k : Int → Int → Option Int) (hk : ∀ (i2 : Int) (i3 : Int), zQP w p l e (zRm 4 91) s m args below meth c 4 qI (k i2 i3) 45 [some (.inr (4, a0)), some (.inl i1), some (.inl i2), some (.inl i3)] [] h) (n : Nat) (i2 : Int) (i3 : Int), zQP w p l e (zRm 4 91) s m args below meth c 4 qI (q_X4_degradedAmong_L4 h a0 i1 k n i2 i3) 4 [some (.inr (4, a0)), some (.inl i1), some (.inl i2), some (.inl i3)] [] h := by
    intro a0 i1 k hk n
    induction n with
    | zero =>
      intro i2 i3
      exact p_none
    | succ n ih =>
      intro i2 i3
      rw [q_X4_degradedAmong_L4]
      refine p_iload_n C dX4_degradedAmong_4 rfl ?_
      refine p_aload_n C dX4_degradedAmong_5 rfl ?_
      refine p_getI C dX4_degradedAmong_6 fl4_52 rfl ?_
      refine p_icmp_ge C dX4_degradedAmong_9 (tgt := 45) (by decide) ?_ ?_
      · exact hk i2 i3
      · refine p_iload_n C dX4_degradedAmong_12 rfl ?_
        refine p_iload_n C dX4_degradedAmong_13 rfl ?_
        refine p_pcallSI C dX4_degradedAmong_14 ms4_156 (cq_X4_isIn w l h _ _) rfl ⟨by decide, by decide⟩ ⟨rfl, Nat.le_of_ble_eq_true rfl⟩ (fun x1 => ?_)
        refine p_if_eq C dX4_degradedAmong_17 (tgt := 39) (by decide) ?_ ?_
        · refine p_iincL C dX4_degradedAmong_39 rfl (by decide) (fun x2 => ?_)
          refine p_goto C dX4_degradedAmong_42 (tgt := 4) (by decide) ?_
          exact ih i2 x2
        · refine p_aload_n C dX4_degradedAmong_20 rfl ?_
          refine p_aload_n C dX4_degradedAmong_21 rfl ?_
          refine p_getR C dX4_degradedAmong_22 fl4_29 rfl ?_
          refine p_iload_n C dX4_degradedAmong_25 rfl ?_
          refine p_aald C dX4_degradedAmong_26 ⟨by decide, by decide, _, rfl⟩ ?_
          refine p_pcallVI C dX4_degradedAmong_27 mv4_160 (cq_X4_presentMargin w l h _ _) rfl ⟨by decide, by decide⟩ ⟨rfl, Nat.le_of_ble_eq_true rfl⟩ (fun x3 => ?_)
          refine p_if_ge C dX4_degradedAmong_30 (tgt := 39) (by decide) ?_ ?_
          · refine p_iincL C dX4_degradedAmong_39 rfl (by decide) (fun x4 => ?_)
            refine p_goto C dX4_degradedAmong_42 (tgt := 4) (by decide) ?_
            exact ih i2 x4
          · refine p_iload_n C dX4_degradedAmong_33 rfl ?_
            refine p_iconst C dX4_degradedAmong_34 rfl ?_
            refine p_iload_n C dX4_degradedAmong_35 rfl ?_
            refine p_ishl C dX4_degradedAmong_36 ?_
            refine p_ior C dX4_degradedAmong_37 ?_
            refine p_istore_nL C dX4_degradedAmong_38 (by decide) (fun x5 => ?_)
            refine p_iincL C dX4_degradedAmong_39 rfl (by decide) (fun x6 => ?_)
            refine p_goto C dX4_degradedAmong_42 (tgt := 4) (by decide) ?_
            exact ih x5 x6
  unfold q_X4_degradedAmong
  refine p_iconst C dX4_degradedAmong_0 rfl ?_
  refine p_istore_n C dX4_degradedAmong_1 (by decide) ?_
  refine p_iconst C dX4_degradedAmong_2 rfl ?_
  refine p_istore_n C dX4_degradedAmong_3 (by decide) ?_
  refine L4 a_0 x_1 _ ?_ zF 0 0
  intro x7 x8
  refine p_iload_n C dX4_degradedAmong_45 rfl ?_
  exact p_iret C Z1 Z2 dX4_degradedAmong_46
def q_X4_callsIn_L4 (h : zH) (a0 : Nat) (i1 : Int) (k : Int → Int → Option Int) : Nat → Int → Int → Option Int
  | 0, _, _ => none
  | n + 1, i2, i3 => if h.1 a0 7 ≤ i3 then (k i2 i3) else (zgi 16 i3 (if h.1 (h.2 (h.2 a0 8) i3.toNat) 5 = i1 then (zlet (zor i2 (zshl 1 i3)) (fun x2 => zlet (zw (i3 + 1)) (fun x3 => q_X4_callsIn_L4 h a0 i1 k n x2 x3))) else (zlet (zw (i3 + 1)) (fun x1 => q_X4_callsIn_L4 h a0 i1 k n i2 x1))))
def q_X4_callsIn (h : zH) (a_0 : Nat) (x_1 : Int) : Option Int := q_X4_callsIn_L4 h a_0 x_1 (fun x4 x5 => some x4) zF 0 0
theorem cq_X4_callsIn (w : zW) (l : Launch) (h : zH) (a_0 : Nat) (x_1 : Int) : zCp w l yX4_callsIn cX4_callsIn 4 (some .int) 0 0 [.inr (4, a_0), .inl x_1] h qI (q_X4_callsIn h a_0 x_1) := by
  refine zCp.of (own := RX4) (loc := [some (.inr (4, a_0)), some (.inl x_1), none, none]) (by decide) rfl (Nat.le_of_ble_eq_true rfl) (fun k v hk => ?_) ?_
  · exact zloc_ok 2 rfl hk
  intro p e s m args below meth c C Z1 Z2
  have L4 : ∀ (a0 : Nat) (i1 : Int) (k : Int → Int → Option Int) (hk : ∀ (i2 : Int) (i3 : Int), zQP w p l e (zRm 0 0) s m args below meth c 4 qI (k i2 i3) 37 [some (.inr (4, a0)), some (.inl i1), some (.inl i2), some (.inl i3)] [] h) (n : Nat) (i2 : Int) (i3 : Int), zQP w p l e (zRm 0 0) s m args below meth c 4 qI (q_X4_callsIn_L4 h a0 i1 k n i2 i3) 4 [some (.inr (4, a0)), some (.inl i1), some (.inl i2), some (.inl i3)] [] h := by
    intro a0 i1 k hk n
    induction n with
    | zero =>
      intro i2 i3
      exact p_none
    | succ n ih =>
      intro i2 i3
      rw [q_X4_callsIn_L4]
      refine p_iload_n C dX4_callsIn_4 rfl ?_
      refine p_aload_n C dX4_callsIn_5 rfl ?_
      refine p_getI C dX4_callsIn_6 fl4_52 rfl ?_
      refine p_icmp_ge C dX4_callsIn_9 (tgt := 37) (by decide) ?_ ?_
      · exact hk i2 i3
      · refine p_aload_n C dX4_callsIn_12 rfl ?_
        refine p_getR C dX4_callsIn_13 fl4_29 rfl ?_
        refine p_iload_n C dX4_callsIn_16 rfl ?_
        refine p_aald C dX4_callsIn_17 ⟨by decide, by decide, _, rfl⟩ ?_
        refine p_getI C dX4_callsIn_18 fl4_108 rfl ?_
        refine p_iload_n C dX4_callsIn_21 rfl ?_
        refine p_icmp_ne C dX4_callsIn_22 (tgt := 31) (by decide) ?_ ?_
        · refine p_iincL C dX4_callsIn_31 rfl (by decide) (fun x1 => ?_)
          refine p_goto C dX4_callsIn_34 (tgt := 4) (by decide) ?_
          exact ih i2 x1
        · refine p_iload_n C dX4_callsIn_25 rfl ?_
          refine p_iconst C dX4_callsIn_26 rfl ?_
          refine p_iload_n C dX4_callsIn_27 rfl ?_
          refine p_ishl C dX4_callsIn_28 ?_
          refine p_ior C dX4_callsIn_29 ?_
          refine p_istore_nL C dX4_callsIn_30 (by decide) (fun x2 => ?_)
          refine p_iincL C dX4_callsIn_31 rfl (by decide) (fun x3 => ?_)
          refine p_goto C dX4_callsIn_34 (tgt := 4) (by decide) ?_
          exact ih x2 x3
  unfold q_X4_callsIn
  refine p_iconst C dX4_callsIn_0 rfl ?_
  refine p_istore_n C dX4_callsIn_1 (by decide) ?_
  refine p_iconst C dX4_callsIn_2 rfl ?_
  refine p_istore_n C dX4_callsIn_3 (by decide) ?_
  refine L4 a_0 x_1 _ ?_ zF 0 0
  intro x4 x5
  refine p_iload_n C dX4_callsIn_37 rfl ?_
  exact p_iret C Z1 Z2 dX4_callsIn_38
def q_X4_firstInOrder_L4 (h : zH) (a0 : Nat) (i1 : Int) (k : Int → Int → Option Int) : Nat → Int → Int → Option Int
  | 0, _, _ => none
  | n + 1, i2, i3 => if h.1 a0 7 ≤ i3 then (k i2 i3) else (zbp (q_X4_isIn h i1 i3) (fun x1 => if x1 = 0 then (zlet (zw (i3 + 1)) (fun x2 => q_X4_firstInOrder_L4 h a0 i1 k n i2 x2)) else (if i2 = (-1) then (zlet (zw (i3 + 1)) (fun x3 => q_X4_firstInOrder_L4 h a0 i1 k n i3 x3)) else (zgi 16 i3 (zgi 16 i2 (if h.1 (h.2 (h.2 a0 8) i3.toNat) 2 ≤ h.1 (h.2 (h.2 a0 8) i2.toNat) 2 then (zlet (zw (i3 + 1)) (fun x4 => q_X4_firstInOrder_L4 h a0 i1 k n i2 x4)) else (zlet (zw (i3 + 1)) (fun x5 => q_X4_firstInOrder_L4 h a0 i1 k n i3 x5))))))))
def q_X4_firstInOrder (h : zH) (a_0 : Nat) (x_1 : Int) : Option Int := q_X4_firstInOrder_L4 h a_0 x_1 (fun x6 x7 => some x6) zF ((-1)) 0
theorem cq_X4_firstInOrder (w : zW) (l : Launch) (h : zH) (a_0 : Nat) (x_1 : Int) : zCp w l yX4_firstInOrder cX4_firstInOrder 4 (some .int) 1 21 [.inr (4, a_0), .inl x_1] h qI (q_X4_firstInOrder h a_0 x_1) := by
  refine zCp.of (own := RX4) (loc := [some (.inr (4, a_0)), some (.inl x_1), none, none]) (by decide) rfl (Nat.le_of_ble_eq_true rfl) (fun k v hk => ?_) ?_
  · exact zloc_ok 2 rfl hk
  intro p e s m args below meth c C Z1 Z2
  have L4 : ∀ (a0 : Nat) (i1 : Int) (k : Int → Int → Option Int) (hk : ∀ (i2 : Int) (i3 : Int), zQP w p l e (zRm 1 21) s m args below meth c 4 qI (k i2 i3) 54 [some (.inr (4, a0)), some (.inl i1), some (.inl i2), some (.inl i3)] [] h) (n : Nat) (i2 : Int) (i3 : Int), zQP w p l e (zRm 1 21) s m args below meth c 4 qI (q_X4_firstInOrder_L4 h a0 i1 k n i2 i3) 4 [some (.inr (4, a0)), some (.inl i1), some (.inl i2), some (.inl i3)] [] h := by
    intro a0 i1 k hk n
    induction n with
    | zero =>
      intro i2 i3
      exact p_none
    | succ n ih =>
      intro i2 i3
      rw [q_X4_firstInOrder_L4]
      refine p_iload_n C dX4_firstInOrder_4 rfl ?_
      refine p_aload_n C dX4_firstInOrder_5 rfl ?_
      refine p_getI C dX4_firstInOrder_6 fl4_52 rfl ?_
      refine p_icmp_ge C dX4_firstInOrder_9 (tgt := 54) (by decide) ?_ ?_
      · exact hk i2 i3
      · refine p_iload_n C dX4_firstInOrder_12 rfl ?_
        refine p_iload_n C dX4_firstInOrder_13 rfl ?_
        refine p_pcallSI C dX4_firstInOrder_14 ms4_156 (cq_X4_isIn w l h _ _) rfl ⟨by decide, by decide⟩ ⟨rfl, Nat.le_of_ble_eq_true rfl⟩ (fun x1 => ?_)
        refine p_if_eq C dX4_firstInOrder_17 (tgt := 48) (by decide) ?_ ?_
        · refine p_iincL C dX4_firstInOrder_48 rfl (by decide) (fun x2 => ?_)
          refine p_goto C dX4_firstInOrder_51 (tgt := 4) (by decide) ?_
          exact ih i2 x2
        · refine p_iload_n C dX4_firstInOrder_20 rfl ?_
          refine p_iconst C dX4_firstInOrder_21 rfl ?_
          refine p_icmp_eq C dX4_firstInOrder_22 (tgt := 46) (by decide) ?_ ?_
          · refine p_iload_n C dX4_firstInOrder_46 rfl ?_
            refine p_istore_n C dX4_firstInOrder_47 (by decide) ?_
            refine p_iincL C dX4_firstInOrder_48 rfl (by decide) (fun x3 => ?_)
            refine p_goto C dX4_firstInOrder_51 (tgt := 4) (by decide) ?_
            exact ih i3 x3
          · refine p_aload_n C dX4_firstInOrder_25 rfl ?_
            refine p_getR C dX4_firstInOrder_26 fl4_29 rfl ?_
            refine p_iload_n C dX4_firstInOrder_29 rfl ?_
            refine p_aald C dX4_firstInOrder_30 ⟨by decide, by decide, _, rfl⟩ ?_
            refine p_getI C dX4_firstInOrder_31 fl4_99 rfl ?_
            refine p_aload_n C dX4_firstInOrder_34 rfl ?_
            refine p_getR C dX4_firstInOrder_35 fl4_29 rfl ?_
            refine p_iload_n C dX4_firstInOrder_38 rfl ?_
            refine p_aald C dX4_firstInOrder_39 ⟨by decide, by decide, _, rfl⟩ ?_
            refine p_getI C dX4_firstInOrder_40 fl4_99 rfl ?_
            refine p_icmp_le C dX4_firstInOrder_43 (tgt := 48) (by decide) ?_ ?_
            · refine p_iincL C dX4_firstInOrder_48 rfl (by decide) (fun x4 => ?_)
              refine p_goto C dX4_firstInOrder_51 (tgt := 4) (by decide) ?_
              exact ih i2 x4
            · refine p_iload_n C dX4_firstInOrder_46 rfl ?_
              refine p_istore_n C dX4_firstInOrder_47 (by decide) ?_
              refine p_iincL C dX4_firstInOrder_48 rfl (by decide) (fun x5 => ?_)
              refine p_goto C dX4_firstInOrder_51 (tgt := 4) (by decide) ?_
              exact ih i3 x5
  unfold q_X4_firstInOrder
  refine p_iconst C dX4_firstInOrder_0 rfl ?_
  refine p_istore_n C dX4_firstInOrder_1 (by decide) ?_
  refine p_iconst C dX4_firstInOrder_2 rfl ?_
  refine p_istore_n C dX4_firstInOrder_3 (by decide) ?_
  refine L4 a_0 x_1 _ ?_ zF ((-1)) 0
  intro x6 x7
  refine p_iload_n C dX4_firstInOrder_54 rfl ?_
  exact p_iret C Z1 Z2 dX4_firstInOrder_55
def q_X4_burstsBefore_L5 (h : zH) (a0 : Nat) (i1 : Int) (i2 : Int) (k : Int → Int → Option Int) : Nat → Int → Int → Option Int
  | 0, _, _ => none
  | n + 1, i3, i4 => if h.1 a0 7 ≤ i4 then (k i3 i4) else (zgi 16 i4 (zbp (q_X0_isOn h (h.2 (h.2 a0 8) i4.toNat) i1) (fun x1 => if x1 = 0 then (zlet (zw (i4 + 1)) (fun x2 => q_X4_burstsBefore_L5 h a0 i1 i2 k n i3 x2)) else (zgi 16 i4 (if i2 ≤ h.1 (h.2 (h.2 a0 8) i4.toNat) 7 then (zlet (zw (i4 + 1)) (fun x3 => q_X4_burstsBefore_L5 h a0 i1 i2 k n i3 x3)) else (zlet (zw (i3 + 1)) (fun x4 => zlet (zw (i4 + 1)) (fun x5 => q_X4_burstsBefore_L5 h a0 i1 i2 k n x4 x5))))))))
def q_X4_burstsBefore (h : zH) (a_0 : Nat) (x_1 : Int) (x_2 : Int) : Option Int := q_X4_burstsBefore_L5 h a_0 x_1 x_2 (fun x6 x7 => some x6) zF 0 0
theorem cq_X4_burstsBefore (w : zW) (l : Launch) (h : zH) (a_0 : Nat) (x_1 : Int) (x_2 : Int) : zCp w l yX4_burstsBefore cX4_burstsBefore 5 (some .int) 1 21 [.inr (4, a_0), .inl x_1, .inl x_2] h qI (q_X4_burstsBefore h a_0 x_1 x_2) := by
  refine zCp.of (own := RX4) (loc := [some (.inr (4, a_0)), some (.inl x_1), some (.inl x_2), none, none]) (by decide) rfl (Nat.le_of_ble_eq_true rfl) (fun k v hk => ?_) ?_
  · exact zloc_ok 2 rfl hk
  intro p e s m args below meth c C Z1 Z2
  have L5 : ∀ (a0 : Nat) (i1 : Int) (i2 : Int) (k : Int → Int → Option Int) (hk : ∀ (i3 : Int) (i4 : Int), zQP w p l e (zRm 1 21) s m args below meth c 5 qI (k i3 i4) 51 [some (.inr (4, a0)), some (.inl i1), some (.inl i2), some (.inl i3), some (.inl i4)] [] h) (n : Nat) (i3 : Int) (i4 : Int), zQP w p l e (zRm 1 21) s m args below meth c 5 qI (q_X4_burstsBefore_L5 h a0 i1 i2 k n i3 i4) 5 [some (.inr (4, a0)), some (.inl i1), some (.inl i2), some (.inl i3), some (.inl i4)] [] h := by
    intro a0 i1 i2 k hk n
    induction n with
    | zero =>
      intro i3 i4
      exact p_none
    | succ n ih =>
      intro i3 i4
      rw [q_X4_burstsBefore_L5]
      refine p_iload C dX4_burstsBefore_5 rfl ?_
      refine p_aload_n C dX4_burstsBefore_7 rfl ?_
      refine p_getI C dX4_burstsBefore_8 fl4_52 rfl ?_
      refine p_icmp_ge C dX4_burstsBefore_11 (tgt := 51) (by decide) ?_ ?_
      · exact hk i3 i4
      · refine p_aload_n C dX4_burstsBefore_14 rfl ?_
        refine p_getR C dX4_burstsBefore_15 fl4_29 rfl ?_
        refine p_iload C dX4_burstsBefore_18 rfl ?_
        refine p_aald C dX4_burstsBefore_20 ⟨by decide, by decide, _, rfl⟩ ?_
        refine p_iload_n C dX4_burstsBefore_21 rfl ?_
        refine p_pcallVI C dX4_burstsBefore_22 mv4_164 (cq_X0_isOn w l h _ _) rfl ⟨by decide, by decide⟩ ⟨rfl, Nat.le_of_ble_eq_true rfl⟩ (fun x1 => ?_)
        refine p_if_eq C dX4_burstsBefore_25 (tgt := 45) (by decide) ?_ ?_
        · refine p_iincL C dX4_burstsBefore_45 rfl (by decide) (fun x2 => ?_)
          refine p_goto C dX4_burstsBefore_48 (tgt := 5) (by decide) ?_
          exact ih i3 x2
        · refine p_aload_n C dX4_burstsBefore_28 rfl ?_
          refine p_getR C dX4_burstsBefore_29 fl4_29 rfl ?_
          refine p_iload C dX4_burstsBefore_32 rfl ?_
          refine p_aald C dX4_burstsBefore_34 ⟨by decide, by decide, _, rfl⟩ ?_
          refine p_getI C dX4_burstsBefore_35 fl4_168 rfl ?_
          refine p_iload_n C dX4_burstsBefore_38 rfl ?_
          refine p_icmp_ge C dX4_burstsBefore_39 (tgt := 45) (by decide) ?_ ?_
          · refine p_iincL C dX4_burstsBefore_45 rfl (by decide) (fun x3 => ?_)
            refine p_goto C dX4_burstsBefore_48 (tgt := 5) (by decide) ?_
            exact ih i3 x3
          · refine p_iincL C dX4_burstsBefore_42 rfl (by decide) (fun x4 => ?_)
            refine p_iincL C dX4_burstsBefore_45 rfl (by decide) (fun x5 => ?_)
            refine p_goto C dX4_burstsBefore_48 (tgt := 5) (by decide) ?_
            exact ih x4 x5
  unfold q_X4_burstsBefore
  refine p_iconst C dX4_burstsBefore_0 rfl ?_
  refine p_istore_n C dX4_burstsBefore_1 (by decide) ?_
  refine p_iconst C dX4_burstsBefore_2 rfl ?_
  refine p_istore C dX4_burstsBefore_3 (by decide) ?_
  refine L5 a_0 x_1 x_2 _ ?_ zF 0 0
  intro x6 x7
  refine p_iload_n C dX4_burstsBefore_51 rfl ?_
  exact p_iret C Z1 Z2 dX4_burstsBefore_52
def q_X4_placeInOrder_L7 (a0 : Nat) (k : Int → Int → Int → zH → Option (Int × zH)) : Nat → Int → Int → Int → zH → Option (Int × zH)
  | 0, _, _, _, _ => none
  | n + 1, i2, i3, i4, h => if h.1 a0 7 ≤ i4 then (k i2 i3 i4 h) else (zbp (q_X4_firstInOrder h a0 i2) (fun x1 => if x1 = (-1) then (k i2 i3 i4 h) else (zlet (zand i2 (zxor (zshl 1 x1) ((-1)))) (fun x2 => zgi 16 x1 (zbd (q_X4_place h a0 (h.2 (h.2 a0 8) x1.toNat)) (fun x3 h4 => if x3 = 0 then (zlet (zw (i4 + 1)) (fun x5 => q_X4_placeInOrder_L7 a0 k n x2 i3 x5 h4)) else (zlet (zw (i3 + 1)) (fun x6 => zlet (zw (i4 + 1)) (fun x7 => q_X4_placeInOrder_L7 a0 k n x2 x6 x7 h4)))))))))
def q_X4_placeInOrder (h : zH) (a_0 : Nat) (x_1 : Int) : Option (Int × zH) := q_X4_placeInOrder_L7 a_0 (fun x8 x9 x10 h11 => some (x9, h11)) zF x_1 0 0 h
theorem cq_X4_placeInOrder (w : zW) (l : Launch) (h : zH) (a_0 : Nat) (x_1 : Int) : zCq w l yX4_placeInOrder cX4_placeInOrder 6 (some .int) 4 123 [.inr (4, a_0), .inl x_1] h qI (q_X4_placeInOrder h a_0 x_1) := by
  refine zCq.of (own := RX4) (loc := [some (.inr (4, a_0)), some (.inl x_1), none, none, none, none]) (by decide) rfl (Nat.le_of_ble_eq_true rfl) (fun k v hk => ?_) ?_
  · exact zloc_ok 4 rfl hk
  intro p e s m args below meth c C Z1 Z2
  have L7 : ∀ (a0 : Nat) (k : Int → Int → Int → zH → Option (Int × zH)) (hk : ∀ (u1 u5 : Option zv) (i2 : Int) (i3 : Int) (i4 : Int) (h : zH), zQV w p l e (zRm 4 123) s m args below meth c 6 qI (k i2 i3 i4 h) 64 [some (.inr (4, a0)), u1, some (.inl i2), some (.inl i3), some (.inl i4), u5] [] h) (n : Nat) (u1 u5 : Option zv) (i2 : Int) (i3 : Int) (i4 : Int) (h : zH), zQV w p l e (zRm 4 123) s m args below meth c 6 qI (q_X4_placeInOrder_L7 a0 k n i2 i3 i4 h) 7 [some (.inr (4, a0)), u1, some (.inl i2), some (.inl i3), some (.inl i4), u5] [] h := by
    intro a0 k hk n
    induction n with
    | zero =>
      intro u1 u5 i2 i3 i4 h
      exact q_none
    | succ n ih =>
      intro u1 u5 i2 i3 i4 h
      rw [q_X4_placeInOrder_L7]
      refine q_iload C dX4_placeInOrder_7 rfl ?_
      refine q_aload_n C dX4_placeInOrder_9 rfl ?_
      refine q_getI C dX4_placeInOrder_10 fl4_52 rfl ?_
      refine q_icmp_ge C dX4_placeInOrder_13 (tgt := 64) (by decide) ?_ ?_
      · exact hk _ _ i2 i3 i4 h
      · refine q_aload_n C dX4_placeInOrder_16 rfl ?_
        refine q_iload_n C dX4_placeInOrder_17 rfl ?_
        refine q_pcallVI C dX4_placeInOrder_18 mv4_194 (cq_X4_firstInOrder w l h _ _) rfl ⟨by decide, by decide⟩ ⟨rfl, Nat.le_of_ble_eq_true rfl⟩ (fun x1 => ?_)
        refine q_istore C dX4_placeInOrder_21 (by decide) ?_
        refine q_iload C dX4_placeInOrder_23 rfl ?_
        refine q_iconst C dX4_placeInOrder_25 rfl ?_
        refine q_icmp_ne C dX4_placeInOrder_26 (tgt := 32) (by decide) ?_ ?_
        · refine q_iload_n C dX4_placeInOrder_32 rfl ?_
          refine q_iconst C dX4_placeInOrder_33 rfl ?_
          refine q_iload C dX4_placeInOrder_34 rfl ?_
          refine q_ishl C dX4_placeInOrder_36 ?_
          refine q_iconst C dX4_placeInOrder_37 rfl ?_
          refine q_ixor C dX4_placeInOrder_38 ?_
          refine q_iand C dX4_placeInOrder_39 ?_
          refine q_istore_nL C dX4_placeInOrder_40 (by decide) (fun x2 => ?_)
          refine q_aload_n C dX4_placeInOrder_41 rfl ?_
          refine q_aload_n C dX4_placeInOrder_42 rfl ?_
          refine q_getR C dX4_placeInOrder_43 fl4_29 rfl ?_
          refine q_iload C dX4_placeInOrder_46 rfl ?_
          refine q_aald C dX4_placeInOrder_48 ⟨by decide, by decide, _, rfl⟩ ?_
          refine q_callVI C dX4_placeInOrder_49 mv4_120 (cq_X4_place w l h _ _) rfl ⟨by decide, by decide⟩ ⟨rfl, Nat.le_of_ble_eq_true rfl⟩ (fun x3 h4 => ?_)
          refine q_if_eq C dX4_placeInOrder_52 (tgt := 58) (by decide) ?_ ?_
          · refine q_iincL C dX4_placeInOrder_58 rfl (by decide) (fun x5 => ?_)
            refine q_goto C dX4_placeInOrder_61 (tgt := 7) (by decide) ?_
            exact ih _ _ x2 i3 x5 h4
          · refine q_iincL C dX4_placeInOrder_55 rfl (by decide) (fun x6 => ?_)
            refine q_iincL C dX4_placeInOrder_58 rfl (by decide) (fun x7 => ?_)
            refine q_goto C dX4_placeInOrder_61 (tgt := 7) (by decide) ?_
            exact ih _ _ x2 x6 x7 h4
        · refine q_goto C dX4_placeInOrder_29 (tgt := 64) (by decide) ?_
          exact hk _ _ i2 i3 i4 h
  unfold q_X4_placeInOrder
  refine q_iload_n C dX4_placeInOrder_0 rfl ?_
  refine q_istore_n C dX4_placeInOrder_1 (by decide) ?_
  refine q_iconst C dX4_placeInOrder_2 rfl ?_
  refine q_istore_n C dX4_placeInOrder_3 (by decide) ?_
  refine q_iconst C dX4_placeInOrder_4 rfl ?_
  refine q_istore C dX4_placeInOrder_5 (by decide) ?_
  refine L7 a_0 _ ?_ zF _ _ x_1 0 0 h
  intro u12 u13 x8 x9 x10 h11
  refine q_iload_n C dX4_placeInOrder_64 rfl ?_
  exact q_iret C Z1 Z2 dX4_placeInOrder_65
def q_X4_assignAnew_L2 (a0 : Nat) (i1 : Int) (k : Int → zH → Option (Int × zH)) : Nat → Int → zH → Option (Int × zH)
  | 0, _, _ => none
  | n + 1, i2, h => if h.1 a0 7 ≤ i2 then (k i2 h) else (zbp (q_X4_isIn h i1 i2) (fun x1 => if x1 = 0 then (zlet (zw (i2 + 1)) (fun x2 => q_X4_assignAnew_L2 a0 i1 k n x2 h)) else (zgi 16 i2 (zlet (zput h (h.2 (h.2 a0 8) i2.toNat) 5 0) (fun h3 => zlet (zw (i2 + 1)) (fun x4 => q_X4_assignAnew_L2 a0 i1 k n x4 h3))))))
def q_X4_assignAnew (h : zH) (a_0 : Nat) (x_1 : Int) : Option (Int × zH) := q_X4_assignAnew_L2 a_0 x_1 (fun x5 h6 => zbd (q_X4_placeInOrder h6 a_0 x_1) (fun x7 h8 => zbp (q_J6_bitCount x_1) (fun x9 => if x7 = x9 then (some (1, h8)) else (some (0, h8))))) zF 0 h
theorem cq_X4_assignAnew (w : zW) (l : Launch) (h : zH) (a_0 : Nat) (x_1 : Int) : zCq w l yX4_assignAnew cX4_assignAnew 3 (some .boolean) 5 148 [.inr (4, a_0), .inl x_1] h qI (q_X4_assignAnew h a_0 x_1) := by
  refine zCq.of (own := RX4) (loc := [some (.inr (4, a_0)), some (.inl x_1), none]) (by decide) rfl (Nat.le_of_ble_eq_true rfl) (fun k v hk => ?_) ?_
  · exact zloc_ok 1 rfl hk
  intro p e s m args below meth c C Z1 Z2
  have L2 : ∀ (a0 : Nat) (i1 : Int) (k : Int → zH → Option (Int × zH)) (hk : ∀ (i2 : Int) (h : zH), zQV w p l e (zRm 5 148) s m args below meth c 3 qI (k i2 h) 34 [some (.inr (4, a0)), some (.inl i1), some (.inl i2)] [] h) (n : Nat) (i2 : Int) (h : zH), zQV w p l e (zRm 5 148) s m args below meth c 3 qI (q_X4_assignAnew_L2 a0 i1 k n i2 h) 2 [some (.inr (4, a0)), some (.inl i1), some (.inl i2)] [] h := by
    intro a0 i1 k hk n
    induction n with
    | zero =>
      intro i2 h
      exact q_none
    | succ n ih =>
      intro i2 h
      rw [q_X4_assignAnew_L2]
      refine q_iload_n C dX4_assignAnew_2 rfl ?_
      refine q_aload_n C dX4_assignAnew_3 rfl ?_
      refine q_getI C dX4_assignAnew_4 fl4_52 rfl ?_
      refine q_icmp_ge C dX4_assignAnew_7 (tgt := 34) (by decide) ?_ ?_
      · exact hk i2 h
      · refine q_iload_n C dX4_assignAnew_10 rfl ?_
        refine q_iload_n C dX4_assignAnew_11 rfl ?_
        refine q_pcallSI C dX4_assignAnew_12 ms4_156 (cq_X4_isIn w l h _ _) rfl ⟨by decide, by decide⟩ ⟨rfl, Nat.le_of_ble_eq_true rfl⟩ (fun x1 => ?_)
        refine q_if_eq C dX4_assignAnew_15 (tgt := 28) (by decide) ?_ ?_
        · refine q_iincL C dX4_assignAnew_28 rfl (by decide) (fun x2 => ?_)
          refine q_goto C dX4_assignAnew_31 (tgt := 2) (by decide) ?_
          exact ih x2 h
        · refine q_aload_n C dX4_assignAnew_18 rfl ?_
          refine q_getR C dX4_assignAnew_19 fl4_29 rfl ?_
          refine q_iload_n C dX4_assignAnew_22 rfl ?_
          refine q_aald C dX4_assignAnew_23 ⟨by decide, by decide, _, rfl⟩ ?_
          refine q_iconst C dX4_assignAnew_24 rfl ?_
          refine q_putI C dX4_assignAnew_25 pl4_108 rfl (fun h3 => ?_)
          refine q_iincL C dX4_assignAnew_28 rfl (by decide) (fun x4 => ?_)
          refine q_goto C dX4_assignAnew_31 (tgt := 2) (by decide) ?_
          exact ih x4 h3
  unfold q_X4_assignAnew
  refine q_iconst C dX4_assignAnew_0 rfl ?_
  refine q_istore_n C dX4_assignAnew_1 (by decide) ?_
  refine L2 a_0 x_1 _ ?_ zF 0 h
  intro x5 h6
  refine q_aload_n C dX4_assignAnew_34 rfl ?_
  refine q_iload_n C dX4_assignAnew_35 rfl ?_
  refine q_callVI C dX4_assignAnew_36 mv4_198 (cq_X4_placeInOrder w l h6 _ _) rfl ⟨by decide, by decide⟩ ⟨rfl, Nat.le_of_ble_eq_true rfl⟩ (fun x7 h8 => ?_)
  refine q_iload_n C dX4_assignAnew_39 rfl ?_
  refine q_pcallSI (j := 1) C dX4_assignAnew_40 ⟨zmem 1108 (by decide +kernel), zmem 1109 (by decide +kernel), zmem 39 (by decide +kernel), zmem 1110 (by decide +kernel), ⟨by decide, by decide⟩, by decide +kernel⟩ (cq_J6_bitCount w l h8 _) rfl ⟨by decide, by decide⟩ ⟨rfl, Nat.le_of_ble_eq_true rfl⟩ (fun x9 => ?_)
  refine q_icmp_ne C dX4_assignAnew_43 (tgt := 50) (by decide) ?_ ?_
  · refine q_iconst C dX4_assignAnew_50 rfl ?_
    exact q_zret C Z1 Z2 (Or.inl rfl) dX4_assignAnew_51
  · refine q_iconst C dX4_assignAnew_46 rfl ?_
    refine q_goto C dX4_assignAnew_47 (tgt := 51) (by decide) ?_
    exact q_zret C Z1 Z2 (Or.inr rfl) dX4_assignAnew_51
def q_X5_errorIn (h : zH) (a_0 : Nat) (x_1 : Int) : Option Int := zgi 64 (zand x_1 63) (some (h.1 (h.2 a_0 7) (zand x_1 63).toNat))
theorem cq_X5_errorIn (w : zW) (l : Launch) (h : zH) (a_0 : Nat) (x_1 : Int) : zCp w l yX5_errorIn cX5_errorIn 2 (some .int) 0 0 [.inr (5, a_0), .inl x_1] h qI (q_X5_errorIn h a_0 x_1) := by
  refine zCp.of (own := RX5) (loc := [some (.inr (5, a_0)), some (.inl x_1)]) (by decide) rfl (Nat.le_of_ble_eq_true rfl) (fun k v hk => ?_) ?_
  · exact zloc_ok 0 rfl hk
  intro p e s m args below meth c C Z1 Z2
  unfold q_X5_errorIn
  refine p_aload_n C dX5_errorIn_0 rfl ?_
  refine p_getR C dX5_errorIn_1 fl5_11 rfl ?_
  refine p_iload_n C dX5_errorIn_4 rfl ?_
  refine p_bipush C dX5_errorIn_5 (by decide) rfl ?_
  refine p_iand C dX5_errorIn_7 ?_
  refine p_iald C dX5_errorIn_8 ⟨by decide, by decide, rfl⟩ ?_
  exact p_iret C Z1 Z2 dX5_errorIn_9
def q_X5_keepTime (h : zH) (a_0 : Nat) (x_1 : Int) (x_2 : Int) (x_3 : Int) : Option (Unit × zH) := zlet (zw (zw (x_1 - 1) - x_2)) (fun x1 => if 0 ≤ x1 then (zbp (q_X5_errorIn h a_0 x1) (fun x2 => zgz 100 (zlet (zw ((zw (x2 * x_3)).tdiv 100)) (fun x3 => zbp (q_X5_errorIn h a_0 (zw (x_1 - 1))) (fun x4 => zlet (zw (zw (x4 + h.1 a_0 2) - x3)) (fun x5 => zgi 64 (zand x_1 63) (zlet (zput h (h.2 a_0 7) (zand x_1 63).toNat (zmax (-100000) (zmin 100000 x5))) (fun h6 => some ((), h6))))))))) else (zbp (q_X5_errorIn h a_0 (zw (x_1 - 1))) (fun x7 => zlet (zw (zw (x7 + h.1 a_0 2) - 0)) (fun x8 => zgi 64 (zand x_1 63) (zlet (zput h (h.2 a_0 7) (zand x_1 63).toNat (zmax (-100000) (zmin 100000 x8))) (fun h9 => some ((), h9)))))))
theorem cq_X5_keepTime (w : zW) (l : Launch) (h : zH) (a_0 : Nat) (x_1 : Int) (x_2 : Int) (x_3 : Int) : zCq w l yX5_keepTime cX5_keepTime 7 none 1 72 [.inr (5, a_0), .inl x_1, .inl x_2, .inl x_3] h qU (q_X5_keepTime h a_0 x_1 x_2 x_3) := by
  refine zCq.of (own := RX5) (loc := [some (.inr (5, a_0)), some (.inl x_1), some (.inl x_2), some (.inl x_3), none, none, none]) (by decide) rfl (Nat.le_of_ble_eq_true rfl) (fun k v hk => ?_) ?_
  · exact zloc_ok 3 rfl hk
  intro p e s m args below meth c C Z1 Z2
  unfold q_X5_keepTime
  refine q_iload_n C dX5_keepTime_0 rfl ?_
  refine q_iconst C dX5_keepTime_1 rfl ?_
  refine q_isub C dX5_keepTime_2 ?_
  refine q_iload_n C dX5_keepTime_3 rfl ?_
  refine q_isub C dX5_keepTime_4 ?_
  refine q_istoreL C dX5_keepTime_5 (by decide) (fun x1 => ?_)
  refine q_iload C dX5_keepTime_7 rfl ?_
  refine q_if_ge C dX5_keepTime_9 (tgt := 16) (by decide) ?_ ?_
  · refine q_aload_n C dX5_keepTime_16 rfl ?_
    refine q_iload C dX5_keepTime_17 rfl ?_
    refine q_pcallVI C dX5_keepTime_19 mv5_46 (cq_X5_errorIn w l h _ _) rfl ⟨by decide, by decide⟩ ⟨rfl, Nat.le_of_ble_eq_true rfl⟩ (fun x2 => ?_)
    refine q_iload_n C dX5_keepTime_22 rfl ?_
    refine q_imul C dX5_keepTime_23 ?_
    refine q_bipush C dX5_keepTime_24 (by decide) rfl ?_
    refine q_idiv C dX5_keepTime_26 ?_
    refine q_istoreL C dX5_keepTime_27 (by decide) (fun x3 => ?_)
    refine q_aload_n C dX5_keepTime_29 rfl ?_
    refine q_iload_n C dX5_keepTime_30 rfl ?_
    refine q_iconst C dX5_keepTime_31 rfl ?_
    refine q_isub C dX5_keepTime_32 ?_
    refine q_pcallVI C dX5_keepTime_33 mv5_46 (cq_X5_errorIn w l h _ _) rfl ⟨by decide, by decide⟩ ⟨rfl, Nat.le_of_ble_eq_true rfl⟩ (fun x4 => ?_)
    refine q_aload_n C dX5_keepTime_36 rfl ?_
    refine q_getI C dX5_keepTime_37 fl5_22 rfl ?_
    refine q_iadd C dX5_keepTime_40 ?_
    refine q_iload C dX5_keepTime_41 rfl ?_
    refine q_isub C dX5_keepTime_43 ?_
    refine q_istoreL C dX5_keepTime_44 (by decide) (fun x5 => ?_)
    refine q_aload_n C dX5_keepTime_46 rfl ?_
    refine q_getR C dX5_keepTime_47 fl5_11 rfl ?_
    refine q_iload_n C dX5_keepTime_50 rfl ?_
    refine q_bipush C dX5_keepTime_51 (by decide) rfl ?_
    refine q_iand C dX5_keepTime_53 ?_
    refine q_ldc (n := -100000) C dX5_keepTime_54 (zmem 1048 (by decide +kernel)) rfl ?_
    refine q_ldc (n := 100000) C dX5_keepTime_56 (zmem 1049 (by decide +kernel)) rfl ?_
    refine q_iload C dX5_keepTime_58 rfl ?_
    refine q_mmin C dX5_keepTime_60 (zmem 1050 (by decide +kernel)) ⟨by decide, Nat.le_of_ble_eq_true rfl⟩ ?_
    refine q_mmax C dX5_keepTime_63 (zmem 1051 (by decide +kernel)) ⟨by decide, Nat.le_of_ble_eq_true rfl⟩ ?_
    refine q_iast C dX5_keepTime_66 ⟨by decide, by decide, rfl⟩ (fun h6 => ?_)
    exact q_vret C Z1 Z2 dX5_keepTime_67
  · refine q_iconst C dX5_keepTime_12 rfl ?_
    refine q_goto C dX5_keepTime_13 (tgt := 27) (by decide) ?_
    refine q_istore C dX5_keepTime_27 (by decide) ?_
    refine q_aload_n C dX5_keepTime_29 rfl ?_
    refine q_iload_n C dX5_keepTime_30 rfl ?_
    refine q_iconst C dX5_keepTime_31 rfl ?_
    refine q_isub C dX5_keepTime_32 ?_
    refine q_pcallVI C dX5_keepTime_33 mv5_46 (cq_X5_errorIn w l h _ _) rfl ⟨by decide, by decide⟩ ⟨rfl, Nat.le_of_ble_eq_true rfl⟩ (fun x7 => ?_)
    refine q_aload_n C dX5_keepTime_36 rfl ?_
    refine q_getI C dX5_keepTime_37 fl5_22 rfl ?_
    refine q_iadd C dX5_keepTime_40 ?_
    refine q_iload C dX5_keepTime_41 rfl ?_
    refine q_isub C dX5_keepTime_43 ?_
    refine q_istoreL C dX5_keepTime_44 (by decide) (fun x8 => ?_)
    refine q_aload_n C dX5_keepTime_46 rfl ?_
    refine q_getR C dX5_keepTime_47 fl5_11 rfl ?_
    refine q_iload_n C dX5_keepTime_50 rfl ?_
    refine q_bipush C dX5_keepTime_51 (by decide) rfl ?_
    refine q_iand C dX5_keepTime_53 ?_
    refine q_ldc (n := -100000) C dX5_keepTime_54 (zmem 1048 (by decide +kernel)) rfl ?_
    refine q_ldc (n := 100000) C dX5_keepTime_56 (zmem 1049 (by decide +kernel)) rfl ?_
    refine q_iload C dX5_keepTime_58 rfl ?_
    refine q_mmin C dX5_keepTime_60 (zmem 1050 (by decide +kernel)) ⟨by decide, Nat.le_of_ble_eq_true rfl⟩ ?_
    refine q_mmax C dX5_keepTime_63 (zmem 1051 (by decide +kernel)) ⟨by decide, Nat.le_of_ble_eq_true rfl⟩ ?_
    refine q_iast C dX5_keepTime_66 ⟨by decide, by decide, rfl⟩ (fun h9 => ?_)
    exact q_vret C Z1 Z2 dX5_keepTime_67
def q_X4_endAndServe_L4 (a0 : Nat) (k : Int → Int → zH → Option (Unit × zH)) : Nat → Int → Int → zH → Option (Unit × zH)
  | 0, _, _, _ => none
  | n + 1, i1, i2, h => if h.1 a0 7 ≤ i2 then (k i1 i2 h) else (zgi 16 i2 (if h.1 (h.2 (h.2 a0 8) i2.toNat) 5 = 1 then (zgi 16 i2 (zbp (q_X0_endFrame h (h.2 (h.2 a0 8) i2.toNat)) (fun x2 => if h.1 a0 0 < x2 then (zlet (zw (i2 + 1)) (fun x3 => q_X4_endAndServe_L4 a0 k n i1 x3 h)) else (zgi 16 i2 (zlet (zput h (h.2 (h.2 a0 8) i2.toNat) 5 2) (fun h4 => zlet (zw (i2 + 1)) (fun x5 => q_X4_endAndServe_L4 a0 k n 1 x5 h4))))))) else (zlet (zw (i2 + 1)) (fun x1 => q_X4_endAndServe_L4 a0 k n i1 x1 h))))
def q_X4_endAndServe (h : zH) (a_0 : Nat) : Option (Unit × zH) := q_X4_endAndServe_L4 a_0 (fun x6 x7 h8 => if x6 = 0 then (some ((), h8)) else (zbp (q_X4_callsIn h8 a_0 0) (fun x9 => zbd (q_X4_placeInOrder h8 a_0 x9) (fun x10 h11 => some ((), h11))))) zF 0 0 h
theorem cq_X4_endAndServe (w : zW) (l : Launch) (h : zH) (a_0 : Nat) : zCq w l yX4_endAndServe cX4_endAndServe 3 none 5 148 [.inr (4, a_0)] h qU (q_X4_endAndServe h a_0) := by
  refine zCq.of (own := RX4) (loc := [some (.inr (4, a_0)), none, none]) (by decide) rfl (Nat.le_of_ble_eq_true rfl) (fun k v hk => ?_) ?_
  · exact zloc_ok 2 rfl hk
  intro p e s m args below meth c C Z1 Z2
  have L4 : ∀ (a0 : Nat) (k : Int → Int → zH → Option (Unit × zH)) (hk : ∀ (i1 : Int) (i2 : Int) (h : zH), zQV w p l e (zRm 5 148) s m args below meth c 3 qU (k i1 i2 h) 59 [some (.inr (4, a0)), some (.inl i1), some (.inl i2)] [] h) (n : Nat) (i1 : Int) (i2 : Int) (h : zH), zQV w p l e (zRm 5 148) s m args below meth c 3 qU (q_X4_endAndServe_L4 a0 k n i1 i2 h) 4 [some (.inr (4, a0)), some (.inl i1), some (.inl i2)] [] h := by
    intro a0 k hk n
    induction n with
    | zero =>
      intro i1 i2 h
      exact q_none
    | succ n ih =>
      intro i1 i2 h
      rw [q_X4_endAndServe_L4]
      refine q_iload_n C dX4_endAndServe_4 rfl ?_
      refine q_aload_n C dX4_endAndServe_5 rfl ?_
      refine q_getI C dX4_endAndServe_6 fl4_52 rfl ?_
      refine q_icmp_ge C dX4_endAndServe_9 (tgt := 59) (by decide) ?_ ?_
      · exact hk i1 i2 h
      · refine q_aload_n C dX4_endAndServe_12 rfl ?_
        refine q_getR C dX4_endAndServe_13 fl4_29 rfl ?_
        refine q_iload_n C dX4_endAndServe_16 rfl ?_
        refine q_aald C dX4_endAndServe_17 ⟨by decide, by decide, _, rfl⟩ ?_
        refine q_getI C dX4_endAndServe_18 fl4_108 rfl ?_
        refine q_iconst C dX4_endAndServe_21 rfl ?_
        refine q_icmp_ne C dX4_endAndServe_22 (tgt := 53) (by decide) ?_ ?_
        · refine q_iincL C dX4_endAndServe_53 rfl (by decide) (fun x1 => ?_)
          refine q_goto C dX4_endAndServe_56 (tgt := 4) (by decide) ?_
          exact ih i1 x1 h
        · refine q_aload_n C dX4_endAndServe_25 rfl ?_
          refine q_getR C dX4_endAndServe_26 fl4_29 rfl ?_
          refine q_iload_n C dX4_endAndServe_29 rfl ?_
          refine q_aald C dX4_endAndServe_30 ⟨by decide, by decide, _, rfl⟩ ?_
          refine q_pcallVI C dX4_endAndServe_31 mv4_238 (cq_X0_endFrame w l h _) rfl ⟨by decide, by decide⟩ ⟨rfl, Nat.le_of_ble_eq_true rfl⟩ (fun x2 => ?_)
          refine q_aload_n C dX4_endAndServe_34 rfl ?_
          refine q_getI C dX4_endAndServe_35 fl4_39 rfl ?_
          refine q_icmp_gt C dX4_endAndServe_38 (tgt := 53) (by decide) ?_ ?_
          · refine q_iincL C dX4_endAndServe_53 rfl (by decide) (fun x3 => ?_)
            refine q_goto C dX4_endAndServe_56 (tgt := 4) (by decide) ?_
            exact ih i1 x3 h
          · refine q_aload_n C dX4_endAndServe_41 rfl ?_
            refine q_getR C dX4_endAndServe_42 fl4_29 rfl ?_
            refine q_iload_n C dX4_endAndServe_45 rfl ?_
            refine q_aald C dX4_endAndServe_46 ⟨by decide, by decide, _, rfl⟩ ?_
            refine q_iconst C dX4_endAndServe_47 rfl ?_
            refine q_putI C dX4_endAndServe_48 pl4_108 rfl (fun h4 => ?_)
            refine q_iconst C dX4_endAndServe_51 rfl ?_
            refine q_istore_n C dX4_endAndServe_52 (by decide) ?_
            refine q_iincL C dX4_endAndServe_53 rfl (by decide) (fun x5 => ?_)
            refine q_goto C dX4_endAndServe_56 (tgt := 4) (by decide) ?_
            exact ih 1 x5 h4
  unfold q_X4_endAndServe
  refine q_iconst C dX4_endAndServe_0 rfl ?_
  refine q_istore_n C dX4_endAndServe_1 (by decide) ?_
  refine q_iconst C dX4_endAndServe_2 rfl ?_
  refine q_istore_n C dX4_endAndServe_3 (by decide) ?_
  refine L4 a_0 _ ?_ zF 0 0 h
  intro x6 x7 h8
  refine q_iload_n C dX4_endAndServe_59 rfl ?_
  refine q_if_eq C dX4_endAndServe_60 (tgt := 73) (by decide) ?_ ?_
  · exact q_vret C Z1 Z2 dX4_endAndServe_73
  · refine q_aload_n C dX4_endAndServe_63 rfl ?_
    refine q_aload_n C dX4_endAndServe_64 rfl ?_
    refine q_iconst C dX4_endAndServe_65 rfl ?_
    refine q_pcallVI C dX4_endAndServe_66 mv4_228 (cq_X4_callsIn w l h8 _ _) rfl ⟨by decide, by decide⟩ ⟨rfl, Nat.le_of_ble_eq_true rfl⟩ (fun x9 => ?_)
    refine q_callVI C dX4_endAndServe_69 mv4_198 (cq_X4_placeInOrder w l h8 _ _) rfl ⟨by decide, by decide⟩ ⟨rfl, Nat.le_of_ble_eq_true rfl⟩ (fun x10 h11 => ?_)
    refine q_pop C dX4_endAndServe_72 ?_
    exact q_vret C Z1 Z2 dX4_endAndServe_73
def q_X5_isOutOfTime (h : zH) (a_0 : Nat) (x_1 : Int) (x_2 : Int) : Option Int := zbp (q_X5_errorIn h a_0 x_1) (fun x1 => if zw (zabs x1 * 2) ≤ x_2 then (some 0) else (some 1))
theorem cq_X5_isOutOfTime (w : zW) (l : Launch) (h : zH) (a_0 : Nat) (x_1 : Int) (x_2 : Int) : zCp w l yX5_isOutOfTime cX5_isOutOfTime 3 (some .boolean) 1 72 [.inr (5, a_0), .inl x_1, .inl x_2] h qI (q_X5_isOutOfTime h a_0 x_1 x_2) := by
  refine zCp.of (own := RX5) (loc := [some (.inr (5, a_0)), some (.inl x_1), some (.inl x_2)]) (by decide) rfl (Nat.le_of_ble_eq_true rfl) (fun k v hk => ?_) ?_
  · exact zloc_ok 0 rfl hk
  intro p e s m args below meth c C Z1 Z2
  unfold q_X5_isOutOfTime
  refine p_aload_n C dX5_isOutOfTime_0 rfl ?_
  refine p_iload_n C dX5_isOutOfTime_1 rfl ?_
  refine p_pcallVI C dX5_isOutOfTime_2 mv5_46 (cq_X5_errorIn w l h _ _) rfl ⟨by decide, by decide⟩ ⟨rfl, Nat.le_of_ble_eq_true rfl⟩ (fun x1 => ?_)
  refine p_mabs C dX5_isOutOfTime_5 (zmem 1088 (by decide +kernel)) ⟨by decide, Nat.le_of_ble_eq_true rfl⟩ ?_
  refine p_iconst C dX5_isOutOfTime_8 rfl ?_
  refine p_imul C dX5_isOutOfTime_9 ?_
  refine p_iload_n C dX5_isOutOfTime_10 rfl ?_
  refine p_icmp_le C dX5_isOutOfTime_11 (tgt := 18) (by decide) ?_ ?_
  · refine p_iconst C dX5_isOutOfTime_18 rfl ?_
    exact p_zret C Z1 Z2 (Or.inl rfl) dX5_isOutOfTime_19
  · refine p_iconst C dX5_isOutOfTime_14 rfl ?_
    refine p_goto C dX5_isOutOfTime_15 (tgt := 19) (by decide) ?_
    exact p_zret C Z1 Z2 (Or.inr rfl) dX5_isOutOfTime_19
def q_X4_countTroubles_L11 (a0 : Nat) (i1 : Int) (i2 : Int) (k : Int → Int → zH → Option (Unit × zH)) : Nat → Int → Int → zH → Option (Unit × zH)
  | 0, _, _, _ => none
  | n + 1, i3, i4, h => if h.1 a0 7 ≤ i4 then (k i3 i4 h) else (zbp (q_X4_isIn h i1 i4) (fun x2 => if x2 = 0 then (zbp (q_X4_isIn h i2 i4) (fun x3 => if x3 = 0 then (zlet (zw (i4 + 1)) (fun x4 => q_X4_countTroubles_L11 a0 i1 i2 k n i3 x4 h)) else (zgi 16 i4 (zlet (zput h (h.2 (h.2 a0 8) i4.toNat) 10 (zw (h.1 (h.2 (h.2 a0 8) i4.toNat) 10 + 1))) (fun h5 => zlet (zw (i4 + 1)) (fun x6 => q_X4_countTroubles_L11 a0 i1 i2 k n i3 x6 h5)))))) else (zgi 16 i4 (zlet (zor i3 (zshl 1 (h.1 (h.2 (h.2 a0 8) i4.toNat) 0))) (fun x7 => zbp (q_X4_isIn h i2 i4) (fun x8 => if x8 = 0 then (zlet (zw (i4 + 1)) (fun x9 => q_X4_countTroubles_L11 a0 i1 i2 k n x7 x9 h)) else (zgi 16 i4 (zlet (zput h (h.2 (h.2 a0 8) i4.toNat) 10 (zw (h.1 (h.2 (h.2 a0 8) i4.toNat) 10 + 1))) (fun h10 => zlet (zw (i4 + 1)) (fun x11 => q_X4_countTroubles_L11 a0 i1 i2 k n x7 x11 h10))))))))))
def q_X4_countTroubles_L78 (a0 : Nat) (i3 : Int) (k : Int → zH → Option (Unit × zH)) : Nat → Int → zH → Option (Unit × zH)
  | 0, _, _ => none
  | n + 1, i4, h => if h.1 a0 3 ≤ i4 then (k i4 h) else (zbp (q_X4_isIn h i3 i4) (fun x15 => if x15 = 0 then (zlet (zw (i4 + 1)) (fun x16 => q_X4_countTroubles_L78 a0 i3 k n x16 h)) else (zgi 6 i4 (zbp (q_X5_isOutOfTime h (h.2 (h.2 a0 4) i4.toNat) (h.1 a0 0) (h.1 (h.2 a0 2) 1)) (fun x17 => if x17 = 0 then (zlet (zw (i4 + 1)) (fun x18 => q_X4_countTroubles_L78 a0 i3 k n x18 h)) else (zgi 6 i4 (zlet (zput h (h.2 (h.2 a0 4) i4.toNat) 6 (zw (h.1 (h.2 (h.2 a0 4) i4.toNat) 6 + 1))) (fun h19 => zlet (zw (i4 + 1)) (fun x20 => q_X4_countTroubles_L78 a0 i3 k n x20 h19)))))))))
def q_X4_countTroubles (h : zH) (a_0 : Nat) (x_1 : Int) : Option (Unit × zH) := zbp (q_X4_degradedAmong h a_0 x_1) (fun x1 => q_X4_countTroubles_L11 a_0 x_1 x1 (fun x12 x13 h14 => q_X4_countTroubles_L78 a_0 x12 (fun x21 h22 => some ((), h22)) zF 0 h14) zF 0 0 h)
theorem cq_X4_countTroubles (w : zW) (l : Launch) (h : zH) (a_0 : Nat) (x_1 : Int) : zCq w l yX4_countTroubles cX4_countTroubles 5 none 5 114 [.inr (4, a_0), .inl x_1] h qU (q_X4_countTroubles h a_0 x_1) := by
  refine zCq.of (own := RX4) (loc := [some (.inr (4, a_0)), some (.inl x_1), none, none, none]) (by decide) rfl (Nat.le_of_ble_eq_true rfl) (fun k v hk => ?_) ?_
  · exact zloc_ok 3 rfl hk
  intro p e s m args below meth c C Z1 Z2
  have L11 : ∀ (a0 : Nat) (i1 : Int) (i2 : Int) (k : Int → Int → zH → Option (Unit × zH)) (hk : ∀ (i3 : Int) (i4 : Int) (h : zH), zQV w p l e (zRm 5 114) s m args below meth c 5 qU (k i3 i4 h) 75 [some (.inr (4, a0)), some (.inl i1), some (.inl i2), some (.inl i3), some (.inl i4)] [] h) (n : Nat) (i3 : Int) (i4 : Int) (h : zH), zQV w p l e (zRm 5 114) s m args below meth c 5 qU (q_X4_countTroubles_L11 a0 i1 i2 k n i3 i4 h) 11 [some (.inr (4, a0)), some (.inl i1), some (.inl i2), some (.inl i3), some (.inl i4)] [] h := by
    intro a0 i1 i2 k hk n
    induction n with
    | zero =>
      intro i3 i4 h
      exact q_none
    | succ n ih =>
      intro i3 i4 h
      rw [q_X4_countTroubles_L11]
      refine q_iload C dX4_countTroubles_11 rfl ?_
      refine q_aload_n C dX4_countTroubles_13 rfl ?_
      refine q_getI C dX4_countTroubles_14 fl4_52 rfl ?_
      refine q_icmp_ge C dX4_countTroubles_17 (tgt := 75) (by decide) ?_ ?_
      · exact hk i3 i4 h
      · refine q_iload_n C dX4_countTroubles_20 rfl ?_
        refine q_iload C dX4_countTroubles_21 rfl ?_
        refine q_pcallSI C dX4_countTroubles_23 ms4_156 (cq_X4_isIn w l h _ _) rfl ⟨by decide, by decide⟩ ⟨rfl, Nat.le_of_ble_eq_true rfl⟩ (fun x2 => ?_)
        refine q_if_eq C dX4_countTroubles_26 (tgt := 44) (by decide) ?_ ?_
        · refine q_iload_n C dX4_countTroubles_44 rfl ?_
          refine q_iload C dX4_countTroubles_45 rfl ?_
          refine q_pcallSI C dX4_countTroubles_47 ms4_156 (cq_X4_isIn w l h _ _) rfl ⟨by decide, by decide⟩ ⟨rfl, Nat.le_of_ble_eq_true rfl⟩ (fun x3 => ?_)
          refine q_if_eq C dX4_countTroubles_50 (tgt := 69) (by decide) ?_ ?_
          · refine q_iincL C dX4_countTroubles_69 rfl (by decide) (fun x4 => ?_)
            refine q_goto C dX4_countTroubles_72 (tgt := 11) (by decide) ?_
            exact ih i3 x4 h
          · refine q_aload_n C dX4_countTroubles_53 rfl ?_
            refine q_getR C dX4_countTroubles_54 fl4_29 rfl ?_
            refine q_iload C dX4_countTroubles_57 rfl ?_
            refine q_aald C dX4_countTroubles_59 ⟨by decide, by decide, _, rfl⟩ ?_
            refine q_dup C dX4_countTroubles_60 ?_
            refine q_getI C dX4_countTroubles_61 fl4_117 rfl ?_
            refine q_iconst C dX4_countTroubles_64 rfl ?_
            refine q_iadd C dX4_countTroubles_65 ?_
            refine q_putI C dX4_countTroubles_66 pl4_117 rfl (fun h5 => ?_)
            refine q_iincL C dX4_countTroubles_69 rfl (by decide) (fun x6 => ?_)
            refine q_goto C dX4_countTroubles_72 (tgt := 11) (by decide) ?_
            exact ih i3 x6 h5
        · refine q_iload_n C dX4_countTroubles_29 rfl ?_
          refine q_iconst C dX4_countTroubles_30 rfl ?_
          refine q_aload_n C dX4_countTroubles_31 rfl ?_
          refine q_getR C dX4_countTroubles_32 fl4_29 rfl ?_
          refine q_iload C dX4_countTroubles_35 rfl ?_
          refine q_aald C dX4_countTroubles_37 ⟨by decide, by decide, _, rfl⟩ ?_
          refine q_getI C dX4_countTroubles_38 fl4_93 rfl ?_
          refine q_ishl C dX4_countTroubles_41 ?_
          refine q_ior C dX4_countTroubles_42 ?_
          refine q_istore_nL C dX4_countTroubles_43 (by decide) (fun x7 => ?_)
          refine q_iload_n C dX4_countTroubles_44 rfl ?_
          refine q_iload C dX4_countTroubles_45 rfl ?_
          refine q_pcallSI C dX4_countTroubles_47 ms4_156 (cq_X4_isIn w l h _ _) rfl ⟨by decide, by decide⟩ ⟨rfl, Nat.le_of_ble_eq_true rfl⟩ (fun x8 => ?_)
          refine q_if_eq C dX4_countTroubles_50 (tgt := 69) (by decide) ?_ ?_
          · refine q_iincL C dX4_countTroubles_69 rfl (by decide) (fun x9 => ?_)
            refine q_goto C dX4_countTroubles_72 (tgt := 11) (by decide) ?_
            exact ih x7 x9 h
          · refine q_aload_n C dX4_countTroubles_53 rfl ?_
            refine q_getR C dX4_countTroubles_54 fl4_29 rfl ?_
            refine q_iload C dX4_countTroubles_57 rfl ?_
            refine q_aald C dX4_countTroubles_59 ⟨by decide, by decide, _, rfl⟩ ?_
            refine q_dup C dX4_countTroubles_60 ?_
            refine q_getI C dX4_countTroubles_61 fl4_117 rfl ?_
            refine q_iconst C dX4_countTroubles_64 rfl ?_
            refine q_iadd C dX4_countTroubles_65 ?_
            refine q_putI C dX4_countTroubles_66 pl4_117 rfl (fun h10 => ?_)
            refine q_iincL C dX4_countTroubles_69 rfl (by decide) (fun x11 => ?_)
            refine q_goto C dX4_countTroubles_72 (tgt := 11) (by decide) ?_
            exact ih x7 x11 h10
  have L78 : ∀ (a0 : Nat) (i3 : Int) (k : Int → zH → Option (Unit × zH)) (hk : ∀ (u1 u2 : Option zv) (i4 : Int) (h : zH), zQV w p l e (zRm 5 114) s m args below meth c 5 qU (k i4 h) 141 [some (.inr (4, a0)), u1, u2, some (.inl i3), some (.inl i4)] [] h) (n : Nat) (u1 u2 : Option zv) (i4 : Int) (h : zH), zQV w p l e (zRm 5 114) s m args below meth c 5 qU (q_X4_countTroubles_L78 a0 i3 k n i4 h) 78 [some (.inr (4, a0)), u1, u2, some (.inl i3), some (.inl i4)] [] h := by
    intro a0 i3 k hk n
    induction n with
    | zero =>
      intro u1 u2 i4 h
      exact q_none
    | succ n ih =>
      intro u1 u2 i4 h
      rw [q_X4_countTroubles_L78]
      refine q_iload C dX4_countTroubles_78 rfl ?_
      refine q_aload_n C dX4_countTroubles_80 rfl ?_
      refine q_getI C dX4_countTroubles_81 fl4_46 rfl ?_
      refine q_icmp_ge C dX4_countTroubles_84 (tgt := 141) (by decide) ?_ ?_
      · exact hk _ _ i4 h
      · refine q_iload_n C dX4_countTroubles_87 rfl ?_
        refine q_iload C dX4_countTroubles_88 rfl ?_
        refine q_pcallSI C dX4_countTroubles_90 ms4_156 (cq_X4_isIn w l h _ _) rfl ⟨by decide, by decide⟩ ⟨rfl, Nat.le_of_ble_eq_true rfl⟩ (fun x15 => ?_)
        refine q_if_eq C dX4_countTroubles_93 (tgt := 135) (by decide) ?_ ?_
        · refine q_iincL C dX4_countTroubles_135 rfl (by decide) (fun x16 => ?_)
          refine q_goto C dX4_countTroubles_138 (tgt := 78) (by decide) ?_
          exact ih _ _ x16 h
        · refine q_aload_n C dX4_countTroubles_96 rfl ?_
          refine q_getR C dX4_countTroubles_97 fl4_17 rfl ?_
          refine q_iload C dX4_countTroubles_100 rfl ?_
          refine q_aald C dX4_countTroubles_102 ⟨by decide, by decide, _, rfl⟩ ?_
          refine q_aload_n C dX4_countTroubles_103 rfl ?_
          refine q_getI C dX4_countTroubles_104 fl4_39 rfl ?_
          refine q_aload_n C dX4_countTroubles_107 rfl ?_
          refine q_getR C dX4_countTroubles_108 fl4_9 rfl ?_
          refine q_iconst C dX4_countTroubles_111 rfl ?_
          refine q_ialdN (j := 1) C dX4_countTroubles_112 ⟨by decide, by decide, rfl⟩ rfl (by decide) ?_
          refine q_pcallVI C dX4_countTroubles_113 mv4_244 (cq_X5_isOutOfTime w l h _ _ _) rfl ⟨by decide, by decide⟩ ⟨rfl, Nat.le_of_ble_eq_true rfl⟩ (fun x17 => ?_)
          refine q_if_eq C dX4_countTroubles_116 (tgt := 135) (by decide) ?_ ?_
          · refine q_iincL C dX4_countTroubles_135 rfl (by decide) (fun x18 => ?_)
            refine q_goto C dX4_countTroubles_138 (tgt := 78) (by decide) ?_
            exact ih _ _ x18 h
          · refine q_aload_n C dX4_countTroubles_119 rfl ?_
            refine q_getR C dX4_countTroubles_120 fl4_17 rfl ?_
            refine q_iload C dX4_countTroubles_123 rfl ?_
            refine q_aald C dX4_countTroubles_125 ⟨by decide, by decide, _, rfl⟩ ?_
            refine q_dup C dX4_countTroubles_126 ?_
            refine q_getI C dX4_countTroubles_127 fl4_247 rfl ?_
            refine q_iconst C dX4_countTroubles_130 rfl ?_
            refine q_iadd C dX4_countTroubles_131 ?_
            refine q_putI C dX4_countTroubles_132 pl4_247 rfl (fun h19 => ?_)
            refine q_iincL C dX4_countTroubles_135 rfl (by decide) (fun x20 => ?_)
            refine q_goto C dX4_countTroubles_138 (tgt := 78) (by decide) ?_
            exact ih _ _ x20 h19
  unfold q_X4_countTroubles
  refine q_aload_n C dX4_countTroubles_0 rfl ?_
  refine q_iload_n C dX4_countTroubles_1 rfl ?_
  refine q_pcallVI C dX4_countTroubles_2 mv4_241 (cq_X4_degradedAmong w l h _ _) rfl ⟨by decide, by decide⟩ ⟨rfl, Nat.le_of_ble_eq_true rfl⟩ (fun x1 => ?_)
  refine q_istore_n C dX4_countTroubles_5 (by decide) ?_
  refine q_iconst C dX4_countTroubles_6 rfl ?_
  refine q_istore_n C dX4_countTroubles_7 (by decide) ?_
  refine q_iconst C dX4_countTroubles_8 rfl ?_
  refine q_istore C dX4_countTroubles_9 (by decide) ?_
  refine L11 a_0 x_1 x1 _ ?_ zF 0 0 h
  intro x12 x13 h14
  refine q_iconst C dX4_countTroubles_75 rfl ?_
  refine q_istore C dX4_countTroubles_76 (by decide) ?_
  refine L78 a_0 x12 _ ?_ zF _ _ 0 h14
  intro u23 u24 x21 h22
  exact q_vret C Z1 Z2 dX4_countTroubles_141
def q_X4_passFrame_L12 (a0 : Nat) (k : Int → zH → Option (Unit × zH)) : Nat → Int → zH → Option (Unit × zH)
  | 0, _, _ => none
  | n + 1, i1, h => if h.1 a0 3 ≤ i1 then (k i1 h) else (zgi 6 i1 (zlet (h.2 (h.2 a0 4) i1.toNat) (fun r2 => zbp (q_X4_tripOf h a0 r2) (fun x3 => zbd (q_X5_keepTime h r2 (h.1 a0 0) x3 (h.1 (h.2 a0 2) 6)) (fun _ h4 => zbp (q_X4_nextPower h4 a0 i1 (h4.1 r2 5) (h4.1 a0 0)) (fun x5 => zlet (zput h4 r2 5 x5) (fun h6 => zlet (zw (i1 + 1)) (fun x7 => q_X4_passFrame_L12 a0 k n x7 h6))))))))
def q_X4_passFrame (h : zH) (a_0 : Nat) : Option (Unit × zH) := zlet (zput h a_0 0 (zw (h.1 a_0 0 + 1))) (fun h1 => q_X4_passFrame_L12 a_0 (fun x8 h9 => zbp (q_X4_callsIn h9 a_0 1) (fun x11 => zbd (q_X4_endAndServe h9 a_0) (fun _ h12 => zbp (q_X4_callsIn h12 a_0 1) (fun x13 => zbd (q_X4_countTroubles h12 a_0 (zand x11 x13)) (fun _ h14 => some ((), h14)))))) zF 0 h1)
theorem cq_X4_passFrame (w : zW) (l : Launch) (h : zH) (a_0 : Nat) : zCq w l yX4_passFrame cX4_passFrame 3 none 6 170 [.inr (4, a_0)] h qU (q_X4_passFrame h a_0) := by
  refine zCq.of (own := RX4) (loc := [some (.inr (4, a_0)), none, none]) (by decide) rfl (Nat.le_of_ble_eq_true rfl) (fun k v hk => ?_) ?_
  · exact zloc_ok 2 rfl hk
  intro p e s m args below meth c C Z1 Z2
  have L12 : ∀ (a0 : Nat) (k : Int → zH → Option (Unit × zH)) (hk : ∀ (u2 : Option zv) (i1 : Int) (h : zH), zQV w p l e (zRm 6 170) s m args below meth c 3 qU (k i1 h) 70 [some (.inr (4, a0)), some (.inl i1), u2] [] h) (n : Nat) (u2 : Option zv) (i1 : Int) (h : zH), zQV w p l e (zRm 6 170) s m args below meth c 3 qU (q_X4_passFrame_L12 a0 k n i1 h) 12 [some (.inr (4, a0)), some (.inl i1), u2] [] h := by
    intro a0 k hk n
    induction n with
    | zero =>
      intro u2 i1 h
      exact q_none
    | succ n ih =>
      intro u2 i1 h
      rw [q_X4_passFrame_L12]
      refine q_iload_n C dX4_passFrame_12 rfl ?_
      refine q_aload_n C dX4_passFrame_13 rfl ?_
      refine q_getI C dX4_passFrame_14 fl4_46 rfl ?_
      refine q_icmp_ge C dX4_passFrame_17 (tgt := 70) (by decide) ?_ ?_
      · exact hk _ i1 h
      · refine q_aload_n C dX4_passFrame_20 rfl ?_
        refine q_getR C dX4_passFrame_21 fl4_17 rfl ?_
        refine q_iload_n C dX4_passFrame_24 rfl ?_
        refine q_aald C dX4_passFrame_25 ⟨by decide, by decide, _, rfl⟩ ?_
        refine q_astore_nL C dX4_passFrame_26 (by decide) (fun r2 => ?_)
        refine q_aload_n C dX4_passFrame_27 rfl ?_
        refine q_aload_n C dX4_passFrame_28 rfl ?_
        refine q_getI C dX4_passFrame_29 fl4_39 rfl ?_
        refine q_aload_n C dX4_passFrame_32 rfl ?_
        refine q_aload_n C dX4_passFrame_33 rfl ?_
        refine q_pcallVI C dX4_passFrame_34 mv4_216 (cq_X4_tripOf w l h _ _) rfl ⟨by decide, by decide⟩ ⟨rfl, Nat.le_of_ble_eq_true rfl⟩ (fun x3 => ?_)
        refine q_aload_n C dX4_passFrame_37 rfl ?_
        refine q_getR C dX4_passFrame_38 fl4_9 rfl ?_
        refine q_bipush C dX4_passFrame_41 (by decide) rfl ?_
        refine q_ialdN (j := 6) C dX4_passFrame_43 ⟨by decide, by decide, rfl⟩ rfl (by decide) ?_
        refine q_callVU C dX4_passFrame_44 mv4_220 (cq_X5_keepTime w l h _ _ _ _) rfl ⟨by decide, by decide⟩ ⟨rfl, Nat.le_of_ble_eq_true rfl⟩ (fun _ h4 => ?_)
        refine q_aload_n C dX4_passFrame_47 rfl ?_
        refine q_aload_n C dX4_passFrame_48 rfl ?_
        refine q_iload_n C dX4_passFrame_49 rfl ?_
        refine q_aload_n C dX4_passFrame_50 rfl ?_
        refine q_getI C dX4_passFrame_51 fl4_149 rfl ?_
        refine q_aload_n C dX4_passFrame_54 rfl ?_
        refine q_getI C dX4_passFrame_55 fl4_39 rfl ?_
        refine q_pcallVI C dX4_passFrame_58 mv4_224 (cq_X4_nextPower w l h4 _ _ _ _) rfl ⟨by decide, by decide⟩ ⟨rfl, Nat.le_of_ble_eq_true rfl⟩ (fun x5 => ?_)
        refine q_putI C dX4_passFrame_61 pl4_149 rfl (fun h6 => ?_)
        refine q_iincL C dX4_passFrame_64 rfl (by decide) (fun x7 => ?_)
        refine q_goto C dX4_passFrame_67 (tgt := 12) (by decide) ?_
        exact ih _ x7 h6
  unfold q_X4_passFrame
  refine q_aload_n C dX4_passFrame_0 rfl ?_
  refine q_dup C dX4_passFrame_1 ?_
  refine q_getI C dX4_passFrame_2 fl4_39 rfl ?_
  refine q_iconst C dX4_passFrame_5 rfl ?_
  refine q_iadd C dX4_passFrame_6 ?_
  refine q_putI C dX4_passFrame_7 pl4_39 rfl (fun h1 => ?_)
  refine q_iconst C dX4_passFrame_10 rfl ?_
  refine q_istore_n C dX4_passFrame_11 (by decide) ?_
  refine L12 a_0 _ ?_ zF _ 0 h1
  intro u10 x8 h9
  refine q_aload_n C dX4_passFrame_70 rfl ?_
  refine q_iconst C dX4_passFrame_71 rfl ?_
  refine q_pcallVI C dX4_passFrame_72 mv4_228 (cq_X4_callsIn w l h9 _ _) rfl ⟨by decide, by decide⟩ ⟨rfl, Nat.le_of_ble_eq_true rfl⟩ (fun x11 => ?_)
  refine q_istore_n C dX4_passFrame_75 (by decide) ?_
  refine q_aload_n C dX4_passFrame_76 rfl ?_
  refine q_callVU C dX4_passFrame_77 mv4_231 (cq_X4_endAndServe w l h9 _) rfl ⟨by decide, by decide⟩ ⟨rfl, Nat.le_of_ble_eq_true rfl⟩ (fun _ h12 => ?_)
  refine q_aload_n C dX4_passFrame_80 rfl ?_
  refine q_iload_n C dX4_passFrame_81 rfl ?_
  refine q_aload_n C dX4_passFrame_82 rfl ?_
  refine q_iconst C dX4_passFrame_83 rfl ?_
  refine q_pcallVI C dX4_passFrame_84 mv4_228 (cq_X4_callsIn w l h12 _ _) rfl ⟨by decide, by decide⟩ ⟨rfl, Nat.le_of_ble_eq_true rfl⟩ (fun x13 => ?_)
  refine q_iand C dX4_passFrame_87 ?_
  refine q_callVU C dX4_passFrame_88 mv4_234 (cq_X4_countTroubles w l h12 _ _) rfl ⟨by decide, by decide⟩ ⟨rfl, Nat.le_of_ble_eq_true rfl⟩ (fun _ h14 => ?_)
  exact q_vret C Z1 Z2 dX4_passFrame_91
