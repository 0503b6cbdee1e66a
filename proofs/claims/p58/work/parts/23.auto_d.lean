def q_X1_dropOldest_L9 (a0 : Nat) (a1 : Nat) (k : Int → zH → Option (Unit × zH)) : Nat → Int → zH → Option (Unit × zH)
  | 0, _, _ => none
  | n + 1, i2, h => if 10 ≤ i2 then (k i2 h) else (zgi 10 i2 (zgi 10 (zw (i2 - 1)) (zlet (zputR h (h.2 a0 1) (zw (i2 - 1)).toNat (h.2 (h.2 a0 1) i2.toNat)) (fun h2 => zlet (zw (i2 + 1)) (fun x3 => q_X1_dropOldest_L9 a0 a1 k n x3 h2)))))
def q_X1_dropOldest (h : zH) (a_0 : Nat) : Option (Unit × zH) := zlet (h.2 (h.2 a_0 1) 0) (fun r1 => q_X1_dropOldest_L9 a_0 r1 (fun x4 h5 => zgi 10 9 (zlet (zputR h5 (h5.2 a_0 1) (9 : Int).toNat r1) (fun h6 => zlet (zput h6 a_0 0 9) (fun h7 => some ((), h7))))) zF 1 h)
theorem cq_X1_dropOldest (w : zW) (l : Launch) (h : zH) (a_0 : Nat) : zCq w l yX1_dropOldest cX1_dropOldest 3 none 0 0 [.inr (1, a_0)] h qU (q_X1_dropOldest h a_0) := by
  refine zCq.of (own := RX1) (loc := [some (.inr (1, a_0)), none, none]) (by decide) rfl (Nat.le_of_ble_eq_true rfl) (fun k v hk => ?_) ?_
  · exact zloc_ok 2 rfl hk
  intro p e s m args below meth c C Z1 Z2
  have L9 : ∀ (a0 : Nat) (a1 : Nat) (k : Int → zH → Option (Unit × zH)) (hk : ∀ (i2 : Int) (h : zH), zQV w p l e (zRm 0 0) s m args below meth c 3 qU (k i2 h) 35 [some (.inr (1, a0)), some (.inr (4, a1)), some (.inl i2)] [] h) (n : Nat) (i2 : Int) (h : zH), zQV w p l e (zRm 0 0) s m args below meth c 3 qU (q_X1_dropOldest_L9 a0 a1 k n i2 h) 9 [some (.inr (1, a0)), some (.inr (4, a1)), some (.inl i2)] [] h := by
    intro a0 a1 k hk n
    induction n with
    | zero =>
      intro i2 h
      exact q_none
    | succ n ih =>
      intro i2 h
      rw [q_X1_dropOldest_L9]
      refine q_iload_n C dX1_dropOldest_9 rfl ?_
      refine q_bipush C dX1_dropOldest_10 (by decide) rfl ?_
      refine q_icmp_ge C dX1_dropOldest_12 (tgt := 35) (by decide) ?_ ?_
      · exact hk i2 h
      · refine q_aload_n C dX1_dropOldest_15 rfl ?_
        refine q_getR C dX1_dropOldest_16 fl1_11 rfl ?_
        refine q_iload_n C dX1_dropOldest_19 rfl ?_
        refine q_iconst C dX1_dropOldest_20 rfl ?_
        refine q_isub C dX1_dropOldest_21 ?_
        refine q_aload_n C dX1_dropOldest_22 rfl ?_
        refine q_getR C dX1_dropOldest_23 fl1_11 rfl ?_
        refine q_iload_n C dX1_dropOldest_26 rfl ?_
        refine q_aald C dX1_dropOldest_27 ⟨by decide, by decide, _, rfl⟩ ?_
        refine q_aast C dX1_dropOldest_28 ⟨by decide, by decide, _, rfl⟩ (by decide) (fun Cn hC => ⟨_, rfl, by injection (Prod.mk.inj (Prod.mk.inj hC).2).2⟩) (fun h2 => ?_)
        refine q_iincL C dX1_dropOldest_29 rfl (by decide) (fun x3 => ?_)
        refine q_goto C dX1_dropOldest_32 (tgt := 9) (by decide) ?_
        exact ih x3 h2
  unfold q_X1_dropOldest
  refine q_aload_n C dX1_dropOldest_0 rfl ?_
  refine q_getR C dX1_dropOldest_1 fl1_11 rfl ?_
  refine q_iconst C dX1_dropOldest_4 rfl ?_
  refine q_aaldN (j := 0) C dX1_dropOldest_5 ⟨by decide, by decide, _, rfl⟩ rfl (by decide) ?_
  refine q_astore_nL C dX1_dropOldest_6 (by decide) (fun r1 => ?_)
  refine q_iconst C dX1_dropOldest_7 rfl ?_
  refine q_istore_n C dX1_dropOldest_8 (by decide) ?_
  refine L9 a_0 r1 _ ?_ zF 1 h
  intro x4 h5
  refine q_aload_n C dX1_dropOldest_35 rfl ?_
  refine q_getR C dX1_dropOldest_36 fl1_11 rfl ?_
  refine q_bipush C dX1_dropOldest_39 (by decide) rfl ?_
  refine q_aload_n C dX1_dropOldest_41 rfl ?_
  refine q_aast C dX1_dropOldest_42 ⟨by decide, by decide, _, rfl⟩ (by decide) (fun Cn hC => ⟨_, rfl, by injection (Prod.mk.inj (Prod.mk.inj hC).2).2⟩) (fun h6 => ?_)
  refine q_aload_n C dX1_dropOldest_43 rfl ?_
  refine q_bipush C dX1_dropOldest_44 (by decide) rfl ?_
  refine q_putI C dX1_dropOldest_46 pl1_18 rfl (fun h7 => ?_)
  exact q_vret C Z1 Z2 dX1_dropOldest_49
def q_X1_keep (h : zH) (a_0 : Nat) (a_1 : Nat) : Option (Unit × zH) := if h.1 a_0 0 < 10 then (zgi 10 (h.1 a_0 0) (zbd (q_X4_copyFrom h (h.2 (h.2 a_0 1) (h.1 a_0 0).toNat) a_1) (fun _ h1 => zlet (zput h1 a_0 0 (zw (h1.1 a_0 0 + 1))) (fun h2 => some ((), h2))))) else (zbd (q_X1_dropOldest h a_0) (fun _ h3 => zgi 10 (h3.1 a_0 0) (zbd (q_X4_copyFrom h3 (h3.2 (h3.2 a_0 1) (h3.1 a_0 0).toNat) a_1) (fun _ h4 => zlet (zput h4 a_0 0 (zw (h4.1 a_0 0 + 1))) (fun h5 => some ((), h5))))))
theorem cq_X1_keep (w : zW) (l : Launch) (h : zH) (a_0 : Nat) (a_1 : Nat) : zCq w l yX1_keep cX1_keep 2 none 3 115 [.inr (1, a_0), .inr (4, a_1)] h qU (q_X1_keep h a_0 a_1) := by
  refine zCq.of (own := RX1) (loc := [some (.inr (1, a_0)), some (.inr (4, a_1))]) (by decide) rfl (Nat.le_of_ble_eq_true rfl) (fun k v hk => ?_) ?_
  · exact zloc_ok 0 rfl hk
  intro p e s m args below meth c C Z1 Z2
  unfold q_X1_keep
  refine q_aload_n C dX1_keep_0 rfl ?_
  refine q_getI C dX1_keep_1 fl1_18 rfl ?_
  refine q_bipush C dX1_keep_4 (by decide) rfl ?_
  refine q_icmp_lt C dX1_keep_6 (tgt := 13) (by decide) ?_ ?_
  · refine q_aload_n C dX1_keep_13 rfl ?_
    refine q_getR C dX1_keep_14 fl1_11 rfl ?_
    refine q_aload_n C dX1_keep_17 rfl ?_
    refine q_getI C dX1_keep_18 fl1_18 rfl ?_
    refine q_aald C dX1_keep_21 ⟨by decide, by decide, _, rfl⟩ ?_
    refine q_aload_n C dX1_keep_22 rfl ?_
    refine q_callVU C dX1_keep_23 mv1_25 (cq_X4_copyFrom w l h _ _) rfl ⟨by decide, by decide⟩ ⟨rfl, Nat.le_of_ble_eq_true rfl⟩ (fun _ h1 => ?_)
    refine q_aload_n C dX1_keep_26 rfl ?_
    refine q_dup C dX1_keep_27 ?_
    refine q_getI C dX1_keep_28 fl1_18 rfl ?_
    refine q_iconst C dX1_keep_31 rfl ?_
    refine q_iadd C dX1_keep_32 ?_
    refine q_putI C dX1_keep_33 pl1_18 rfl (fun h2 => ?_)
    exact q_vret C Z1 Z2 dX1_keep_36
  · refine q_aload_n C dX1_keep_9 rfl ?_
    refine q_callVU C dX1_keep_10 mv1_22 (cq_X1_dropOldest w l h _) rfl ⟨by decide, by decide⟩ ⟨rfl, Nat.le_of_ble_eq_true rfl⟩ (fun _ h3 => ?_)
    refine q_aload_n C dX1_keep_13 rfl ?_
    refine q_getR C dX1_keep_14 fl1_11 rfl ?_
    refine q_aload_n C dX1_keep_17 rfl ?_
    refine q_getI C dX1_keep_18 fl1_18 rfl ?_
    refine q_aald C dX1_keep_21 ⟨by decide, by decide, _, rfl⟩ ?_
    refine q_aload_n C dX1_keep_22 rfl ?_
    refine q_callVU C dX1_keep_23 mv1_25 (cq_X4_copyFrom w l h3 _ _) rfl ⟨by decide, by decide⟩ ⟨rfl, Nat.le_of_ble_eq_true rfl⟩ (fun _ h4 => ?_)
    refine q_aload_n C dX1_keep_26 rfl ?_
    refine q_dup C dX1_keep_27 ?_
    refine q_getI C dX1_keep_28 fl1_18 rfl ?_
    refine q_iconst C dX1_keep_31 rfl ?_
    refine q_iadd C dX1_keep_32 ?_
    refine q_putI C dX1_keep_33 pl1_18 rfl (fun h5 => ?_)
    exact q_vret C Z1 Z2 dX1_keep_36
def q_X4_clear (h : zH) (a_0 : Nat) : Option (Unit × zH) := zlet (zput h a_0 0 0) (fun h1 => zlet (zput h1 a_0 1 1) (fun h2 => zlet (zput h2 a_0 3 0) (fun h3 => zlet (zput h3 a_0 5 0) (fun h4 => zlet (zput h4 a_0 7 0) (fun h5 => zlet (zcpyT h5 2 (h5.2 a_0 2)) (fun h6 => some ((), h6)))))))
theorem cq_X4_clear (w : zW) (l : Launch) (h : zH) (a_0 : Nat) : zCq w l yX4_clear cX4_clear 1 none 1 72 [.inr (4, a_0)] h qU (q_X4_clear h a_0) := by
  refine zCq.of (own := RX4) (loc := [some (.inr (4, a_0))]) (by decide) rfl (Nat.le_of_ble_eq_true rfl) (fun k v hk => ?_) ?_
  · exact zloc_ok 0 rfl hk
  intro p e s m args below meth c C Z1 Z2
  unfold q_X4_clear
  refine q_aload_n C dX4_clear_0 rfl ?_
  refine q_iconst C dX4_clear_1 rfl ?_
  refine q_putI C dX4_clear_2 pl4_39 rfl (fun h1 => ?_)
  refine q_aload_n C dX4_clear_5 rfl ?_
  refine q_iconst C dX4_clear_6 rfl ?_
  refine q_putI C dX4_clear_7 pl4_43 rfl (fun h2 => ?_)
  refine q_aload_n C dX4_clear_10 rfl ?_
  refine q_iconst C dX4_clear_11 rfl ?_
  refine q_putI C dX4_clear_12 pl4_46 rfl (fun h3 => ?_)
  refine q_aload_n C dX4_clear_15 rfl ?_
  refine q_iconst C dX4_clear_16 rfl ?_
  refine q_putI C dX4_clear_17 pl4_49 rfl (fun h4 => ?_)
  refine q_aload_n C dX4_clear_20 rfl ?_
  refine q_iconst C dX4_clear_21 rfl ?_
  refine q_putI C dX4_clear_22 pl4_52 rfl (fun h5 => ?_)
  refine q_gst1 (i := 2) C dX4_clear_25 (by decide) (by decide +kernel) ?_
  refine q_iconst C dX4_clear_28 rfl ?_
  refine q_aload_n C dX4_clear_29 rfl ?_
  refine q_getR C dX4_clear_30 fl4_9 rfl ?_
  refine q_iconst C dX4_clear_33 rfl ?_
  refine q_bipush C dX4_clear_34 (by decide) rfl ?_
  refine q_copyT (i := 2) C dX4_clear_36 (zmem 321 (by decide +kernel)) (by decide) ⟨by decide, Nat.le_of_ble_eq_true rfl⟩ (fun h6 => ?_)
  exact q_vret C Z1 Z2 dX4_clear_39
def q_X6_isWord_L28 (h : zH) (a0 : Nat) (a1 : Nat) (k : Int → Option Int) : Nat → Int → Option Int
  | 0, _ => none
  | n + 1, i2 => zbp (q_J0_length a1) (fun x2 => if x2 ≤ i2 then (k i2) else (zbp (q_X6_signAt h a0 (zw (h.1 a0 5 + i2))) (fun x3 => zbp (q_J0_charAt a1 i2) (fun x4 => if x3 = x4 then (zlet (zw (i2 + 1)) (fun x5 => q_X6_isWord_L28 h a0 a1 k n x5)) else (some 0)))))
def q_X6_isWord (h : zH) (a_0 : Nat) (a_1 : Nat) : Option Int := if h.1 a_0 4 = 1 then (zbp (q_J0_length a_1) (fun x1 => if zw (h.1 a_0 3 - h.1 a_0 5) = x1 then (q_X6_isWord_L28 h a_0 a_1 (fun x6 => some 1) zF 0) else (some 0))) else (some 0)
theorem cq_X6_isWord (w : zW) (l : Launch) (h : zH) (a_0 : Nat) (a_1 : Nat) : zCp w l yX6_isWord cX6_isWord 3 (some .boolean) 4 90 [.inr (6, a_0), .inr (30, zwS w a_1)] h qI (q_X6_isWord h a_0 a_1) := by
  refine zCp.of (own := RX6) (loc := [some (.inr (6, a_0)), some (.inr (30, zwS w a_1)), none]) (by decide) rfl (Nat.le_of_ble_eq_true rfl) (fun k v hk => ?_) ?_
  · exact zloc_ok 1 rfl hk
  intro p e s m args below meth c C Z1 Z2
  have L28 : ∀ (a0 : Nat) (a1 : Nat) (k : Int → Option Int) (hk : ∀ (i2 : Int), zQP w p l e (zRm 4 90) s m args below meth c 3 qI (k i2) 62 [some (.inr (6, a0)), some (.inr (30, zwS w a1)), some (.inl i2)] [] h) (n : Nat) (i2 : Int), zQP w p l e (zRm 4 90) s m args below meth c 3 qI (q_X6_isWord_L28 h a0 a1 k n i2) 28 [some (.inr (6, a0)), some (.inr (30, zwS w a1)), some (.inl i2)] [] h := by
    intro a0 a1 k hk n
    induction n with
    | zero =>
      intro i2
      exact p_none
    | succ n ih =>
      intro i2
      rw [q_X6_isWord_L28]
      refine p_iload_n C dX6_isWord_28 rfl ?_
      refine p_aload_n C dX6_isWord_29 rfl ?_
      refine p_strlength C dX6_isWord_30 (zmem 828 (by decide +kernel)) ⟨by decide, Nat.le_of_ble_eq_true rfl⟩ (Nat.le_of_ble_eq_true rfl) (fun x2 => ?_)
      refine p_icmp_ge C dX6_isWord_33 (tgt := 62) (by decide) ?_ ?_
      · exact hk i2
      · refine p_aload_n C dX6_isWord_36 rfl ?_
        refine p_aload_n C dX6_isWord_37 rfl ?_
        refine p_getI C dX6_isWord_38 fl6_38 rfl ?_
        refine p_iload_n C dX6_isWord_41 rfl ?_
        refine p_iadd C dX6_isWord_42 ?_
        refine p_pcallVI C dX6_isWord_43 mv6_34 (cq_X6_signAt w l h _ _) rfl ⟨by decide, by decide⟩ ⟨rfl, Nat.le_of_ble_eq_true rfl⟩ (fun x3 => ?_)
        refine p_aload_n C dX6_isWord_46 rfl ?_
        refine p_iload_n C dX6_isWord_47 rfl ?_
        refine p_strcharAt C dX6_isWord_48 (zmem 829 (by decide +kernel)) ⟨by decide, Nat.le_of_ble_eq_true rfl⟩ (Nat.le_of_ble_eq_true rfl) (fun x4 => ?_)
        refine p_icmp_eq C dX6_isWord_51 (tgt := 56) (by decide) ?_ ?_
        · refine p_iincL C dX6_isWord_56 rfl (by decide) (fun x5 => ?_)
          refine p_goto C dX6_isWord_59 (tgt := 28) (by decide) ?_
          exact ih x5
        · refine p_iconst C dX6_isWord_54 rfl ?_
          exact p_zret C Z1 Z2 (Or.inl rfl) dX6_isWord_55
  unfold q_X6_isWord
  refine p_aload_n C dX6_isWord_0 rfl ?_
  refine p_getI C dX6_isWord_1 fl6_41 rfl ?_
  refine p_iconst C dX6_isWord_4 rfl ?_
  refine p_icmp_ne C dX6_isWord_5 (tgt := 24) (by decide) ?_ ?_
  · refine p_iconst C dX6_isWord_24 rfl ?_
    exact p_zret C Z1 Z2 (Or.inl rfl) dX6_isWord_25
  · refine p_aload_n C dX6_isWord_8 rfl ?_
    refine p_getI C dX6_isWord_9 fl6_28 rfl ?_
    refine p_aload_n C dX6_isWord_12 rfl ?_
    refine p_getI C dX6_isWord_13 fl6_38 rfl ?_
    refine p_isub C dX6_isWord_16 ?_
    refine p_aload_n C dX6_isWord_17 rfl ?_
    refine p_strlength C dX6_isWord_18 (zmem 828 (by decide +kernel)) ⟨by decide, Nat.le_of_ble_eq_true rfl⟩ (Nat.le_of_ble_eq_true rfl) (fun x1 => ?_)
    refine p_icmp_eq C dX6_isWord_21 (tgt := 26) (by decide) ?_ ?_
    · refine p_iconst C dX6_isWord_26 rfl ?_
      refine p_istore_n C dX6_isWord_27 (by decide) ?_
      refine L28 a_0 a_1 _ ?_ zF 0
      intro x6
      refine p_iconst C dX6_isWord_62 rfl ?_
      exact p_zret C Z1 Z2 (Or.inr rfl) dX6_isWord_63
    · refine p_iconst C dX6_isWord_24 rfl ?_
      exact p_zret C Z1 Z2 (Or.inl rfl) dX6_isWord_25
def q_X2_settingWord (h : zH) (x_0 : Int) : Option Nat := if x_0 = 0 then (some 5) else (if x_0 = 1 then (some 6) else (if x_0 = 2 then (some 7) else (if x_0 = 3 then (some 8) else (if x_0 = 4 then (some 9) else (if x_0 = 5 then (some 10) else (some 11))))))
theorem cq_X2_settingWord (w : zW) (l : Launch) (h : zH) (x_0 : Int) : zCp w l yX2_settingWord cX2_settingWord 1 (some (.object "java/lang/String")) 0 0 [.inl x_0] h (qS w) (q_X2_settingWord h x_0) := by
  refine zCp.of (own := RX2) (loc := [some (.inl x_0)]) (by decide) rfl (Nat.le_of_ble_eq_true rfl) (fun k v hk => ?_) ?_
  · exact zloc_ok 0 rfl hk
  intro p e s m args below meth c C Z1 Z2
  unfold q_X2_settingWord
  refine p_iload_n C dX2_settingWord_0 rfl ?_
  refine p_tsw6 (t0 := 40) (t1 := 43) (t2 := 46) (t3 := 49) (t4 := 52) (t5 := 55) (td := 58) C dX2_settingWord_1 ⟨by decide, by decide, by decide, by decide, by decide, by decide, by decide⟩ ?_ ?_ ?_ ?_ ?_ ?_ ?_
  · refine p_ldcS (i := 5) (tx := "length") C dX2_settingWord_40 (by decide +kernel) (by decide) ?_
    exact p_saret C Z1 Z2 dX2_settingWord_42
  · refine p_ldcS (i := 6) (tx := "guard") C dX2_settingWord_43 (by decide +kernel) (by decide) ?_
    exact p_saret C Z1 Z2 dX2_settingWord_45
  · refine p_ldcS (i := 7) (tx := "reference") C dX2_settingWord_46 (by decide +kernel) (by decide) ?_
    exact p_saret C Z1 Z2 dX2_settingWord_48
  · refine p_ldcS (i := 8) (tx := "preamble") C dX2_settingWord_49 (by decide +kernel) (by decide) ?_
    exact p_saret C Z1 Z2 dX2_settingWord_51
  · refine p_ldcS (i := 9) (tx := "level") C dX2_settingWord_52 (by decide +kernel) (by decide) ?_
    exact p_saret C Z1 Z2 dX2_settingWord_54
  · refine p_ldcS (i := 10) (tx := "step") C dX2_settingWord_55 (by decide +kernel) (by decide) ?_
    exact p_saret C Z1 Z2 dX2_settingWord_57
  · refine p_ldcS (i := 11) (tx := "gain") C dX2_settingWord_58 (by decide +kernel) (by decide) ?_
    exact p_saret C Z1 Z2 dX2_settingWord_60
def q_X2_settingHere_L2 (h : zH) (a0 : Nat) (k : Int → Option Int) : Nat → Int → Option Int
  | 0, _ => none
  | n + 1, i1 => if 7 ≤ i1 then (k i1) else (zbp (q_X2_settingWord h i1) (fun r1 => zbp (q_X6_isWord h (h.2 a0 0) r1) (fun x2 => if x2 = 0 then (zlet (zw (i1 + 1)) (fun x3 => q_X2_settingHere_L2 h a0 k n x3)) else (some i1))))
def q_X2_settingHere (h : zH) (a_0 : Nat) : Option Int := q_X2_settingHere_L2 h a_0 (fun x4 => some ((-1))) zF 0
theorem cq_X2_settingHere (w : zW) (l : Launch) (h : zH) (a_0 : Nat) : zCp w l yX2_settingHere cX2_settingHere 2 (some .int) 5 112 [.inr (2, a_0)] h qI (q_X2_settingHere h a_0) := by
  refine zCp.of (own := RX2) (loc := [some (.inr (2, a_0)), none]) (by decide) rfl (Nat.le_of_ble_eq_true rfl) (fun k v hk => ?_) ?_
  · exact zloc_ok 1 rfl hk
  intro p e s m args below meth c C Z1 Z2
  have L2 : ∀ (a0 : Nat) (k : Int → Option Int) (hk : ∀ (i1 : Int), zQP w p l e (zRm 5 112) s m args below meth c 2 qI (k i1) 30 [some (.inr (2, a0)), some (.inl i1)] [] h) (n : Nat) (i1 : Int), zQP w p l e (zRm 5 112) s m args below meth c 2 qI (q_X2_settingHere_L2 h a0 k n i1) 2 [some (.inr (2, a0)), some (.inl i1)] [] h := by
    intro a0 k hk n
    induction n with
    | zero =>
      intro i1
      exact p_none
    | succ n ih =>
      intro i1
      rw [q_X2_settingHere_L2]
      refine p_iload_n C dX2_settingHere_2 rfl ?_
      refine p_bipush C dX2_settingHere_3 (by decide) rfl ?_
      refine p_icmp_ge C dX2_settingHere_5 (tgt := 30) (by decide) ?_ ?_
      · exact hk i1
      · refine p_aload_n C dX2_settingHere_8 rfl ?_
        refine p_getR C dX2_settingHere_9 fl2_12 rfl ?_
        refine p_iload_n C dX2_settingHere_12 rfl ?_
        refine p_pcallSS C dX2_settingHere_13 ms2_166 (cq_X2_settingWord w l h _) rfl ⟨by decide, by decide⟩ ⟨rfl, Nat.le_of_ble_eq_true rfl⟩ (fun r1 => ?_)
        refine p_pcallVI C dX2_settingHere_16 mv2_57 (cq_X6_isWord w l h _ _) rfl ⟨by decide, by decide⟩ ⟨rfl, Nat.le_of_ble_eq_true rfl⟩ (fun x2 => ?_)
        refine p_if_eq C dX2_settingHere_19 (tgt := 24) (by decide) ?_ ?_
        · refine p_iincL C dX2_settingHere_24 rfl (by decide) (fun x3 => ?_)
          refine p_goto C dX2_settingHere_27 (tgt := 2) (by decide) ?_
          exact ih x3
        · refine p_iload_n C dX2_settingHere_22 rfl ?_
          exact p_iret C Z1 Z2 dX2_settingHere_23
  unfold q_X2_settingHere
  refine p_iconst C dX2_settingHere_0 rfl ?_
  refine p_istore_n C dX2_settingHere_1 (by decide) ?_
  refine L2 a_0 _ ?_ zF 0
  intro x4
  refine p_iconst C dX2_settingHere_30 rfl ?_
  exact p_iret C Z1 Z2 dX2_settingHere_31
def q_X2_readName (h : zH) (a_0 : Nat) : Option (Int × zH) := zbp (q_X6_isShortWord h (h.2 a_0 0)) (fun x1 => if x1 = 0 then (zbd (q_X2_fail h a_0 ((-11))) (fun _ h2 => some (0, h2))) else (zbp (q_X6_isWord h (h.2 a_0 0) 2) (fun x3 => if x3 = 0 then (zbp (q_X6_isWord h (h.2 a_0 0) 3) (fun x5 => if x5 = 0 then (zbp (q_X6_isWord h (h.2 a_0 0) 4) (fun x7 => if x7 = 0 then (zbp (q_X2_settingHere h a_0) (fun x9 => if x9 = (-1) then (zbp (q_X6_packedLetters h (h.2 a_0 0)) (fun x10 => some (x10, h))) else (zbd (q_X2_fail h a_0 ((-11))) (fun _ h11 => some (0, h11))))) else (zbd (q_X2_fail h a_0 ((-11))) (fun _ h8 => some (0, h8))))) else (zbd (q_X2_fail h a_0 ((-11))) (fun _ h6 => some (0, h6))))) else (zbd (q_X2_fail h a_0 ((-11))) (fun _ h4 => some (0, h4))))))
theorem cq_X2_readName (w : zW) (l : Launch) (h : zH) (a_0 : Nat) : zCq w l yX2_readName cX2_readName 1 (some .int) 6 133 [.inr (2, a_0)] h qI (q_X2_readName h a_0) := by
  refine zCq.of (own := RX2) (loc := [some (.inr (2, a_0))]) (by decide) rfl (Nat.le_of_ble_eq_true rfl) (fun k v hk => ?_) ?_
  · exact zloc_ok 0 rfl hk
  intro p e s m args below meth c C Z1 Z2
  unfold q_X2_readName
  refine q_aload_n C dX2_readName_0 rfl ?_
  refine q_getR C dX2_readName_1 fl2_12 rfl ?_
  refine q_pcallVI C dX2_readName_4 mv2_159 (cq_X6_isShortWord w l h _) rfl ⟨by decide, by decide⟩ ⟨rfl, Nat.le_of_ble_eq_true rfl⟩ (fun x1 => ?_)
  refine q_if_eq C dX2_readName_7 (tgt := 54) (by decide) ?_ ?_
  · refine q_aload_n C dX2_readName_54 rfl ?_
    refine q_bipush C dX2_readName_55 (by decide) rfl ?_
    refine q_callVU C dX2_readName_57 mv2_84 (cq_X2_fail w l h _ _) rfl ⟨by decide, by decide⟩ ⟨rfl, Nat.le_of_ble_eq_true rfl⟩ (fun _ h2 => ?_)
    refine q_iconst C dX2_readName_60 rfl ?_
    exact q_iret C Z1 Z2 dX2_readName_61
  · refine q_aload_n C dX2_readName_10 rfl ?_
    refine q_getR C dX2_readName_11 fl2_12 rfl ?_
    refine q_ldcS (i := 2) (tx := "rain") C dX2_readName_14 (by decide +kernel) (by decide) ?_
    refine q_pcallVI C dX2_readName_16 mv2_57 (cq_X6_isWord w l h _ _) rfl ⟨by decide, by decide⟩ ⟨rfl, Nat.le_of_ble_eq_true rfl⟩ (fun x3 => ?_)
    refine q_if_ne C dX2_readName_19 (tgt := 54) (by decide) ?_ ?_
    · refine q_aload_n C dX2_readName_54 rfl ?_
      refine q_bipush C dX2_readName_55 (by decide) rfl ?_
      refine q_callVU C dX2_readName_57 mv2_84 (cq_X2_fail w l h _ _) rfl ⟨by decide, by decide⟩ ⟨rfl, Nat.le_of_ble_eq_true rfl⟩ (fun _ h4 => ?_)
      refine q_iconst C dX2_readName_60 rfl ?_
      exact q_iret C Z1 Z2 dX2_readName_61
    · refine q_aload_n C dX2_readName_22 rfl ?_
      refine q_getR C dX2_readName_23 fl2_12 rfl ?_
      refine q_ldcS (i := 3) (tx := "call") C dX2_readName_26 (by decide +kernel) (by decide) ?_
      refine q_pcallVI C dX2_readName_28 mv2_57 (cq_X6_isWord w l h _ _) rfl ⟨by decide, by decide⟩ ⟨rfl, Nat.le_of_ble_eq_true rfl⟩ (fun x5 => ?_)
      refine q_if_ne C dX2_readName_31 (tgt := 54) (by decide) ?_ ?_
      · refine q_aload_n C dX2_readName_54 rfl ?_
        refine q_bipush C dX2_readName_55 (by decide) rfl ?_
        refine q_callVU C dX2_readName_57 mv2_84 (cq_X2_fail w l h _ _) rfl ⟨by decide, by decide⟩ ⟨rfl, Nat.le_of_ble_eq_true rfl⟩ (fun _ h6 => ?_)
        refine q_iconst C dX2_readName_60 rfl ?_
        exact q_iret C Z1 Z2 dX2_readName_61
      · refine q_aload_n C dX2_readName_34 rfl ?_
        refine q_getR C dX2_readName_35 fl2_12 rfl ?_
        refine q_ldcS (i := 4) (tx := "set") C dX2_readName_38 (by decide +kernel) (by decide) ?_
        refine q_pcallVI C dX2_readName_40 mv2_57 (cq_X6_isWord w l h _ _) rfl ⟨by decide, by decide⟩ ⟨rfl, Nat.le_of_ble_eq_true rfl⟩ (fun x7 => ?_)
        refine q_if_ne C dX2_readName_43 (tgt := 54) (by decide) ?_ ?_
        · refine q_aload_n C dX2_readName_54 rfl ?_
          refine q_bipush C dX2_readName_55 (by decide) rfl ?_
          refine q_callVU C dX2_readName_57 mv2_84 (cq_X2_fail w l h _ _) rfl ⟨by decide, by decide⟩ ⟨rfl, Nat.le_of_ble_eq_true rfl⟩ (fun _ h8 => ?_)
          refine q_iconst C dX2_readName_60 rfl ?_
          exact q_iret C Z1 Z2 dX2_readName_61
        · refine q_aload_n C dX2_readName_46 rfl ?_
          refine q_pcallVI C dX2_readName_47 mv2_127 (cq_X2_settingHere w l h _) rfl ⟨by decide, by decide⟩ ⟨rfl, Nat.le_of_ble_eq_true rfl⟩ (fun x9 => ?_)
          refine q_iconst C dX2_readName_50 rfl ?_
          refine q_icmp_eq C dX2_readName_51 (tgt := 62) (by decide) ?_ ?_
          · refine q_aload_n C dX2_readName_62 rfl ?_
            refine q_getR C dX2_readName_63 fl2_12 rfl ?_
            refine q_pcallVI C dX2_readName_66 mv2_163 (cq_X6_packedLetters w l h _) rfl ⟨by decide, by decide⟩ ⟨rfl, Nat.le_of_ble_eq_true rfl⟩ (fun x10 => ?_)
            exact q_iret C Z1 Z2 dX2_readName_69
          · refine q_aload_n C dX2_readName_54 rfl ?_
            refine q_bipush C dX2_readName_55 (by decide) rfl ?_
            refine q_callVU C dX2_readName_57 mv2_84 (cq_X2_fail w l h _ _) rfl ⟨by decide, by decide⟩ ⟨rfl, Nat.le_of_ble_eq_true rfl⟩ (fun _ h11 => ?_)
            refine q_iconst C dX2_readName_60 rfl ?_
            exact q_iret C Z1 Z2 dX2_readName_61
def q_X2_readNewName (h : zH) (a_0 : Nat) : Option (Int × zH) := zbd (q_X2_readName h a_0) (fun x1 h2 => zbp (q_X4_stationWithName h2 (h2.2 a_0 1) x1) (fun x3 => if x3 = (-1) then (zbd (q_X2_accept h2 a_0) (fun _ h4 => some (x1, h4))) else (zbd (q_X2_fail h2 a_0 ((-14))) (fun _ h5 => zbd (q_X2_accept h5 a_0) (fun _ h6 => some (x1, h6))))))
theorem cq_X2_readNewName (w : zW) (l : Launch) (h : zH) (a_0 : Nat) : zCq w l yX2_readNewName cX2_readNewName 2 (some .int) 7 153 [.inr (2, a_0)] h qI (q_X2_readNewName h a_0) := by
  refine zCq.of (own := RX2) (loc := [some (.inr (2, a_0)), none]) (by decide) rfl (Nat.le_of_ble_eq_true rfl) (fun k v hk => ?_) ?_
  · exact zloc_ok 1 rfl hk
  intro p e s m args below meth c C Z1 Z2
  unfold q_X2_readNewName
  refine q_aload_n C dX2_readNewName_0 rfl ?_
  refine q_callVI C dX2_readNewName_1 mv2_153 (cq_X2_readName w l h _) rfl ⟨by decide, by decide⟩ ⟨rfl, Nat.le_of_ble_eq_true rfl⟩ (fun x1 h2 => ?_)
  refine q_istore_n C dX2_readNewName_4 (by decide) ?_
  refine q_aload_n C dX2_readNewName_5 rfl ?_
  refine q_getR C dX2_readNewName_6 fl2_21 rfl ?_
  refine q_iload_n C dX2_readNewName_9 rfl ?_
  refine q_pcallVI C dX2_readNewName_10 mv2_156 (cq_X4_stationWithName w l h2 _ _) rfl ⟨by decide, by decide⟩ ⟨rfl, Nat.le_of_ble_eq_true rfl⟩ (fun x3 => ?_)
  refine q_iconst C dX2_readNewName_13 rfl ?_
  refine q_icmp_eq C dX2_readNewName_14 (tgt := 23) (by decide) ?_ ?_
  · refine q_aload_n C dX2_readNewName_23 rfl ?_
    refine q_callVU C dX2_readNewName_24 mv2_90 (cq_X2_accept w l h2 _) rfl ⟨by decide, by decide⟩ ⟨rfl, Nat.le_of_ble_eq_true rfl⟩ (fun _ h4 => ?_)
    refine q_iload_n C dX2_readNewName_27 rfl ?_
    exact q_iret C Z1 Z2 dX2_readNewName_28
  · refine q_aload_n C dX2_readNewName_17 rfl ?_
    refine q_bipush C dX2_readNewName_18 (by decide) rfl ?_
    refine q_callVU C dX2_readNewName_20 mv2_84 (cq_X2_fail w l h2 _ _) rfl ⟨by decide, by decide⟩ ⟨rfl, Nat.le_of_ble_eq_true rfl⟩ (fun _ h5 => ?_)
    refine q_aload_n C dX2_readNewName_23 rfl ?_
    refine q_callVU C dX2_readNewName_24 mv2_90 (cq_X2_accept w l h5 _) rfl ⟨by decide, by decide⟩ ⟨rfl, Nat.le_of_ble_eq_true rfl⟩ (fun _ h6 => ?_)
    refine q_iload_n C dX2_readNewName_27 rfl ?_
    exact q_iret C Z1 Z2 dX2_readNewName_28
def q_X2_readStation (h : zH) (a_0 : Nat) : Option (Unit × zH) := if h.1 (h.2 a_0 1) 3 < 6 then (zbd (q_X2_accept h a_0) (fun _ h1 => zbd (q_X2_readNewName h1 a_0) (fun x2 h3 => zbd (q_X2_readNumber h3 a_0 0 5000) (fun x4 h5 => if h5.1 (h5.2 a_0 0) 4 = 4 then (zbd (q_X2_accept h5 a_0) (fun _ h15 => zbd (q_X2_readNumber h15 a_0 0 50) (fun x16 h17 => zlet (zw ((-1) * x16)) (fun x18 => zbd (q_X2_readNumber h17 a_0 0 999) (fun x19 h20 => zbd (q_X2_readNumber h20 a_0 x19 999) (fun x21 h22 => zbd (q_X2_readSemicolon h22 a_0) (fun _ h23 => if h23.1 a_0 3 = 0 then (zbd (q_X4_addStation h23 (h23.2 a_0 1) x2 x4 x18 x19 x21) (fun _ h24 => some ((), h24))) else (some ((), h23))))))))) else (zbd (q_X2_readNumber h5 a_0 0 50) (fun x6 h7 => zlet (zw (1 * x6)) (fun x8 => zbd (q_X2_readNumber h7 a_0 0 999) (fun x9 h10 => zbd (q_X2_readNumber h10 a_0 x9 999) (fun x11 h12 => zbd (q_X2_readSemicolon h12 a_0) (fun _ h13 => if h13.1 a_0 3 = 0 then (zbd (q_X4_addStation h13 (h13.2 a_0 1) x2 x4 x8 x9 x11) (fun _ h14 => some ((), h14))) else (some ((), h13)))))))))))) else (zbd (q_X2_fail h a_0 ((-16))) (fun _ h25 => zbd (q_X2_accept h25 a_0) (fun _ h26 => zbd (q_X2_readNewName h26 a_0) (fun x27 h28 => zbd (q_X2_readNumber h28 a_0 0 5000) (fun x29 h30 => if h30.1 (h30.2 a_0 0) 4 = 4 then (zbd (q_X2_accept h30 a_0) (fun _ h40 => zbd (q_X2_readNumber h40 a_0 0 50) (fun x41 h42 => zlet (zw ((-1) * x41)) (fun x43 => zbd (q_X2_readNumber h42 a_0 0 999) (fun x44 h45 => zbd (q_X2_readNumber h45 a_0 x44 999) (fun x46 h47 => zbd (q_X2_readSemicolon h47 a_0) (fun _ h48 => if h48.1 a_0 3 = 0 then (zbd (q_X4_addStation h48 (h48.2 a_0 1) x27 x29 x43 x44 x46) (fun _ h49 => some ((), h49))) else (some ((), h48))))))))) else (zbd (q_X2_readNumber h30 a_0 0 50) (fun x31 h32 => zlet (zw (1 * x31)) (fun x33 => zbd (q_X2_readNumber h32 a_0 0 999) (fun x34 h35 => zbd (q_X2_readNumber h35 a_0 x34 999) (fun x36 h37 => zbd (q_X2_readSemicolon h37 a_0) (fun _ h38 => if h38.1 a_0 3 = 0 then (zbd (q_X4_addStation h38 (h38.2 a_0 1) x27 x29 x33 x34 x36) (fun _ h39 => some ((), h39))) else (some ((), h38)))))))))))))
theorem cq_X2_readStation (w : zW) (l : Launch) (h : zH) (a_0 : Nat) : zCq w l yX2_readStation cX2_readStation 7 none 8 174 [.inr (2, a_0)] h qU (q_X2_readStation h a_0) := by
  refine zCq.of (own := RX2) (loc := [some (.inr (2, a_0)), none, none, none, none, none, none]) (by decide) rfl (Nat.le_of_ble_eq_true rfl) (fun k v hk => ?_) ?_
  · exact zloc_ok 6 rfl hk
  intro p e s m args below meth c C Z1 Z2
  unfold q_X2_readStation
  refine q_aload_n C dX2_readStation_0 rfl ?_
  refine q_getR C dX2_readStation_1 fl2_21 rfl ?_
  refine q_getI C dX2_readStation_4 fl2_102 rfl ?_
  refine q_bipush C dX2_readStation_7 (by decide) rfl ?_
  refine q_icmp_lt C dX2_readStation_9 (tgt := 18) (by decide) ?_ ?_
  · refine q_aload_n C dX2_readStation_18 rfl ?_
    refine q_callVU C dX2_readStation_19 mv2_90 (cq_X2_accept w l h _) rfl ⟨by decide, by decide⟩ ⟨rfl, Nat.le_of_ble_eq_true rfl⟩ (fun _ h1 => ?_)
    refine q_aload_n C dX2_readStation_22 rfl ?_
    refine q_callVI C dX2_readStation_23 mv2_105 (cq_X2_readNewName w l h1 _) rfl ⟨by decide, by decide⟩ ⟨rfl, Nat.le_of_ble_eq_true rfl⟩ (fun x2 h3 => ?_)
    refine q_istore_n C dX2_readStation_26 (by decide) ?_
    refine q_aload_n C dX2_readStation_27 rfl ?_
    refine q_iconst C dX2_readStation_28 rfl ?_
    refine q_sipush C dX2_readStation_29 (by decide) rfl ?_
    refine q_callVI C dX2_readStation_32 mv2_93 (cq_X2_readNumber w l h3 _ _ _) rfl ⟨by decide, by decide⟩ ⟨rfl, Nat.le_of_ble_eq_true rfl⟩ (fun x4 h5 => ?_)
    refine q_istore_n C dX2_readStation_35 (by decide) ?_
    refine q_iconst C dX2_readStation_36 rfl ?_
    refine q_istore_n C dX2_readStation_37 (by decide) ?_
    refine q_aload_n C dX2_readStation_38 rfl ?_
    refine q_getR C dX2_readStation_39 fl2_12 rfl ?_
    refine q_getI C dX2_readStation_42 fl2_52 rfl ?_
    refine q_iconst C dX2_readStation_45 rfl ?_
    refine q_icmp_ne C dX2_readStation_46 (tgt := 55) (by decide) ?_ ?_
    · refine q_iload_n C dX2_readStation_55 rfl ?_
      refine q_aload_n C dX2_readStation_56 rfl ?_
      refine q_iconst C dX2_readStation_57 rfl ?_
      refine q_bipush C dX2_readStation_58 (by decide) rfl ?_
      refine q_callVI C dX2_readStation_60 mv2_93 (cq_X2_readNumber w l h5 _ _ _) rfl ⟨by decide, by decide⟩ ⟨rfl, Nat.le_of_ble_eq_true rfl⟩ (fun x6 h7 => ?_)
      refine q_imul C dX2_readStation_63 ?_
      refine q_istoreL C dX2_readStation_64 (by decide) (fun x8 => ?_)
      refine q_aload_n C dX2_readStation_66 rfl ?_
      refine q_iconst C dX2_readStation_67 rfl ?_
      refine q_sipush C dX2_readStation_68 (by decide) rfl ?_
      refine q_callVI C dX2_readStation_71 mv2_93 (cq_X2_readNumber w l h7 _ _ _) rfl ⟨by decide, by decide⟩ ⟨rfl, Nat.le_of_ble_eq_true rfl⟩ (fun x9 h10 => ?_)
      refine q_istore C dX2_readStation_74 (by decide) ?_
      refine q_aload_n C dX2_readStation_76 rfl ?_
      refine q_iload C dX2_readStation_77 rfl ?_
      refine q_sipush C dX2_readStation_79 (by decide) rfl ?_
      refine q_callVI C dX2_readStation_82 mv2_93 (cq_X2_readNumber w l h10 _ _ _) rfl ⟨by decide, by decide⟩ ⟨rfl, Nat.le_of_ble_eq_true rfl⟩ (fun x11 h12 => ?_)
      refine q_istore C dX2_readStation_85 (by decide) ?_
      refine q_aload_n C dX2_readStation_87 rfl ?_
      refine q_callVU C dX2_readStation_88 mv2_97 (cq_X2_readSemicolon w l h12 _) rfl ⟨by decide, by decide⟩ ⟨rfl, Nat.le_of_ble_eq_true rfl⟩ (fun _ h13 => ?_)
      refine q_aload_n C dX2_readStation_91 rfl ?_
      refine q_getI C dX2_readStation_92 fl2_39 rfl ?_
      refine q_if_ne C dX2_readStation_95 (tgt := 113) (by decide) ?_ ?_
      · exact q_vret C Z1 Z2 dX2_readStation_113
      · refine q_aload_n C dX2_readStation_98 rfl ?_
        refine q_getR C dX2_readStation_99 fl2_21 rfl ?_
        refine q_iload_n C dX2_readStation_102 rfl ?_
        refine q_iload_n C dX2_readStation_103 rfl ?_
        refine q_iload C dX2_readStation_104 rfl ?_
        refine q_iload C dX2_readStation_106 rfl ?_
        refine q_iload C dX2_readStation_108 rfl ?_
        refine q_callVU C dX2_readStation_110 mv2_109 (cq_X4_addStation w l h13 _ _ _ _ _ _) rfl ⟨by decide, by decide⟩ ⟨rfl, Nat.le_of_ble_eq_true rfl⟩ (fun _ h14 => ?_)
        exact q_vret C Z1 Z2 dX2_readStation_113
    · refine q_iconst C dX2_readStation_49 rfl ?_
      refine q_istore_n C dX2_readStation_50 (by decide) ?_
      refine q_aload_n C dX2_readStation_51 rfl ?_
      refine q_callVU C dX2_readStation_52 mv2_90 (cq_X2_accept w l h5 _) rfl ⟨by decide, by decide⟩ ⟨rfl, Nat.le_of_ble_eq_true rfl⟩ (fun _ h15 => ?_)
      refine q_iload_n C dX2_readStation_55 rfl ?_
      refine q_aload_n C dX2_readStation_56 rfl ?_
      refine q_iconst C dX2_readStation_57 rfl ?_
      refine q_bipush C dX2_readStation_58 (by decide) rfl ?_
      refine q_callVI C dX2_readStation_60 mv2_93 (cq_X2_readNumber w l h15 _ _ _) rfl ⟨by decide, by decide⟩ ⟨rfl, Nat.le_of_ble_eq_true rfl⟩ (fun x16 h17 => ?_)
      refine q_imul C dX2_readStation_63 ?_
      refine q_istoreL C dX2_readStation_64 (by decide) (fun x18 => ?_)
      refine q_aload_n C dX2_readStation_66 rfl ?_
      refine q_iconst C dX2_readStation_67 rfl ?_
      refine q_sipush C dX2_readStation_68 (by decide) rfl ?_
      refine q_callVI C dX2_readStation_71 mv2_93 (cq_X2_readNumber w l h17 _ _ _) rfl ⟨by decide, by decide⟩ ⟨rfl, Nat.le_of_ble_eq_true rfl⟩ (fun x19 h20 => ?_)
      refine q_istore C dX2_readStation_74 (by decide) ?_
      refine q_aload_n C dX2_readStation_76 rfl ?_
      refine q_iload C dX2_readStation_77 rfl ?_
      refine q_sipush C dX2_readStation_79 (by decide) rfl ?_
      refine q_callVI C dX2_readStation_82 mv2_93 (cq_X2_readNumber w l h20 _ _ _) rfl ⟨by decide, by decide⟩ ⟨rfl, Nat.le_of_ble_eq_true rfl⟩ (fun x21 h22 => ?_)
      refine q_istore C dX2_readStation_85 (by decide) ?_
      refine q_aload_n C dX2_readStation_87 rfl ?_
      refine q_callVU C dX2_readStation_88 mv2_97 (cq_X2_readSemicolon w l h22 _) rfl ⟨by decide, by decide⟩ ⟨rfl, Nat.le_of_ble_eq_true rfl⟩ (fun _ h23 => ?_)
      refine q_aload_n C dX2_readStation_91 rfl ?_
      refine q_getI C dX2_readStation_92 fl2_39 rfl ?_
      refine q_if_ne C dX2_readStation_95 (tgt := 113) (by decide) ?_ ?_
      · exact q_vret C Z1 Z2 dX2_readStation_113
      · refine q_aload_n C dX2_readStation_98 rfl ?_
        refine q_getR C dX2_readStation_99 fl2_21 rfl ?_
        refine q_iload_n C dX2_readStation_102 rfl ?_
        refine q_iload_n C dX2_readStation_103 rfl ?_
        refine q_iload C dX2_readStation_104 rfl ?_
        refine q_iload C dX2_readStation_106 rfl ?_
        refine q_iload C dX2_readStation_108 rfl ?_
        refine q_callVU C dX2_readStation_110 mv2_109 (cq_X4_addStation w l h23 _ _ _ _ _ _) rfl ⟨by decide, by decide⟩ ⟨rfl, Nat.le_of_ble_eq_true rfl⟩ (fun _ h24 => ?_)
        exact q_vret C Z1 Z2 dX2_readStation_113
  · refine q_aload_n C dX2_readStation_12 rfl ?_
    refine q_bipush C dX2_readStation_13 (by decide) rfl ?_
    refine q_callVU C dX2_readStation_15 mv2_84 (cq_X2_fail w l h _ _) rfl ⟨by decide, by decide⟩ ⟨rfl, Nat.le_of_ble_eq_true rfl⟩ (fun _ h25 => ?_)
    refine q_aload_n C dX2_readStation_18 rfl ?_
    refine q_callVU C dX2_readStation_19 mv2_90 (cq_X2_accept w l h25 _) rfl ⟨by decide, by decide⟩ ⟨rfl, Nat.le_of_ble_eq_true rfl⟩ (fun _ h26 => ?_)
    refine q_aload_n C dX2_readStation_22 rfl ?_
    refine q_callVI C dX2_readStation_23 mv2_105 (cq_X2_readNewName w l h26 _) rfl ⟨by decide, by decide⟩ ⟨rfl, Nat.le_of_ble_eq_true rfl⟩ (fun x27 h28 => ?_)
    refine q_istore_n C dX2_readStation_26 (by decide) ?_
    refine q_aload_n C dX2_readStation_27 rfl ?_
    refine q_iconst C dX2_readStation_28 rfl ?_
    refine q_sipush C dX2_readStation_29 (by decide) rfl ?_
    refine q_callVI C dX2_readStation_32 mv2_93 (cq_X2_readNumber w l h28 _ _ _) rfl ⟨by decide, by decide⟩ ⟨rfl, Nat.le_of_ble_eq_true rfl⟩ (fun x29 h30 => ?_)
    refine q_istore_n C dX2_readStation_35 (by decide) ?_
    refine q_iconst C dX2_readStation_36 rfl ?_
    refine q_istore_n C dX2_readStation_37 (by decide) ?_
    refine q_aload_n C dX2_readStation_38 rfl ?_
    refine q_getR C dX2_readStation_39 fl2_12 rfl ?_
    refine q_getI C dX2_readStation_42 fl2_52 rfl ?_
    refine q_iconst C dX2_readStation_45 rfl ?_
    refine q_icmp_ne C dX2_readStation_46 (tgt := 55) (by decide) ?_ ?_
    · refine q_iload_n C dX2_readStation_55 rfl ?_
      refine q_aload_n C dX2_readStation_56 rfl ?_
      refine q_iconst C dX2_readStation_57 rfl ?_
      refine q_bipush C dX2_readStation_58 (by decide) rfl ?_
      refine q_callVI C dX2_readStation_60 mv2_93 (cq_X2_readNumber w l h30 _ _ _) rfl ⟨by decide, by decide⟩ ⟨rfl, Nat.le_of_ble_eq_true rfl⟩ (fun x31 h32 => ?_)
      refine q_imul C dX2_readStation_63 ?_
      refine q_istoreL C dX2_readStation_64 (by decide) (fun x33 => ?_)
      refine q_aload_n C dX2_readStation_66 rfl ?_
      refine q_iconst C dX2_readStation_67 rfl ?_
      refine q_sipush C dX2_readStation_68 (by decide) rfl ?_
      refine q_callVI C dX2_readStation_71 mv2_93 (cq_X2_readNumber w l h32 _ _ _) rfl ⟨by decide, by decide⟩ ⟨rfl, Nat.le_of_ble_eq_true rfl⟩ (fun x34 h35 => ?_)
      refine q_istore C dX2_readStation_74 (by decide) ?_
      refine q_aload_n C dX2_readStation_76 rfl ?_
      refine q_iload C dX2_readStation_77 rfl ?_
      refine q_sipush C dX2_readStation_79 (by decide) rfl ?_
      refine q_callVI C dX2_readStation_82 mv2_93 (cq_X2_readNumber w l h35 _ _ _) rfl ⟨by decide, by decide⟩ ⟨rfl, Nat.le_of_ble_eq_true rfl⟩ (fun x36 h37 => ?_)
      refine q_istore C dX2_readStation_85 (by decide) ?_
      refine q_aload_n C dX2_readStation_87 rfl ?_
      refine q_callVU C dX2_readStation_88 mv2_97 (cq_X2_readSemicolon w l h37 _) rfl ⟨by decide, by decide⟩ ⟨rfl, Nat.le_of_ble_eq_true rfl⟩ (fun _ h38 => ?_)
      refine q_aload_n C dX2_readStation_91 rfl ?_
      refine q_getI C dX2_readStation_92 fl2_39 rfl ?_
      refine q_if_ne C dX2_readStation_95 (tgt := 113) (by decide) ?_ ?_
      · exact q_vret C Z1 Z2 dX2_readStation_113
      · refine q_aload_n C dX2_readStation_98 rfl ?_
        refine q_getR C dX2_readStation_99 fl2_21 rfl ?_
        refine q_iload_n C dX2_readStation_102 rfl ?_
        refine q_iload_n C dX2_readStation_103 rfl ?_
        refine q_iload C dX2_readStation_104 rfl ?_
        refine q_iload C dX2_readStation_106 rfl ?_
        refine q_iload C dX2_readStation_108 rfl ?_
        refine q_callVU C dX2_readStation_110 mv2_109 (cq_X4_addStation w l h38 _ _ _ _ _ _) rfl ⟨by decide, by decide⟩ ⟨rfl, Nat.le_of_ble_eq_true rfl⟩ (fun _ h39 => ?_)
        exact q_vret C Z1 Z2 dX2_readStation_113
    · refine q_iconst C dX2_readStation_49 rfl ?_
      refine q_istore_n C dX2_readStation_50 (by decide) ?_
      refine q_aload_n C dX2_readStation_51 rfl ?_
      refine q_callVU C dX2_readStation_52 mv2_90 (cq_X2_accept w l h30 _) rfl ⟨by decide, by decide⟩ ⟨rfl, Nat.le_of_ble_eq_true rfl⟩ (fun _ h40 => ?_)
      refine q_iload_n C dX2_readStation_55 rfl ?_
      refine q_aload_n C dX2_readStation_56 rfl ?_
      refine q_iconst C dX2_readStation_57 rfl ?_
      refine q_bipush C dX2_readStation_58 (by decide) rfl ?_
      refine q_callVI C dX2_readStation_60 mv2_93 (cq_X2_readNumber w l h40 _ _ _) rfl ⟨by decide, by decide⟩ ⟨rfl, Nat.le_of_ble_eq_true rfl⟩ (fun x41 h42 => ?_)
      refine q_imul C dX2_readStation_63 ?_
      refine q_istoreL C dX2_readStation_64 (by decide) (fun x43 => ?_)
      refine q_aload_n C dX2_readStation_66 rfl ?_
      refine q_iconst C dX2_readStation_67 rfl ?_
      refine q_sipush C dX2_readStation_68 (by decide) rfl ?_
      refine q_callVI C dX2_readStation_71 mv2_93 (cq_X2_readNumber w l h42 _ _ _) rfl ⟨by decide, by decide⟩ ⟨rfl, Nat.le_of_ble_eq_true rfl⟩ (fun x44 h45 => ?_)
      refine q_istore C dX2_readStation_74 (by decide) ?_
      refine q_aload_n C dX2_readStation_76 rfl ?_
      refine q_iload C dX2_readStation_77 rfl ?_
      refine q_sipush C dX2_readStation_79 (by decide) rfl ?_
      refine q_callVI C dX2_readStation_82 mv2_93 (cq_X2_readNumber w l h45 _ _ _) rfl ⟨by decide, by decide⟩ ⟨rfl, Nat.le_of_ble_eq_true rfl⟩ (fun x46 h47 => ?_)
      refine q_istore C dX2_readStation_85 (by decide) ?_
      refine q_aload_n C dX2_readStation_87 rfl ?_
      refine q_callVU C dX2_readStation_88 mv2_97 (cq_X2_readSemicolon w l h47 _) rfl ⟨by decide, by decide⟩ ⟨rfl, Nat.le_of_ble_eq_true rfl⟩ (fun _ h48 => ?_)
      refine q_aload_n C dX2_readStation_91 rfl ?_
      refine q_getI C dX2_readStation_92 fl2_39 rfl ?_
      refine q_if_ne C dX2_readStation_95 (tgt := 113) (by decide) ?_ ?_
      · exact q_vret C Z1 Z2 dX2_readStation_113
      · refine q_aload_n C dX2_readStation_98 rfl ?_
        refine q_getR C dX2_readStation_99 fl2_21 rfl ?_
        refine q_iload_n C dX2_readStation_102 rfl ?_
        refine q_iload_n C dX2_readStation_103 rfl ?_
        refine q_iload C dX2_readStation_104 rfl ?_
        refine q_iload C dX2_readStation_106 rfl ?_
        refine q_iload C dX2_readStation_108 rfl ?_
        refine q_callVU C dX2_readStation_110 mv2_109 (cq_X4_addStation w l h48 _ _ _ _ _ _) rfl ⟨by decide, by decide⟩ ⟨rfl, Nat.le_of_ble_eq_true rfl⟩ (fun _ h49 => ?_)
        exact q_vret C Z1 Z2 dX2_readStation_113
def q_X2_readStationName (h : zH) (a_0 : Nat) (x_1 : Int) : Option (Int × zH) := zbd (q_X2_readName h a_0) (fun x1 h2 => zbp (q_X4_stationWithName h2 (h.2 a_0 1) x1) (fun x3 => if x3 = (-1) then (zbd (q_X2_fail h2 a_0 ((-13))) (fun _ h4 => zbd (q_X2_accept h4 a_0) (fun _ h5 => some (x3, h5)))) else (if x3 = x_1 then (zbd (q_X2_fail h2 a_0 ((-13))) (fun _ h7 => zbd (q_X2_accept h7 a_0) (fun _ h8 => some (x3, h8)))) else (zbd (q_X2_accept h2 a_0) (fun _ h6 => some (x3, h6))))))
theorem cq_X2_readStationName (w : zW) (l : Launch) (h : zH) (a_0 : Nat) (x_1 : Int) : zCq w l yX2_readStationName cX2_readStationName 3 (some .int) 7 153 [.inr (2, a_0), .inl x_1] h qI (q_X2_readStationName h a_0 x_1) := by
  refine zCq.of (own := RX2) (loc := [some (.inr (2, a_0)), some (.inl x_1), none]) (by decide) rfl (Nat.le_of_ble_eq_true rfl) (fun k v hk => ?_) ?_
  · exact zloc_ok 1 rfl hk
  intro p e s m args below meth c C Z1 Z2
  unfold q_X2_readStationName
  refine q_aload_n C dX2_readStationName_0 rfl ?_
  refine q_getR C dX2_readStationName_1 fl2_21 rfl ?_
  refine q_aload_n C dX2_readStationName_4 rfl ?_
  refine q_callVI C dX2_readStationName_5 mv2_153 (cq_X2_readName w l h _) rfl ⟨by decide, by decide⟩ ⟨rfl, Nat.le_of_ble_eq_true rfl⟩ (fun x1 h2 => ?_)
  refine q_pcallVI C dX2_readStationName_8 mv2_156 (cq_X4_stationWithName w l h2 _ _) rfl ⟨by decide, by decide⟩ ⟨rfl, Nat.le_of_ble_eq_true rfl⟩ (fun x3 => ?_)
  refine q_istore_n C dX2_readStationName_11 (by decide) ?_
  refine q_iload_n C dX2_readStationName_12 rfl ?_
  refine q_iconst C dX2_readStationName_13 rfl ?_
  refine q_icmp_eq C dX2_readStationName_14 (tgt := 22) (by decide) ?_ ?_
  · refine q_aload_n C dX2_readStationName_22 rfl ?_
    refine q_bipush C dX2_readStationName_23 (by decide) rfl ?_
    refine q_callVU C dX2_readStationName_25 mv2_84 (cq_X2_fail w l h2 _ _) rfl ⟨by decide, by decide⟩ ⟨rfl, Nat.le_of_ble_eq_true rfl⟩ (fun _ h4 => ?_)
    refine q_aload_n C dX2_readStationName_28 rfl ?_
    refine q_callVU C dX2_readStationName_29 mv2_90 (cq_X2_accept w l h4 _) rfl ⟨by decide, by decide⟩ ⟨rfl, Nat.le_of_ble_eq_true rfl⟩ (fun _ h5 => ?_)
    refine q_iload_n C dX2_readStationName_32 rfl ?_
    exact q_iret C Z1 Z2 dX2_readStationName_33
  · refine q_iload_n C dX2_readStationName_17 rfl ?_
    refine q_iload_n C dX2_readStationName_18 rfl ?_
    refine q_icmp_ne C dX2_readStationName_19 (tgt := 28) (by decide) ?_ ?_
    · refine q_aload_n C dX2_readStationName_28 rfl ?_
      refine q_callVU C dX2_readStationName_29 mv2_90 (cq_X2_accept w l h2 _) rfl ⟨by decide, by decide⟩ ⟨rfl, Nat.le_of_ble_eq_true rfl⟩ (fun _ h6 => ?_)
      refine q_iload_n C dX2_readStationName_32 rfl ?_
      exact q_iret C Z1 Z2 dX2_readStationName_33
    · refine q_aload_n C dX2_readStationName_22 rfl ?_
      refine q_bipush C dX2_readStationName_23 (by decide) rfl ?_
      refine q_callVU C dX2_readStationName_25 mv2_84 (cq_X2_fail w l h2 _ _) rfl ⟨by decide, by decide⟩ ⟨rfl, Nat.le_of_ble_eq_true rfl⟩ (fun _ h7 => ?_)
      refine q_aload_n C dX2_readStationName_28 rfl ?_
      refine q_callVU C dX2_readStationName_29 mv2_90 (cq_X2_accept w l h7 _) rfl ⟨by decide, by decide⟩ ⟨rfl, Nat.le_of_ble_eq_true rfl⟩ (fun _ h8 => ?_)
      refine q_iload_n C dX2_readStationName_32 rfl ?_
      exact q_iret C Z1 Z2 dX2_readStationName_33
def q_X2_readRain (h : zH) (a_0 : Nat) : Option (Unit × zH) := if h.1 (h.2 a_0 1) 5 < 8 then (zbd (q_X2_accept h a_0) (fun _ h1 => zbd (q_X2_readStationName h1 a_0 ((-1))) (fun x2 h3 => zbd (q_X2_readNumber h3 a_0 0 9999) (fun x4 h5 => zbd (q_X2_readNumber h5 a_0 x4 9999) (fun x6 h7 => zbd (q_X2_readNumber h7 a_0 1 400) (fun x8 h9 => zbd (q_X2_readSemicolon h9 a_0) (fun _ h10 => if h10.1 a_0 3 = 0 then (zbd (q_X4_addRain h10 (h10.2 a_0 1) x2 x4 x6 x8) (fun _ h11 => some ((), h11))) else (some ((), h10))))))))) else (zbd (q_X2_fail h a_0 ((-16))) (fun _ h12 => zbd (q_X2_accept h12 a_0) (fun _ h13 => zbd (q_X2_readStationName h13 a_0 ((-1))) (fun x14 h15 => zbd (q_X2_readNumber h15 a_0 0 9999) (fun x16 h17 => zbd (q_X2_readNumber h17 a_0 x16 9999) (fun x18 h19 => zbd (q_X2_readNumber h19 a_0 1 400) (fun x20 h21 => zbd (q_X2_readSemicolon h21 a_0) (fun _ h22 => if h22.1 a_0 3 = 0 then (zbd (q_X4_addRain h22 (h22.2 a_0 1) x14 x16 x18 x20) (fun _ h23 => some ((), h23))) else (some ((), h22))))))))))
theorem cq_X2_readRain (w : zW) (l : Launch) (h : zH) (a_0 : Nat) : zCq w l yX2_readRain cX2_readRain 5 none 8 175 [.inr (2, a_0)] h qU (q_X2_readRain h a_0) := by
  refine zCq.of (own := RX2) (loc := [some (.inr (2, a_0)), none, none, none, none]) (by decide) rfl (Nat.le_of_ble_eq_true rfl) (fun k v hk => ?_) ?_
  · exact zloc_ok 4 rfl hk
  intro p e s m args below meth c C Z1 Z2
  unfold q_X2_readRain
  refine q_aload_n C dX2_readRain_0 rfl ?_
  refine q_getR C dX2_readRain_1 fl2_21 rfl ?_
  refine q_getI C dX2_readRain_4 fl2_113 rfl ?_
  refine q_bipush C dX2_readRain_7 (by decide) rfl ?_
  refine q_icmp_lt C dX2_readRain_9 (tgt := 18) (by decide) ?_ ?_
  · refine q_aload_n C dX2_readRain_18 rfl ?_
    refine q_callVU C dX2_readRain_19 mv2_90 (cq_X2_accept w l h _) rfl ⟨by decide, by decide⟩ ⟨rfl, Nat.le_of_ble_eq_true rfl⟩ (fun _ h1 => ?_)
    refine q_aload_n C dX2_readRain_22 rfl ?_
    refine q_iconst C dX2_readRain_23 rfl ?_
    refine q_callVI C dX2_readRain_24 mv2_116 (cq_X2_readStationName w l h1 _ _) rfl ⟨by decide, by decide⟩ ⟨rfl, Nat.le_of_ble_eq_true rfl⟩ (fun x2 h3 => ?_)
    refine q_istore_n C dX2_readRain_27 (by decide) ?_
    refine q_aload_n C dX2_readRain_28 rfl ?_
    refine q_iconst C dX2_readRain_29 rfl ?_
    refine q_sipush C dX2_readRain_30 (by decide) rfl ?_
    refine q_callVI C dX2_readRain_33 mv2_93 (cq_X2_readNumber w l h3 _ _ _) rfl ⟨by decide, by decide⟩ ⟨rfl, Nat.le_of_ble_eq_true rfl⟩ (fun x4 h5 => ?_)
    refine q_istore_n C dX2_readRain_36 (by decide) ?_
    refine q_aload_n C dX2_readRain_37 rfl ?_
    refine q_iload_n C dX2_readRain_38 rfl ?_
    refine q_sipush C dX2_readRain_39 (by decide) rfl ?_
    refine q_callVI C dX2_readRain_42 mv2_93 (cq_X2_readNumber w l h5 _ _ _) rfl ⟨by decide, by decide⟩ ⟨rfl, Nat.le_of_ble_eq_true rfl⟩ (fun x6 h7 => ?_)
    refine q_istore_n C dX2_readRain_45 (by decide) ?_
    refine q_aload_n C dX2_readRain_46 rfl ?_
    refine q_iconst C dX2_readRain_47 rfl ?_
    refine q_sipush C dX2_readRain_48 (by decide) rfl ?_
    refine q_callVI C dX2_readRain_51 mv2_93 (cq_X2_readNumber w l h7 _ _ _) rfl ⟨by decide, by decide⟩ ⟨rfl, Nat.le_of_ble_eq_true rfl⟩ (fun x8 h9 => ?_)
    refine q_istore C dX2_readRain_54 (by decide) ?_
    refine q_aload_n C dX2_readRain_56 rfl ?_
    refine q_callVU C dX2_readRain_57 mv2_97 (cq_X2_readSemicolon w l h9 _) rfl ⟨by decide, by decide⟩ ⟨rfl, Nat.le_of_ble_eq_true rfl⟩ (fun _ h10 => ?_)
    refine q_aload_n C dX2_readRain_60 rfl ?_
    refine q_getI C dX2_readRain_61 fl2_39 rfl ?_
    refine q_if_ne C dX2_readRain_64 (tgt := 79) (by decide) ?_ ?_
    · exact q_vret C Z1 Z2 dX2_readRain_79
    · refine q_aload_n C dX2_readRain_67 rfl ?_
      refine q_getR C dX2_readRain_68 fl2_21 rfl ?_
      refine q_iload_n C dX2_readRain_71 rfl ?_
      refine q_iload_n C dX2_readRain_72 rfl ?_
      refine q_iload_n C dX2_readRain_73 rfl ?_
      refine q_iload C dX2_readRain_74 rfl ?_
      refine q_callVU C dX2_readRain_76 mv2_120 (cq_X4_addRain w l h10 _ _ _ _ _) rfl ⟨by decide, by decide⟩ ⟨rfl, Nat.le_of_ble_eq_true rfl⟩ (fun _ h11 => ?_)
      exact q_vret C Z1 Z2 dX2_readRain_79
  · refine q_aload_n C dX2_readRain_12 rfl ?_
    refine q_bipush C dX2_readRain_13 (by decide) rfl ?_
    refine q_callVU C dX2_readRain_15 mv2_84 (cq_X2_fail w l h _ _) rfl ⟨by decide, by decide⟩ ⟨rfl, Nat.le_of_ble_eq_true rfl⟩ (fun _ h12 => ?_)
    refine q_aload_n C dX2_readRain_18 rfl ?_
    refine q_callVU C dX2_readRain_19 mv2_90 (cq_X2_accept w l h12 _) rfl ⟨by decide, by decide⟩ ⟨rfl, Nat.le_of_ble_eq_true rfl⟩ (fun _ h13 => ?_)
    refine q_aload_n C dX2_readRain_22 rfl ?_
    refine q_iconst C dX2_readRain_23 rfl ?_
    refine q_callVI C dX2_readRain_24 mv2_116 (cq_X2_readStationName w l h13 _ _) rfl ⟨by decide, by decide⟩ ⟨rfl, Nat.le_of_ble_eq_true rfl⟩ (fun x14 h15 => ?_)
    refine q_istore_n C dX2_readRain_27 (by decide) ?_
    refine q_aload_n C dX2_readRain_28 rfl ?_
    refine q_iconst C dX2_readRain_29 rfl ?_
    refine q_sipush C dX2_readRain_30 (by decide) rfl ?_
    refine q_callVI C dX2_readRain_33 mv2_93 (cq_X2_readNumber w l h15 _ _ _) rfl ⟨by decide, by decide⟩ ⟨rfl, Nat.le_of_ble_eq_true rfl⟩ (fun x16 h17 => ?_)
    refine q_istore_n C dX2_readRain_36 (by decide) ?_
    refine q_aload_n C dX2_readRain_37 rfl ?_
    refine q_iload_n C dX2_readRain_38 rfl ?_
    refine q_sipush C dX2_readRain_39 (by decide) rfl ?_
    refine q_callVI C dX2_readRain_42 mv2_93 (cq_X2_readNumber w l h17 _ _ _) rfl ⟨by decide, by decide⟩ ⟨rfl, Nat.le_of_ble_eq_true rfl⟩ (fun x18 h19 => ?_)
    refine q_istore_n C dX2_readRain_45 (by decide) ?_
    refine q_aload_n C dX2_readRain_46 rfl ?_
    refine q_iconst C dX2_readRain_47 rfl ?_
    refine q_sipush C dX2_readRain_48 (by decide) rfl ?_
    refine q_callVI C dX2_readRain_51 mv2_93 (cq_X2_readNumber w l h19 _ _ _) rfl ⟨by decide, by decide⟩ ⟨rfl, Nat.le_of_ble_eq_true rfl⟩ (fun x20 h21 => ?_)
    refine q_istore C dX2_readRain_54 (by decide) ?_
    refine q_aload_n C dX2_readRain_56 rfl ?_
    refine q_callVU C dX2_readRain_57 mv2_97 (cq_X2_readSemicolon w l h21 _) rfl ⟨by decide, by decide⟩ ⟨rfl, Nat.le_of_ble_eq_true rfl⟩ (fun _ h22 => ?_)
    refine q_aload_n C dX2_readRain_60 rfl ?_
    refine q_getI C dX2_readRain_61 fl2_39 rfl ?_
    refine q_if_ne C dX2_readRain_64 (tgt := 79) (by decide) ?_ ?_
    · exact q_vret C Z1 Z2 dX2_readRain_79
    · refine q_aload_n C dX2_readRain_67 rfl ?_
      refine q_getR C dX2_readRain_68 fl2_21 rfl ?_
      refine q_iload_n C dX2_readRain_71 rfl ?_
      refine q_iload_n C dX2_readRain_72 rfl ?_
      refine q_iload_n C dX2_readRain_73 rfl ?_
      refine q_iload C dX2_readRain_74 rfl ?_
      refine q_callVU C dX2_readRain_76 mv2_120 (cq_X4_addRain w l h22 _ _ _ _ _) rfl ⟨by decide, by decide⟩ ⟨rfl, Nat.le_of_ble_eq_true rfl⟩ (fun _ h23 => ?_)
      exact q_vret C Z1 Z2 dX2_readRain_79
def q_X2_readCall (h : zH) (a_0 : Nat) : Option (Unit × zH) := if h.1 (h.2 a_0 1) 7 < 16 then (zbd (q_X2_accept h a_0) (fun _ h1 => zbd (q_X2_readStationName h1 a_0 ((-1))) (fun x2 h3 => zbd (q_X2_readStationName h3 a_0 x2) (fun x4 h5 => zbd (q_X2_readNumber h5 a_0 0 9) (fun x6 h7 => zbd (q_X2_readNumber h7 a_0 1 2000) (fun x8 h9 => zbd (q_X2_readNumber h9 a_0 1 9999) (fun x10 h11 => zbd (q_X2_readSemicolon h11 a_0) (fun _ h12 => if h12.1 a_0 3 = 0 then (zbd (q_X4_addCall h12 (h12.2 a_0 1) x2 x4 x6 x8 x10) (fun _ h13 => some ((), h13))) else (some ((), h12)))))))))) else (zbd (q_X2_fail h a_0 ((-16))) (fun _ h14 => zbd (q_X2_accept h14 a_0) (fun _ h15 => zbd (q_X2_readStationName h15 a_0 ((-1))) (fun x16 h17 => zbd (q_X2_readStationName h17 a_0 x16) (fun x18 h19 => zbd (q_X2_readNumber h19 a_0 0 9) (fun x20 h21 => zbd (q_X2_readNumber h21 a_0 1 2000) (fun x22 h23 => zbd (q_X2_readNumber h23 a_0 1 9999) (fun x24 h25 => zbd (q_X2_readSemicolon h25 a_0) (fun _ h26 => if h26.1 a_0 3 = 0 then (zbd (q_X4_addCall h26 (h26.2 a_0 1) x16 x18 x20 x22 x24) (fun _ h27 => some ((), h27))) else (some ((), h26)))))))))))
theorem cq_X2_readCall (w : zW) (l : Launch) (h : zH) (a_0 : Nat) : zCq w l yX2_readCall cX2_readCall 6 none 8 175 [.inr (2, a_0)] h qU (q_X2_readCall h a_0) := by
  refine zCq.of (own := RX2) (loc := [some (.inr (2, a_0)), none, none, none, none, none]) (by decide) rfl (Nat.le_of_ble_eq_true rfl) (fun k v hk => ?_) ?_
  · exact zloc_ok 5 rfl hk
  intro p e s m args below meth c C Z1 Z2
  unfold q_X2_readCall
  refine q_aload_n C dX2_readCall_0 rfl ?_
  refine q_getR C dX2_readCall_1 fl2_21 rfl ?_
  refine q_getI C dX2_readCall_4 fl2_87 rfl ?_
  refine q_bipush C dX2_readCall_7 (by decide) rfl ?_
  refine q_icmp_lt C dX2_readCall_9 (tgt := 18) (by decide) ?_ ?_
  · refine q_aload_n C dX2_readCall_18 rfl ?_
    refine q_callVU C dX2_readCall_19 mv2_90 (cq_X2_accept w l h _) rfl ⟨by decide, by decide⟩ ⟨rfl, Nat.le_of_ble_eq_true rfl⟩ (fun _ h1 => ?_)
    refine q_aload_n C dX2_readCall_22 rfl ?_
    refine q_iconst C dX2_readCall_23 rfl ?_
    refine q_callVI C dX2_readCall_24 mv2_116 (cq_X2_readStationName w l h1 _ _) rfl ⟨by decide, by decide⟩ ⟨rfl, Nat.le_of_ble_eq_true rfl⟩ (fun x2 h3 => ?_)
    refine q_istore_n C dX2_readCall_27 (by decide) ?_
    refine q_aload_n C dX2_readCall_28 rfl ?_
    refine q_iload_n C dX2_readCall_29 rfl ?_
    refine q_callVI C dX2_readCall_30 mv2_116 (cq_X2_readStationName w l h3 _ _) rfl ⟨by decide, by decide⟩ ⟨rfl, Nat.le_of_ble_eq_true rfl⟩ (fun x4 h5 => ?_)
    refine q_istore_n C dX2_readCall_33 (by decide) ?_
    refine q_aload_n C dX2_readCall_34 rfl ?_
    refine q_iconst C dX2_readCall_35 rfl ?_
    refine q_bipush C dX2_readCall_36 (by decide) rfl ?_
    refine q_callVI C dX2_readCall_38 mv2_93 (cq_X2_readNumber w l h5 _ _ _) rfl ⟨by decide, by decide⟩ ⟨rfl, Nat.le_of_ble_eq_true rfl⟩ (fun x6 h7 => ?_)
    refine q_istore_n C dX2_readCall_41 (by decide) ?_
    refine q_aload_n C dX2_readCall_42 rfl ?_
    refine q_iconst C dX2_readCall_43 rfl ?_
    refine q_sipush C dX2_readCall_44 (by decide) rfl ?_
    refine q_callVI C dX2_readCall_47 mv2_93 (cq_X2_readNumber w l h7 _ _ _) rfl ⟨by decide, by decide⟩ ⟨rfl, Nat.le_of_ble_eq_true rfl⟩ (fun x8 h9 => ?_)
    refine q_istore C dX2_readCall_50 (by decide) ?_
    refine q_aload_n C dX2_readCall_52 rfl ?_
    refine q_iconst C dX2_readCall_53 rfl ?_
    refine q_sipush C dX2_readCall_54 (by decide) rfl ?_
    refine q_callVI C dX2_readCall_57 mv2_93 (cq_X2_readNumber w l h9 _ _ _) rfl ⟨by decide, by decide⟩ ⟨rfl, Nat.le_of_ble_eq_true rfl⟩ (fun x10 h11 => ?_)
    refine q_istore C dX2_readCall_60 (by decide) ?_
    refine q_aload_n C dX2_readCall_62 rfl ?_
    refine q_callVU C dX2_readCall_63 mv2_97 (cq_X2_readSemicolon w l h11 _) rfl ⟨by decide, by decide⟩ ⟨rfl, Nat.le_of_ble_eq_true rfl⟩ (fun _ h12 => ?_)
    refine q_aload_n C dX2_readCall_66 rfl ?_
    refine q_getI C dX2_readCall_67 fl2_39 rfl ?_
    refine q_if_ne C dX2_readCall_70 (tgt := 87) (by decide) ?_ ?_
    · exact q_vret C Z1 Z2 dX2_readCall_87
    · refine q_aload_n C dX2_readCall_73 rfl ?_
      refine q_getR C dX2_readCall_74 fl2_21 rfl ?_
      refine q_iload_n C dX2_readCall_77 rfl ?_
      refine q_iload_n C dX2_readCall_78 rfl ?_
      refine q_iload_n C dX2_readCall_79 rfl ?_
      refine q_iload C dX2_readCall_80 rfl ?_
      refine q_iload C dX2_readCall_82 rfl ?_
      refine q_callVU C dX2_readCall_84 mv2_124 (cq_X4_addCall w l h12 _ _ _ _ _ _) rfl ⟨by decide, by decide⟩ ⟨rfl, Nat.le_of_ble_eq_true rfl⟩ (fun _ h13 => ?_)
      exact q_vret C Z1 Z2 dX2_readCall_87
  · refine q_aload_n C dX2_readCall_12 rfl ?_
    refine q_bipush C dX2_readCall_13 (by decide) rfl ?_
    refine q_callVU C dX2_readCall_15 mv2_84 (cq_X2_fail w l h _ _) rfl ⟨by decide, by decide⟩ ⟨rfl, Nat.le_of_ble_eq_true rfl⟩ (fun _ h14 => ?_)
    refine q_aload_n C dX2_readCall_18 rfl ?_
    refine q_callVU C dX2_readCall_19 mv2_90 (cq_X2_accept w l h14 _) rfl ⟨by decide, by decide⟩ ⟨rfl, Nat.le_of_ble_eq_true rfl⟩ (fun _ h15 => ?_)
    refine q_aload_n C dX2_readCall_22 rfl ?_
    refine q_iconst C dX2_readCall_23 rfl ?_
    refine q_callVI C dX2_readCall_24 mv2_116 (cq_X2_readStationName w l h15 _ _) rfl ⟨by decide, by decide⟩ ⟨rfl, Nat.le_of_ble_eq_true rfl⟩ (fun x16 h17 => ?_)
    refine q_istore_n C dX2_readCall_27 (by decide) ?_
    refine q_aload_n C dX2_readCall_28 rfl ?_
    refine q_iload_n C dX2_readCall_29 rfl ?_
    refine q_callVI C dX2_readCall_30 mv2_116 (cq_X2_readStationName w l h17 _ _) rfl ⟨by decide, by decide⟩ ⟨rfl, Nat.le_of_ble_eq_true rfl⟩ (fun x18 h19 => ?_)
    refine q_istore_n C dX2_readCall_33 (by decide) ?_
    refine q_aload_n C dX2_readCall_34 rfl ?_
    refine q_iconst C dX2_readCall_35 rfl ?_
    refine q_bipush C dX2_readCall_36 (by decide) rfl ?_
    refine q_callVI C dX2_readCall_38 mv2_93 (cq_X2_readNumber w l h19 _ _ _) rfl ⟨by decide, by decide⟩ ⟨rfl, Nat.le_of_ble_eq_true rfl⟩ (fun x20 h21 => ?_)
    refine q_istore_n C dX2_readCall_41 (by decide) ?_
    refine q_aload_n C dX2_readCall_42 rfl ?_
    refine q_iconst C dX2_readCall_43 rfl ?_
    refine q_sipush C dX2_readCall_44 (by decide) rfl ?_
    refine q_callVI C dX2_readCall_47 mv2_93 (cq_X2_readNumber w l h21 _ _ _) rfl ⟨by decide, by decide⟩ ⟨rfl, Nat.le_of_ble_eq_true rfl⟩ (fun x22 h23 => ?_)
    refine q_istore C dX2_readCall_50 (by decide) ?_
    refine q_aload_n C dX2_readCall_52 rfl ?_
    refine q_iconst C dX2_readCall_53 rfl ?_
    refine q_sipush C dX2_readCall_54 (by decide) rfl ?_
    refine q_callVI C dX2_readCall_57 mv2_93 (cq_X2_readNumber w l h23 _ _ _) rfl ⟨by decide, by decide⟩ ⟨rfl, Nat.le_of_ble_eq_true rfl⟩ (fun x24 h25 => ?_)
    refine q_istore C dX2_readCall_60 (by decide) ?_
    refine q_aload_n C dX2_readCall_62 rfl ?_
    refine q_callVU C dX2_readCall_63 mv2_97 (cq_X2_readSemicolon w l h25 _) rfl ⟨by decide, by decide⟩ ⟨rfl, Nat.le_of_ble_eq_true rfl⟩ (fun _ h26 => ?_)
    refine q_aload_n C dX2_readCall_66 rfl ?_
    refine q_getI C dX2_readCall_67 fl2_39 rfl ?_
    refine q_if_ne C dX2_readCall_70 (tgt := 87) (by decide) ?_ ?_
    · exact q_vret C Z1 Z2 dX2_readCall_87
    · refine q_aload_n C dX2_readCall_73 rfl ?_
      refine q_getR C dX2_readCall_74 fl2_21 rfl ?_
      refine q_iload_n C dX2_readCall_77 rfl ?_
      refine q_iload_n C dX2_readCall_78 rfl ?_
      refine q_iload_n C dX2_readCall_79 rfl ?_
      refine q_iload C dX2_readCall_80 rfl ?_
      refine q_iload C dX2_readCall_82 rfl ?_
      refine q_callVU C dX2_readCall_84 mv2_124 (cq_X4_addCall w l h26 _ _ _ _ _ _) rfl ⟨by decide, by decide⟩ ⟨rfl, Nat.le_of_ble_eq_true rfl⟩ (fun _ h27 => ?_)
      exact q_vret C Z1 Z2 dX2_readCall_87
def q_X2_readSet (h : zH) (a_0 : Nat) : Option (Unit × zH) := zbd (q_X2_accept h a_0) (fun _ h1 => zbp (q_X2_settingHere h1 a_0) (fun x2 => if x2 = (-1) then (zbd (q_X2_fail h1 a_0 ((-11))) (fun _ h29 => some ((), h29))) else (if zand (zshr (h1.1 a_0 5) x2) 1 = 0 then (if 4 ≤ x2 then (zbd (q_X2_accept h1 a_0) (fun _ h3 => zgi 7 x2 (zgi 7 x2 (zbd (q_X2_readNumber h3 a_0 (zsV 0 x2.toNat) (zsV 1 x2.toNat)) (fun x4 h5 => zbd (q_X2_readSemicolon h5 a_0) (fun _ h6 => if h6.1 a_0 3 = 0 then (zlet (zput h6 a_0 5 (zor (h6.1 a_0 5) (zshl 1 x2))) (fun h7 => zgi 7 x2 (zlet (zput h7 (h7.2 (h7.2 a_0 1) 2) x2.toNat x4) (fun h8 => some ((), h8))))) else (some ((), h6)))))))) else (if h1.1 (h1.2 a_0 1) 7 ≤ 0 then (zbd (q_X2_accept h1 a_0) (fun _ h9 => zgi 7 x2 (zgi 7 x2 (zbd (q_X2_readNumber h9 a_0 (zsV 0 x2.toNat) (zsV 1 x2.toNat)) (fun x10 h11 => zbd (q_X2_readSemicolon h11 a_0) (fun _ h12 => if h12.1 a_0 3 = 0 then (zlet (zput h12 a_0 5 (zor (h12.1 a_0 5) (zshl 1 x2))) (fun h13 => zgi 7 x2 (zlet (zput h13 (h13.2 (h13.2 a_0 1) 2) x2.toNat x10) (fun h14 => some ((), h14))))) else (some ((), h12)))))))) else (zbd (q_X2_fail h1 a_0 ((-15))) (fun _ h15 => zbd (q_X2_accept h15 a_0) (fun _ h16 => zgi 7 x2 (zgi 7 x2 (zbd (q_X2_readNumber h16 a_0 (zsV 0 x2.toNat) (zsV 1 x2.toNat)) (fun x17 h18 => zbd (q_X2_readSemicolon h18 a_0) (fun _ h19 => if h19.1 a_0 3 = 0 then (zlet (zput h19 a_0 5 (zor (h19.1 a_0 5) (zshl 1 x2))) (fun h20 => zgi 7 x2 (zlet (zput h20 (h20.2 (h20.2 a_0 1) 2) x2.toNat x17) (fun h21 => some ((), h21))))) else (some ((), h19))))))))))) else (zbd (q_X2_fail h1 a_0 ((-14))) (fun _ h22 => zbd (q_X2_accept h22 a_0) (fun _ h23 => zgi 7 x2 (zgi 7 x2 (zbd (q_X2_readNumber h23 a_0 (zsV 0 x2.toNat) (zsV 1 x2.toNat)) (fun x24 h25 => zbd (q_X2_readSemicolon h25 a_0) (fun _ h26 => if h26.1 a_0 3 = 0 then (zlet (zput h26 a_0 5 (zor (h26.1 a_0 5) (zshl 1 x2))) (fun h27 => zgi 7 x2 (zlet (zput h27 (h27.2 (h27.2 a_0 1) 2) x2.toNat x24) (fun h28 => some ((), h28))))) else (some ((), h26))))))))))))
theorem cq_X2_readSet (w : zW) (l : Launch) (h : zH) (a_0 : Nat) : zCq w l yX2_readSet cX2_readSet 3 none 6 136 [.inr (2, a_0)] h qU (q_X2_readSet h a_0) := by
  refine zCq.of (own := RX2) (loc := [some (.inr (2, a_0)), none, none]) (by decide) rfl (Nat.le_of_ble_eq_true rfl) (fun k v hk => ?_) ?_
  · exact zloc_ok 2 rfl hk
  intro p e s m args below meth c C Z1 Z2
  unfold q_X2_readSet
  refine q_aload_n C dX2_readSet_0 rfl ?_
  refine q_callVU C dX2_readSet_1 mv2_90 (cq_X2_accept w l h _) rfl ⟨by decide, by decide⟩ ⟨rfl, Nat.le_of_ble_eq_true rfl⟩ (fun _ h1 => ?_)
  refine q_aload_n C dX2_readSet_4 rfl ?_
  refine q_pcallVI C dX2_readSet_5 mv2_127 (cq_X2_settingHere w l h1 _) rfl ⟨by decide, by decide⟩ ⟨rfl, Nat.le_of_ble_eq_true rfl⟩ (fun x2 => ?_)
  refine q_istore_n C dX2_readSet_8 (by decide) ?_
  refine q_iload_n C dX2_readSet_9 rfl ?_
  refine q_iconst C dX2_readSet_10 rfl ?_
  refine q_icmp_ne C dX2_readSet_11 (tgt := 21) (by decide) ?_ ?_
  · refine q_aload_n C dX2_readSet_21 rfl ?_
    refine q_getI C dX2_readSet_22 fl2_46 rfl ?_
    refine q_iload_n C dX2_readSet_25 rfl ?_
    refine q_ishr C dX2_readSet_26 ?_
    refine q_iconst C dX2_readSet_27 rfl ?_
    refine q_iand C dX2_readSet_28 ?_
    refine q_if_eq C dX2_readSet_29 (tgt := 41) (by decide) ?_ ?_
    · refine q_iload_n C dX2_readSet_41 rfl ?_
      refine q_iconst C dX2_readSet_42 rfl ?_
      refine q_icmp_ge C dX2_readSet_43 (tgt := 62) (by decide) ?_ ?_
      · refine q_aload_n C dX2_readSet_62 rfl ?_
        refine q_callVU C dX2_readSet_63 mv2_90 (cq_X2_accept w l h1 _) rfl ⟨by decide, by decide⟩ ⟨rfl, Nat.le_of_ble_eq_true rfl⟩ (fun _ h3 => ?_)
        refine q_aload_n C dX2_readSet_66 rfl ?_
        refine q_gst1 (i := 0) C dX2_readSet_67 (by decide) (by decide +kernel) ?_
        refine q_iload_n C dX2_readSet_70 rfl ?_
        refine q_sald (i := 0) C dX2_readSet_71 (by decide) ?_
        refine q_gst1 (i := 1) C dX2_readSet_72 (by decide) (by decide +kernel) ?_
        refine q_iload_n C dX2_readSet_75 rfl ?_
        refine q_sald (i := 1) C dX2_readSet_76 (by decide) ?_
        refine q_callVI C dX2_readSet_77 mv2_93 (cq_X2_readNumber w l h3 _ _ _) rfl ⟨by decide, by decide⟩ ⟨rfl, Nat.le_of_ble_eq_true rfl⟩ (fun x4 h5 => ?_)
        refine q_istore_n C dX2_readSet_80 (by decide) ?_
        refine q_aload_n C dX2_readSet_81 rfl ?_
        refine q_callVU C dX2_readSet_82 mv2_97 (cq_X2_readSemicolon w l h5 _) rfl ⟨by decide, by decide⟩ ⟨rfl, Nat.le_of_ble_eq_true rfl⟩ (fun _ h6 => ?_)
        refine q_aload_n C dX2_readSet_85 rfl ?_
        refine q_getI C dX2_readSet_86 fl2_39 rfl ?_
        refine q_if_ne C dX2_readSet_89 (tgt := 114) (by decide) ?_ ?_
        · exact q_vret C Z1 Z2 dX2_readSet_114
        · refine q_aload_n C dX2_readSet_92 rfl ?_
          refine q_dup C dX2_readSet_93 ?_
          refine q_getI C dX2_readSet_94 fl2_46 rfl ?_
          refine q_iconst C dX2_readSet_97 rfl ?_
          refine q_iload_n C dX2_readSet_98 rfl ?_
          refine q_ishl C dX2_readSet_99 ?_
          refine q_ior C dX2_readSet_100 ?_
          refine q_putI C dX2_readSet_101 pl2_46 rfl (fun h7 => ?_)
          refine q_aload_n C dX2_readSet_104 rfl ?_
          refine q_getR C dX2_readSet_105 fl2_21 rfl ?_
          refine q_getR C dX2_readSet_108 fl2_137 rfl ?_
          refine q_iload_n C dX2_readSet_111 rfl ?_
          refine q_iload_n C dX2_readSet_112 rfl ?_
          refine q_iast C dX2_readSet_113 ⟨by decide, by decide, rfl⟩ (fun h8 => ?_)
          exact q_vret C Z1 Z2 dX2_readSet_114
      · refine q_aload_n C dX2_readSet_46 rfl ?_
        refine q_getR C dX2_readSet_47 fl2_21 rfl ?_
        refine q_getI C dX2_readSet_50 fl2_87 rfl ?_
        refine q_if_le C dX2_readSet_53 (tgt := 62) (by decide) ?_ ?_
        · refine q_aload_n C dX2_readSet_62 rfl ?_
          refine q_callVU C dX2_readSet_63 mv2_90 (cq_X2_accept w l h1 _) rfl ⟨by decide, by decide⟩ ⟨rfl, Nat.le_of_ble_eq_true rfl⟩ (fun _ h9 => ?_)
          refine q_aload_n C dX2_readSet_66 rfl ?_
          refine q_gst1 (i := 0) C dX2_readSet_67 (by decide) (by decide +kernel) ?_
          refine q_iload_n C dX2_readSet_70 rfl ?_
          refine q_sald (i := 0) C dX2_readSet_71 (by decide) ?_
          refine q_gst1 (i := 1) C dX2_readSet_72 (by decide) (by decide +kernel) ?_
          refine q_iload_n C dX2_readSet_75 rfl ?_
          refine q_sald (i := 1) C dX2_readSet_76 (by decide) ?_
          refine q_callVI C dX2_readSet_77 mv2_93 (cq_X2_readNumber w l h9 _ _ _) rfl ⟨by decide, by decide⟩ ⟨rfl, Nat.le_of_ble_eq_true rfl⟩ (fun x10 h11 => ?_)
          refine q_istore_n C dX2_readSet_80 (by decide) ?_
          refine q_aload_n C dX2_readSet_81 rfl ?_
          refine q_callVU C dX2_readSet_82 mv2_97 (cq_X2_readSemicolon w l h11 _) rfl ⟨by decide, by decide⟩ ⟨rfl, Nat.le_of_ble_eq_true rfl⟩ (fun _ h12 => ?_)
          refine q_aload_n C dX2_readSet_85 rfl ?_
          refine q_getI C dX2_readSet_86 fl2_39 rfl ?_
          refine q_if_ne C dX2_readSet_89 (tgt := 114) (by decide) ?_ ?_
          · exact q_vret C Z1 Z2 dX2_readSet_114
          · refine q_aload_n C dX2_readSet_92 rfl ?_
            refine q_dup C dX2_readSet_93 ?_
            refine q_getI C dX2_readSet_94 fl2_46 rfl ?_
            refine q_iconst C dX2_readSet_97 rfl ?_
            refine q_iload_n C dX2_readSet_98 rfl ?_
            refine q_ishl C dX2_readSet_99 ?_
            refine q_ior C dX2_readSet_100 ?_
            refine q_putI C dX2_readSet_101 pl2_46 rfl (fun h13 => ?_)
            refine q_aload_n C dX2_readSet_104 rfl ?_
            refine q_getR C dX2_readSet_105 fl2_21 rfl ?_
            refine q_getR C dX2_readSet_108 fl2_137 rfl ?_
            refine q_iload_n C dX2_readSet_111 rfl ?_
            refine q_iload_n C dX2_readSet_112 rfl ?_
            refine q_iast C dX2_readSet_113 ⟨by decide, by decide, rfl⟩ (fun h14 => ?_)
            exact q_vret C Z1 Z2 dX2_readSet_114
        · refine q_aload_n C dX2_readSet_56 rfl ?_
          refine q_bipush C dX2_readSet_57 (by decide) rfl ?_
          refine q_callVU C dX2_readSet_59 mv2_84 (cq_X2_fail w l h1 _ _) rfl ⟨by decide, by decide⟩ ⟨rfl, Nat.le_of_ble_eq_true rfl⟩ (fun _ h15 => ?_)
          refine q_aload_n C dX2_readSet_62 rfl ?_
          refine q_callVU C dX2_readSet_63 mv2_90 (cq_X2_accept w l h15 _) rfl ⟨by decide, by decide⟩ ⟨rfl, Nat.le_of_ble_eq_true rfl⟩ (fun _ h16 => ?_)
          refine q_aload_n C dX2_readSet_66 rfl ?_
          refine q_gst1 (i := 0) C dX2_readSet_67 (by decide) (by decide +kernel) ?_
          refine q_iload_n C dX2_readSet_70 rfl ?_
          refine q_sald (i := 0) C dX2_readSet_71 (by decide) ?_
          refine q_gst1 (i := 1) C dX2_readSet_72 (by decide) (by decide +kernel) ?_
          refine q_iload_n C dX2_readSet_75 rfl ?_
          refine q_sald (i := 1) C dX2_readSet_76 (by decide) ?_
          refine q_callVI C dX2_readSet_77 mv2_93 (cq_X2_readNumber w l h16 _ _ _) rfl ⟨by decide, by decide⟩ ⟨rfl, Nat.le_of_ble_eq_true rfl⟩ (fun x17 h18 => ?_)
          refine q_istore_n C dX2_readSet_80 (by decide) ?_
          refine q_aload_n C dX2_readSet_81 rfl ?_
          refine q_callVU C dX2_readSet_82 mv2_97 (cq_X2_readSemicolon w l h18 _) rfl ⟨by decide, by decide⟩ ⟨rfl, Nat.le_of_ble_eq_true rfl⟩ (fun _ h19 => ?_)
          refine q_aload_n C dX2_readSet_85 rfl ?_
          refine q_getI C dX2_readSet_86 fl2_39 rfl ?_
          refine q_if_ne C dX2_readSet_89 (tgt := 114) (by decide) ?_ ?_
          · exact q_vret C Z1 Z2 dX2_readSet_114
          · refine q_aload_n C dX2_readSet_92 rfl ?_
            refine q_dup C dX2_readSet_93 ?_
            refine q_getI C dX2_readSet_94 fl2_46 rfl ?_
            refine q_iconst C dX2_readSet_97 rfl ?_
            refine q_iload_n C dX2_readSet_98 rfl ?_
            refine q_ishl C dX2_readSet_99 ?_
            refine q_ior C dX2_readSet_100 ?_
            refine q_putI C dX2_readSet_101 pl2_46 rfl (fun h20 => ?_)
            refine q_aload_n C dX2_readSet_104 rfl ?_
            refine q_getR C dX2_readSet_105 fl2_21 rfl ?_
            refine q_getR C dX2_readSet_108 fl2_137 rfl ?_
            refine q_iload_n C dX2_readSet_111 rfl ?_
            refine q_iload_n C dX2_readSet_112 rfl ?_
            refine q_iast C dX2_readSet_113 ⟨by decide, by decide, rfl⟩ (fun h21 => ?_)
            exact q_vret C Z1 Z2 dX2_readSet_114
    · refine q_aload_n C dX2_readSet_32 rfl ?_
      refine q_bipush C dX2_readSet_33 (by decide) rfl ?_
      refine q_callVU C dX2_readSet_35 mv2_84 (cq_X2_fail w l h1 _ _) rfl ⟨by decide, by decide⟩ ⟨rfl, Nat.le_of_ble_eq_true rfl⟩ (fun _ h22 => ?_)
      refine q_goto C dX2_readSet_38 (tgt := 62) (by decide) ?_
      refine q_aload_n C dX2_readSet_62 rfl ?_
      refine q_callVU C dX2_readSet_63 mv2_90 (cq_X2_accept w l h22 _) rfl ⟨by decide, by decide⟩ ⟨rfl, Nat.le_of_ble_eq_true rfl⟩ (fun _ h23 => ?_)
      refine q_aload_n C dX2_readSet_66 rfl ?_
      refine q_gst1 (i := 0) C dX2_readSet_67 (by decide) (by decide +kernel) ?_
      refine q_iload_n C dX2_readSet_70 rfl ?_
      refine q_sald (i := 0) C dX2_readSet_71 (by decide) ?_
      refine q_gst1 (i := 1) C dX2_readSet_72 (by decide) (by decide +kernel) ?_
      refine q_iload_n C dX2_readSet_75 rfl ?_
      refine q_sald (i := 1) C dX2_readSet_76 (by decide) ?_
      refine q_callVI C dX2_readSet_77 mv2_93 (cq_X2_readNumber w l h23 _ _ _) rfl ⟨by decide, by decide⟩ ⟨rfl, Nat.le_of_ble_eq_true rfl⟩ (fun x24 h25 => ?_)
      refine q_istore_n C dX2_readSet_80 (by decide) ?_
      refine q_aload_n C dX2_readSet_81 rfl ?_
      refine q_callVU C dX2_readSet_82 mv2_97 (cq_X2_readSemicolon w l h25 _) rfl ⟨by decide, by decide⟩ ⟨rfl, Nat.le_of_ble_eq_true rfl⟩ (fun _ h26 => ?_)
      refine q_aload_n C dX2_readSet_85 rfl ?_
      refine q_getI C dX2_readSet_86 fl2_39 rfl ?_
      refine q_if_ne C dX2_readSet_89 (tgt := 114) (by decide) ?_ ?_
      · exact q_vret C Z1 Z2 dX2_readSet_114
      · refine q_aload_n C dX2_readSet_92 rfl ?_
        refine q_dup C dX2_readSet_93 ?_
        refine q_getI C dX2_readSet_94 fl2_46 rfl ?_
        refine q_iconst C dX2_readSet_97 rfl ?_
        refine q_iload_n C dX2_readSet_98 rfl ?_
        refine q_ishl C dX2_readSet_99 ?_
        refine q_ior C dX2_readSet_100 ?_
        refine q_putI C dX2_readSet_101 pl2_46 rfl (fun h27 => ?_)
        refine q_aload_n C dX2_readSet_104 rfl ?_
        refine q_getR C dX2_readSet_105 fl2_21 rfl ?_
        refine q_getR C dX2_readSet_108 fl2_137 rfl ?_
        refine q_iload_n C dX2_readSet_111 rfl ?_
        refine q_iload_n C dX2_readSet_112 rfl ?_
        refine q_iast C dX2_readSet_113 ⟨by decide, by decide, rfl⟩ (fun h28 => ?_)
        exact q_vret C Z1 Z2 dX2_readSet_114
  · refine q_aload_n C dX2_readSet_14 rfl ?_
    refine q_bipush C dX2_readSet_15 (by decide) rfl ?_
    refine q_callVU C dX2_readSet_17 mv2_84 (cq_X2_fail w l h1 _ _) rfl ⟨by decide, by decide⟩ ⟨rfl, Nat.le_of_ble_eq_true rfl⟩ (fun _ h29 => ?_)
    exact q_vret C Z1 Z2 dX2_readSet_20
def q_X2_readText_L37 (a0 : Nat) (k : Int → zH → Option (Int × zH)) : Nat → Int → zH → Option (Int × zH)
  | 0, _, _ => none
  | n + 1, i2, h => if 1000 ≤ i2 then (k i2 h) else (if h.1 a0 3 = 0 then (if h.1 (h.2 a0 0) 4 = 0 then (k i2 h) else (zbp (q_X6_isWord h (h.2 a0 0) 0) (fun x7 => if x7 = 0 then (zbp (q_X6_isWord h (h.2 a0 0) 1) (fun x8 => if x8 = 0 then (zbp (q_X6_isWord h (h.2 a0 0) 2) (fun x9 => if x9 = 0 then (zbp (q_X6_isWord h (h.2 a0 0) 3) (fun x10 => if x10 = 0 then (zbp (q_X6_isWord h (h.2 a0 0) 4) (fun x11 => if x11 = 0 then (zbd (q_X2_fail h a0 ((-11))) (fun _ h12 => zlet (zw (i2 + 1)) (fun x13 => q_X2_readText_L37 a0 k n x13 h12))) else (zbd (q_X2_readSet h a0) (fun _ h14 => zlet (zw (i2 + 1)) (fun x15 => q_X2_readText_L37 a0 k n x15 h14))))) else (zbd (q_X2_readCall h a0) (fun _ h16 => zlet (zw (i2 + 1)) (fun x17 => q_X2_readText_L37 a0 k n x17 h16))))) else (zbd (q_X2_readRain h a0) (fun _ h18 => zlet (zw (i2 + 1)) (fun x19 => q_X2_readText_L37 a0 k n x19 h18))))) else (zbd (q_X2_readStation h a0) (fun _ h20 => zlet (zw (i2 + 1)) (fun x21 => q_X2_readText_L37 a0 k n x21 h20))))) else (zbd (q_X2_readCarriers h a0) (fun _ h22 => zlet (zw (i2 + 1)) (fun x23 => q_X2_readText_L37 a0 k n x23 h22)))))) else (k i2 h))
def q_X2_readText (h : zH) (a_0 : Nat) (x_1 : Int) : Option (Int × zH) := zbd (q_X4_clear h (h.2 a_0 1)) (fun _ h1 => zlet (zput h1 a_0 3 0) (fun h2 => zlet (zput h2 a_0 2 ((-1))) (fun h3 => zlet (zput h3 a_0 4 0) (fun h4 => zlet (zput h4 a_0 5 0) (fun h5 => zbd (q_X6_begin h5 (h5.2 a_0 0) x_1) (fun _ h6 => q_X2_readText_L37 a_0 (fun x24 h25 => zlet (zput h25 (h25.2 a_0 0) 0 0) (fun h27 => if h27.1 a_0 3 = 0 then (some (x24, h27)) else (some (h27.1 a_0 3, h27)))) zF 0 h6))))))
theorem cq_X2_readText (w : zW) (l : Launch) (h : zH) (a_0 : Nat) (x_1 : Int) : zCq w l yX2_readText cX2_readText 3 (some .int) 9 200 [.inr (2, a_0), .inl x_1] h qI (q_X2_readText h a_0 x_1) := by
  refine zCq.of (own := RX2) (loc := [some (.inr (2, a_0)), some (.inl x_1), none]) (by decide) rfl (Nat.le_of_ble_eq_true rfl) (fun k v hk => ?_) ?_
  · exact zloc_ok 1 rfl hk
  intro p e s m args below meth c C Z1 Z2
  have L37 : ∀ (a0 : Nat) (k : Int → zH → Option (Int × zH)) (hk : ∀ (u1 : Option zv) (i2 : Int) (h : zH), zQV w p l e (zRm 9 200) s m args below meth c 3 qI (k i2 h) 168 [some (.inr (2, a0)), u1, some (.inl i2)] [] h) (n : Nat) (u1 : Option zv) (i2 : Int) (h : zH), zQV w p l e (zRm 9 200) s m args below meth c 3 qI (q_X2_readText_L37 a0 k n i2 h) 37 [some (.inr (2, a0)), u1, some (.inl i2)] [] h := by
    intro a0 k hk n
    induction n with
    | zero =>
      intro u1 i2 h
      exact q_none
    | succ n ih =>
      intro u1 i2 h
      rw [q_X2_readText_L37]
      refine q_iload_n C dX2_readText_37 rfl ?_
      refine q_sipush C dX2_readText_38 (by decide) rfl ?_
      refine q_icmp_ge C dX2_readText_41 (tgt := 168) (by decide) ?_ ?_
      · exact hk _ i2 h
      · refine q_aload_n C dX2_readText_44 rfl ?_
        refine q_getI C dX2_readText_45 fl2_39 rfl ?_
        refine q_if_ne C dX2_readText_48 (tgt := 168) (by decide) ?_ ?_
        · exact hk _ i2 h
        · refine q_aload_n C dX2_readText_51 rfl ?_
          refine q_getR C dX2_readText_52 fl2_12 rfl ?_
          refine q_getI C dX2_readText_55 fl2_52 rfl ?_
          refine q_if_eq C dX2_readText_58 (tgt := 168) (by decide) ?_ ?_
          · exact hk _ i2 h
          · refine q_aload_n C dX2_readText_61 rfl ?_
            refine q_getR C dX2_readText_62 fl2_12 rfl ?_
            refine q_ldcS (i := 0) (tx := "carriers") C dX2_readText_65 (by decide +kernel) (by decide) ?_
            refine q_pcallVI C dX2_readText_67 mv2_57 (cq_X6_isWord w l h _ _) rfl ⟨by decide, by decide⟩ ⟨rfl, Nat.le_of_ble_eq_true rfl⟩ (fun x7 => ?_)
            refine q_if_eq C dX2_readText_70 (tgt := 80) (by decide) ?_ ?_
            · refine q_aload_n C dX2_readText_80 rfl ?_
              refine q_getR C dX2_readText_81 fl2_12 rfl ?_
              refine q_ldcS (i := 1) (tx := "station") C dX2_readText_84 (by decide +kernel) (by decide) ?_
              refine q_pcallVI C dX2_readText_86 mv2_57 (cq_X6_isWord w l h _ _) rfl ⟨by decide, by decide⟩ ⟨rfl, Nat.le_of_ble_eq_true rfl⟩ (fun x8 => ?_)
              refine q_if_eq C dX2_readText_89 (tgt := 99) (by decide) ?_ ?_
              · refine q_aload_n C dX2_readText_99 rfl ?_
                refine q_getR C dX2_readText_100 fl2_12 rfl ?_
                refine q_ldcS (i := 2) (tx := "rain") C dX2_readText_103 (by decide +kernel) (by decide) ?_
                refine q_pcallVI C dX2_readText_105 mv2_57 (cq_X6_isWord w l h _ _) rfl ⟨by decide, by decide⟩ ⟨rfl, Nat.le_of_ble_eq_true rfl⟩ (fun x9 => ?_)
                refine q_if_eq C dX2_readText_108 (tgt := 118) (by decide) ?_ ?_
                · refine q_aload_n C dX2_readText_118 rfl ?_
                  refine q_getR C dX2_readText_119 fl2_12 rfl ?_
                  refine q_ldcS (i := 3) (tx := "call") C dX2_readText_122 (by decide +kernel) (by decide) ?_
                  refine q_pcallVI C dX2_readText_124 mv2_57 (cq_X6_isWord w l h _ _) rfl ⟨by decide, by decide⟩ ⟨rfl, Nat.le_of_ble_eq_true rfl⟩ (fun x10 => ?_)
                  refine q_if_eq C dX2_readText_127 (tgt := 137) (by decide) ?_ ?_
                  · refine q_aload_n C dX2_readText_137 rfl ?_
                    refine q_getR C dX2_readText_138 fl2_12 rfl ?_
                    refine q_ldcS (i := 4) (tx := "set") C dX2_readText_141 (by decide +kernel) (by decide) ?_
                    refine q_pcallVI C dX2_readText_143 mv2_57 (cq_X6_isWord w l h _ _) rfl ⟨by decide, by decide⟩ ⟨rfl, Nat.le_of_ble_eq_true rfl⟩ (fun x11 => ?_)
                    refine q_if_eq C dX2_readText_146 (tgt := 156) (by decide) ?_ ?_
                    · refine q_aload_n C dX2_readText_156 rfl ?_
                      refine q_bipush C dX2_readText_157 (by decide) rfl ?_
                      refine q_callVU C dX2_readText_159 mv2_84 (cq_X2_fail w l h _ _) rfl ⟨by decide, by decide⟩ ⟨rfl, Nat.le_of_ble_eq_true rfl⟩ (fun _ h12 => ?_)
                      refine q_iincL C dX2_readText_162 rfl (by decide) (fun x13 => ?_)
                      refine q_goto C dX2_readText_165 (tgt := 37) (by decide) ?_
                      exact ih _ x13 h12
                    · refine q_aload_n C dX2_readText_149 rfl ?_
                      refine q_callVU C dX2_readText_150 mv2_81 (cq_X2_readSet w l h _) rfl ⟨by decide, by decide⟩ ⟨rfl, Nat.le_of_ble_eq_true rfl⟩ (fun _ h14 => ?_)
                      refine q_goto C dX2_readText_153 (tgt := 162) (by decide) ?_
                      refine q_iincL C dX2_readText_162 rfl (by decide) (fun x15 => ?_)
                      refine q_goto C dX2_readText_165 (tgt := 37) (by decide) ?_
                      exact ih _ x15 h14
                  · refine q_aload_n C dX2_readText_130 rfl ?_
                    refine q_callVU C dX2_readText_131 mv2_76 (cq_X2_readCall w l h _) rfl ⟨by decide, by decide⟩ ⟨rfl, Nat.le_of_ble_eq_true rfl⟩ (fun _ h16 => ?_)
                    refine q_goto C dX2_readText_134 (tgt := 162) (by decide) ?_
                    refine q_iincL C dX2_readText_162 rfl (by decide) (fun x17 => ?_)
                    refine q_goto C dX2_readText_165 (tgt := 37) (by decide) ?_
                    exact ih _ x17 h16
                · refine q_aload_n C dX2_readText_111 rfl ?_
                  refine q_callVU C dX2_readText_112 mv2_71 (cq_X2_readRain w l h _) rfl ⟨by decide, by decide⟩ ⟨rfl, Nat.le_of_ble_eq_true rfl⟩ (fun _ h18 => ?_)
                  refine q_goto C dX2_readText_115 (tgt := 162) (by decide) ?_
                  refine q_iincL C dX2_readText_162 rfl (by decide) (fun x19 => ?_)
                  refine q_goto C dX2_readText_165 (tgt := 37) (by decide) ?_
                  exact ih _ x19 h18
              · refine q_aload_n C dX2_readText_92 rfl ?_
                refine q_callVU C dX2_readText_93 mv2_66 (cq_X2_readStation w l h _) rfl ⟨by decide, by decide⟩ ⟨rfl, Nat.le_of_ble_eq_true rfl⟩ (fun _ h20 => ?_)
                refine q_goto C dX2_readText_96 (tgt := 162) (by decide) ?_
                refine q_iincL C dX2_readText_162 rfl (by decide) (fun x21 => ?_)
                refine q_goto C dX2_readText_165 (tgt := 37) (by decide) ?_
                exact ih _ x21 h20
            · refine q_aload_n C dX2_readText_73 rfl ?_
              refine q_callVU C dX2_readText_74 mv2_61 (cq_X2_readCarriers w l h _) rfl ⟨by decide, by decide⟩ ⟨rfl, Nat.le_of_ble_eq_true rfl⟩ (fun _ h22 => ?_)
              refine q_goto C dX2_readText_77 (tgt := 162) (by decide) ?_
              refine q_iincL C dX2_readText_162 rfl (by decide) (fun x23 => ?_)
              refine q_goto C dX2_readText_165 (tgt := 37) (by decide) ?_
              exact ih _ x23 h22
  unfold q_X2_readText
  refine q_aload_n C dX2_readText_0 rfl ?_
  refine q_getR C dX2_readText_1 fl2_21 rfl ?_
  refine q_callVU C dX2_readText_4 mv2_36 (cq_X4_clear w l h _) rfl ⟨by decide, by decide⟩ ⟨rfl, Nat.le_of_ble_eq_true rfl⟩ (fun _ h1 => ?_)
  refine q_aload_n C dX2_readText_7 rfl ?_
  refine q_iconst C dX2_readText_8 rfl ?_
  refine q_putI C dX2_readText_9 pl2_39 rfl (fun h2 => ?_)
  refine q_aload_n C dX2_readText_12 rfl ?_
  refine q_iconst C dX2_readText_13 rfl ?_
  refine q_putI C dX2_readText_14 pl2_25 rfl (fun h3 => ?_)
  refine q_aload_n C dX2_readText_17 rfl ?_
  refine q_iconst C dX2_readText_18 rfl ?_
  refine q_putZ C dX2_readText_19 pl2_42 rfl (Or.inl rfl) (fun h4 => ?_)
  refine q_aload_n C dX2_readText_22 rfl ?_
  refine q_iconst C dX2_readText_23 rfl ?_
  refine q_putI C dX2_readText_24 pl2_46 rfl (fun h5 => ?_)
  refine q_aload_n C dX2_readText_27 rfl ?_
  refine q_getR C dX2_readText_28 fl2_12 rfl ?_
  refine q_iload_n C dX2_readText_31 rfl ?_
  refine q_callVU C dX2_readText_32 mv2_49 (cq_X6_begin w l h5 _ _) rfl ⟨by decide, by decide⟩ ⟨rfl, Nat.le_of_ble_eq_true rfl⟩ (fun _ h6 => ?_)
  refine q_iconst C dX2_readText_35 rfl ?_
  refine q_istore_n C dX2_readText_36 (by decide) ?_
  refine L37 a_0 _ ?_ zF _ 0 h6
  intro u26 x24 h25
  refine q_aload_n C dX2_readText_168 rfl ?_
  refine q_getR C dX2_readText_169 fl2_12 rfl ?_
  refine q_iconst C dX2_readText_172 rfl ?_
  refine q_putI C dX2_readText_173 pl2_29 rfl (fun h27 => ?_)
  refine q_aload_n C dX2_readText_176 rfl ?_
  refine q_getI C dX2_readText_177 fl2_39 rfl ?_
  refine q_if_ne C dX2_readText_180 (tgt := 187) (by decide) ?_ ?_
  · refine q_aload_n C dX2_readText_187 rfl ?_
    refine q_getI C dX2_readText_188 fl2_39 rfl ?_
    exact q_iret C Z1 Z2 dX2_readText_191
  · refine q_iload_n C dX2_readText_183 rfl ?_
    refine q_goto C dX2_readText_184 (tgt := 191) (by decide) ?_
    exact q_iret C Z1 Z2 dX2_readText_191
def q_X7_load (h : zH) (a_0 : Nat) (x_1 : Int) : Option (Int × zH) := if x_1 < 0 then (some ((-2), h)) else (if x_1 ≤ h.1 (h.2 (h.2 a_0 4) 0) 0 then (zbd (q_X2_readText h (h.2 a_0 4) x_1) (fun x1 h2 => if x1 < 0 then (some (x1, h2)) else (zbd (q_X4_copyFrom h2 (h2.2 a_0 0) (h2.2 (h2.2 a_0 4) 1)) (fun _ h3 => zlet (zput h3 (h3.2 a_0 3) 0 0) (fun h4 => some (x1, h4)))))) else (some ((-2), h)))
theorem cq_X7_load (w : zW) (l : Launch) (h : zH) (a_0 : Nat) (x_1 : Int) : zCq w l yX7_load cX7_load 3 (some .int) 10 222 [.inr (7, a_0), .inl x_1] h qI (q_X7_load h a_0 x_1) := by
  refine zCq.of (own := RX7) (loc := [some (.inr (7, a_0)), some (.inl x_1), none]) (by decide) rfl (Nat.le_of_ble_eq_true rfl) (fun k v hk => ?_) ?_
  · exact zloc_ok 1 rfl hk
  intro p e s m args below meth c C Z1 Z2
  unfold q_X7_load
  refine q_iload_n C dX7_load_0 rfl ?_
  refine q_if_lt C dX7_load_1 (tgt := 18) (by decide) ?_ ?_
  · refine q_bipush C dX7_load_18 (by decide) rfl ?_
    exact q_iret C Z1 Z2 dX7_load_20
  · refine q_iload_n C dX7_load_4 rfl ?_
    refine q_aload_n C dX7_load_5 rfl ?_
    refine q_getR C dX7_load_6 fl7_36 rfl ?_
    refine q_getR C dX7_load_9 fl7_44 rfl ?_
    refine q_getI C dX7_load_12 fl7_48 rfl ?_
    refine q_icmp_le C dX7_load_15 (tgt := 21) (by decide) ?_ ?_
    · refine q_aload_n C dX7_load_21 rfl ?_
      refine q_getR C dX7_load_22 fl7_36 rfl ?_
      refine q_iload_n C dX7_load_25 rfl ?_
      refine q_callVI C dX7_load_26 mv7_54 (cq_X2_readText w l h _ _) rfl ⟨by decide, by decide⟩ ⟨rfl, Nat.le_of_ble_eq_true rfl⟩ (fun x1 h2 => ?_)
      refine q_istore_n C dX7_load_29 (by decide) ?_
      refine q_iload_n C dX7_load_30 rfl ?_
      refine q_if_lt C dX7_load_31 (tgt := 56) (by decide) ?_ ?_
      · refine q_iload_n C dX7_load_56 rfl ?_
        exact q_iret C Z1 Z2 dX7_load_57
      · refine q_aload_n C dX7_load_34 rfl ?_
        refine q_getR C dX7_load_35 fl7_10 rfl ?_
        refine q_aload_n C dX7_load_38 rfl ?_
        refine q_getR C dX7_load_39 fl7_36 rfl ?_
        refine q_getR C dX7_load_42 fl7_58 rfl ?_
        refine q_callVU C dX7_load_45 mv7_61 (cq_X4_copyFrom w l h2 _ _) rfl ⟨by decide, by decide⟩ ⟨rfl, Nat.le_of_ble_eq_true rfl⟩ (fun _ h3 => ?_)
        refine q_aload_n C dX7_load_48 rfl ?_
        refine q_getR C dX7_load_49 fl7_29 rfl ?_
        refine q_iconst C dX7_load_52 rfl ?_
        refine q_putI C dX7_load_53 pl7_65 rfl (fun h4 => ?_)
        refine q_iload_n C dX7_load_56 rfl ?_
        exact q_iret C Z1 Z2 dX7_load_57
    · refine q_bipush C dX7_load_18 (by decide) rfl ?_
      exact q_iret C Z1 Z2 dX7_load_20
def q_X7_request (h : zH) (a_0 : Nat) (x_1 : Int) (x_2 : Int) (x_3 : Int) (x_4 : Int) (x_5 : Int) : Option (Int × zH) := zlet (zw (h.1 (h.2 a_0 0) 3 - 1)) (fun x1 => zbp (q_X7_inRange h x_1 0 x1) (fun x2 => if x2 = 0 then (some ((-1), h)) else (zbp (q_X7_inRange h x_2 0 x1) (fun x3 => if x3 = 0 then (some ((-1), h)) else (if x_1 = x_2 then (some ((-1), h)) else (zbp (q_X7_inRange h x_3 0 9) (fun x4 => if x4 = 0 then (some ((-2), h)) else (zbp (q_X7_inRange h x_4 1 2000) (fun x5 => if x5 = 0 then (some ((-2), h)) else (zbp (q_X7_inRange h x_5 1 9999) (fun x6 => if x6 = 0 then (some ((-2), h)) else (if h.1 (h.2 a_0 0) 7 < 16 then (zbd (q_X1_keep h (h.2 a_0 3) (h.2 a_0 0)) (fun _ h7 => zlet (h7.1 (h7.2 a_0 0) 7) (fun x8 => zbd (q_X4_addCall h7 (h7.2 a_0 0) x_1 x_2 x_3 x_4 x_5) (fun _ h9 => some (x8, h9))))) else (some ((-3), h))))))))))))))
theorem cq_X7_request (w : zW) (l : Launch) (h : zH) (a_0 : Nat) (x_1 : Int) (x_2 : Int) (x_3 : Int) (x_4 : Int) (x_5 : Int) : zCq w l yX7_request cX7_request 8 (some .int) 5 149 [.inr (7, a_0), .inl x_1, .inl x_2, .inl x_3, .inl x_4, .inl x_5] h qI (q_X7_request h a_0 x_1 x_2 x_3 x_4 x_5) := by
  refine zCq.of (own := RX7) (loc := [some (.inr (7, a_0)), some (.inl x_1), some (.inl x_2), some (.inl x_3), some (.inl x_4), some (.inl x_5), none, none]) (by decide) rfl (Nat.le_of_ble_eq_true rfl) (fun k v hk => ?_) ?_
  · exact zloc_ok 2 rfl hk
  intro p e s m args below meth c C Z1 Z2
  unfold q_X7_request
  refine q_aload_n C dX7_request_0 rfl ?_
  refine q_getR C dX7_request_1 fl7_10 rfl ?_
  refine q_getI C dX7_request_4 fl7_71 rfl ?_
  refine q_iconst C dX7_request_7 rfl ?_
  refine q_isub C dX7_request_8 ?_
  refine q_istoreL C dX7_request_9 (by decide) (fun x1 => ?_)
  refine q_iload_n C dX7_request_11 rfl ?_
  refine q_iconst C dX7_request_12 rfl ?_
  refine q_iload C dX7_request_13 rfl ?_
  refine q_pcallSI C dX7_request_15 ms7_86 (cq_X7_inRange w l h _ _ _) rfl ⟨by decide, by decide⟩ ⟨rfl, Nat.le_of_ble_eq_true rfl⟩ (fun x2 => ?_)
  refine q_if_eq C dX7_request_18 (tgt := 36) (by decide) ?_ ?_
  · refine q_iconst C dX7_request_36 rfl ?_
    exact q_iret C Z1 Z2 dX7_request_37
  · refine q_iload_n C dX7_request_21 rfl ?_
    refine q_iconst C dX7_request_22 rfl ?_
    refine q_iload C dX7_request_23 rfl ?_
    refine q_pcallSI C dX7_request_25 ms7_86 (cq_X7_inRange w l h _ _ _) rfl ⟨by decide, by decide⟩ ⟨rfl, Nat.le_of_ble_eq_true rfl⟩ (fun x3 => ?_)
    refine q_if_eq C dX7_request_28 (tgt := 36) (by decide) ?_ ?_
    · refine q_iconst C dX7_request_36 rfl ?_
      exact q_iret C Z1 Z2 dX7_request_37
    · refine q_iload_n C dX7_request_31 rfl ?_
      refine q_iload_n C dX7_request_32 rfl ?_
      refine q_icmp_ne C dX7_request_33 (tgt := 38) (by decide) ?_ ?_
      · refine q_iload_n C dX7_request_38 rfl ?_
        refine q_iconst C dX7_request_39 rfl ?_
        refine q_bipush C dX7_request_40 (by decide) rfl ?_
        refine q_pcallSI C dX7_request_42 ms7_86 (cq_X7_inRange w l h _ _ _) rfl ⟨by decide, by decide⟩ ⟨rfl, Nat.le_of_ble_eq_true rfl⟩ (fun x4 => ?_)
        refine q_if_eq C dX7_request_45 (tgt := 72) (by decide) ?_ ?_
        · refine q_bipush C dX7_request_72 (by decide) rfl ?_
          exact q_iret C Z1 Z2 dX7_request_74
        · refine q_iload C dX7_request_48 rfl ?_
          refine q_iconst C dX7_request_50 rfl ?_
          refine q_sipush C dX7_request_51 (by decide) rfl ?_
          refine q_pcallSI C dX7_request_54 ms7_86 (cq_X7_inRange w l h _ _ _) rfl ⟨by decide, by decide⟩ ⟨rfl, Nat.le_of_ble_eq_true rfl⟩ (fun x5 => ?_)
          refine q_if_eq C dX7_request_57 (tgt := 72) (by decide) ?_ ?_
          · refine q_bipush C dX7_request_72 (by decide) rfl ?_
            exact q_iret C Z1 Z2 dX7_request_74
          · refine q_iload C dX7_request_60 rfl ?_
            refine q_iconst C dX7_request_62 rfl ?_
            refine q_sipush C dX7_request_63 (by decide) rfl ?_
            refine q_pcallSI C dX7_request_66 ms7_86 (cq_X7_inRange w l h _ _ _) rfl ⟨by decide, by decide⟩ ⟨rfl, Nat.le_of_ble_eq_true rfl⟩ (fun x6 => ?_)
            refine q_if_ne C dX7_request_69 (tgt := 75) (by decide) ?_ ?_
            · refine q_aload_n C dX7_request_75 rfl ?_
              refine q_getR C dX7_request_76 fl7_10 rfl ?_
              refine q_getI C dX7_request_79 fl7_74 rfl ?_
              refine q_bipush C dX7_request_82 (by decide) rfl ?_
              refine q_icmp_lt C dX7_request_84 (tgt := 90) (by decide) ?_ ?_
              · refine q_aload_n C dX7_request_90 rfl ?_
                refine q_getR C dX7_request_91 fl7_29 rfl ?_
                refine q_aload_n C dX7_request_94 rfl ?_
                refine q_getR C dX7_request_95 fl7_10 rfl ?_
                refine q_callVU C dX7_request_98 mv7_245 (cq_X1_keep w l h _ _) rfl ⟨by decide, by decide⟩ ⟨rfl, Nat.le_of_ble_eq_true rfl⟩ (fun _ h7 => ?_)
                refine q_aload_n C dX7_request_101 rfl ?_
                refine q_getR C dX7_request_102 fl7_10 rfl ?_
                refine q_getI C dX7_request_105 fl7_74 rfl ?_
                refine q_istoreL C dX7_request_108 (by decide) (fun x8 => ?_)
                refine q_aload_n C dX7_request_110 rfl ?_
                refine q_getR C dX7_request_111 fl7_10 rfl ?_
                refine q_iload_n C dX7_request_114 rfl ?_
                refine q_iload_n C dX7_request_115 rfl ?_
                refine q_iload_n C dX7_request_116 rfl ?_
                refine q_iload C dX7_request_117 rfl ?_
                refine q_iload C dX7_request_119 rfl ?_
                refine q_callVU C dX7_request_121 mv7_248 (cq_X4_addCall w l h7 _ _ _ _ _ _) rfl ⟨by decide, by decide⟩ ⟨rfl, Nat.le_of_ble_eq_true rfl⟩ (fun _ h9 => ?_)
                refine q_iload C dX7_request_124 rfl ?_
                exact q_iret C Z1 Z2 dX7_request_126
              · refine q_bipush C dX7_request_87 (by decide) rfl ?_
                exact q_iret C Z1 Z2 dX7_request_89
            · refine q_bipush C dX7_request_72 (by decide) rfl ?_
              exact q_iret C Z1 Z2 dX7_request_74
      · refine q_iconst C dX7_request_36 rfl ?_
        exact q_iret C Z1 Z2 dX7_request_37
def q_X7_release (h : zH) (a_0 : Nat) (x_1 : Int) : Option (Int × zH) := zbp (q_X7_inRange h x_1 0 (zw (h.1 (h.2 a_0 0) 7 - 1))) (fun x1 => if x1 = 0 then (some ((-1), h)) else (zgi 16 x_1 (if h.1 (h.2 (h.2 (h.2 a_0 0) 8) x_1.toNat) 5 = 2 then (some ((-1), h)) else (zbd (q_X1_keep h (h.2 a_0 3) (h.2 a_0 0)) (fun _ h2 => zgi 16 x_1 (zlet (zput h2 (h2.2 (h2.2 (h2.2 a_0 0) 8) x_1.toNat) 5 2) (fun h3 => zbp (q_X4_callsIn h3 (h3.2 a_0 0) 0) (fun x4 => zbd (q_X4_placeInOrder h3 (h3.2 a_0 0) x4) (fun x5 h6 => some (x5, h6))))))))))
theorem cq_X7_release (w : zW) (l : Launch) (h : zH) (a_0 : Nat) (x_1 : Int) : zCq w l yX7_release cX7_release 2 (some .int) 5 148 [.inr (7, a_0), .inl x_1] h qI (q_X7_release h a_0 x_1) := by
  refine zCq.of (own := RX7) (loc := [some (.inr (7, a_0)), some (.inl x_1)]) (by decide) rfl (Nat.le_of_ble_eq_true rfl) (fun k v hk => ?_) ?_
  · exact zloc_ok 0 rfl hk
  intro p e s m args below meth c C Z1 Z2
  unfold q_X7_release
  refine q_iload_n C dX7_release_0 rfl ?_
  refine q_iconst C dX7_release_1 rfl ?_
  refine q_aload_n C dX7_release_2 rfl ?_
  refine q_getR C dX7_release_3 fl7_10 rfl ?_
  refine q_getI C dX7_release_6 fl7_74 rfl ?_
  refine q_iconst C dX7_release_9 rfl ?_
  refine q_isub C dX7_release_10 ?_
  refine q_pcallSI C dX7_release_11 ms7_86 (cq_X7_inRange w l h _ _ _) rfl ⟨by decide, by decide⟩ ⟨rfl, Nat.le_of_ble_eq_true rfl⟩ (fun x1 => ?_)
  refine q_if_eq C dX7_release_14 (tgt := 33) (by decide) ?_ ?_
  · refine q_iconst C dX7_release_33 rfl ?_
    exact q_iret C Z1 Z2 dX7_release_34
  · refine q_aload_n C dX7_release_17 rfl ?_
    refine q_getR C dX7_release_18 fl7_10 rfl ?_
    refine q_getR C dX7_release_21 fl7_118 rfl ?_
    refine q_iload_n C dX7_release_24 rfl ?_
    refine q_aald C dX7_release_25 ⟨by decide, by decide, _, rfl⟩ ?_
    refine q_getI C dX7_release_26 fl7_122 rfl ?_
    refine q_iconst C dX7_release_29 rfl ?_
    refine q_icmp_ne C dX7_release_30 (tgt := 35) (by decide) ?_ ?_
    · refine q_aload_n C dX7_release_35 rfl ?_
      refine q_getR C dX7_release_36 fl7_29 rfl ?_
      refine q_aload_n C dX7_release_39 rfl ?_
      refine q_getR C dX7_release_40 fl7_10 rfl ?_
      refine q_callVU C dX7_release_43 mv7_245 (cq_X1_keep w l h _ _) rfl ⟨by decide, by decide⟩ ⟨rfl, Nat.le_of_ble_eq_true rfl⟩ (fun _ h2 => ?_)
      refine q_aload_n C dX7_release_46 rfl ?_
      refine q_getR C dX7_release_47 fl7_10 rfl ?_
      refine q_getR C dX7_release_50 fl7_118 rfl ?_
      refine q_iload_n C dX7_release_53 rfl ?_
      refine q_aald C dX7_release_54 ⟨by decide, by decide, _, rfl⟩ ?_
      refine q_iconst C dX7_release_55 rfl ?_
      refine q_putI C dX7_release_56 pl7_122 rfl (fun h3 => ?_)
      refine q_aload_n C dX7_release_59 rfl ?_
      refine q_getR C dX7_release_60 fl7_10 rfl ?_
      refine q_aload_n C dX7_release_63 rfl ?_
      refine q_getR C dX7_release_64 fl7_10 rfl ?_
      refine q_iconst C dX7_release_67 rfl ?_
      refine q_pcallVI C dX7_release_68 mv7_194 (cq_X4_callsIn w l h3 _ _) rfl ⟨by decide, by decide⟩ ⟨rfl, Nat.le_of_ble_eq_true rfl⟩ (fun x4 => ?_)
      refine q_callVI C dX7_release_71 mv7_252 (cq_X4_placeInOrder w l h3 _ _) rfl ⟨by decide, by decide⟩ ⟨rfl, Nat.le_of_ble_eq_true rfl⟩ (fun x5 h6 => ?_)
      exact q_iret C Z1 Z2 dX7_release_74
    · refine q_iconst C dX7_release_33 rfl ?_
      exact q_iret C Z1 Z2 dX7_release_34
def q_X7_advance_L45 (a0 : Nat) (i1 : Int) (k : Int → zH → Option (Int × zH)) : Nat → Int → zH → Option (Int × zH)
  | 0, _, _ => none
  | n + 1, i2, h => if i1 ≤ i2 then (k i2 h) else (zbd (q_X4_passFrame h (h.2 a0 0)) (fun _ h3 => zlet (zw (i2 + 1)) (fun x4 => q_X7_advance_L45 a0 i1 k n x4 h3)))
def q_X7_advance (h : zH) (a_0 : Nat) (x_1 : Int) : Option (Int × zH) := zbp (q_X7_inRange h x_1 1 200) (fun x1 => if x1 = 0 then (some ((-2), h)) else (if zw (h.1 (h.2 a_0 0) 0 + x_1) ≤ 9999 then (zbd (q_X1_keep h (h.2 a_0 3) (h.2 a_0 0)) (fun _ h2 => q_X7_advance_L45 a_0 x_1 (fun x5 h6 => some (h6.1 (h6.2 a_0 0) 0, h6)) zF 0 h2)) else (some ((-3), h))))
theorem cq_X7_advance (w : zW) (l : Launch) (h : zH) (a_0 : Nat) (x_1 : Int) : zCq w l yX7_advance cX7_advance 3 (some .int) 7 192 [.inr (7, a_0), .inl x_1] h qI (q_X7_advance h a_0 x_1) := by
  refine zCq.of (own := RX7) (loc := [some (.inr (7, a_0)), some (.inl x_1), none]) (by decide) rfl (Nat.le_of_ble_eq_true rfl) (fun k v hk => ?_) ?_
  · exact zloc_ok 1 rfl hk
  intro p e s m args below meth c C Z1 Z2
  have L45 : ∀ (a0 : Nat) (i1 : Int) (k : Int → zH → Option (Int × zH)) (hk : ∀ (i2 : Int) (h : zH), zQV w p l e (zRm 7 192) s m args below meth c 3 qI (k i2 h) 63 [some (.inr (7, a0)), some (.inl i1), some (.inl i2)] [] h) (n : Nat) (i2 : Int) (h : zH), zQV w p l e (zRm 7 192) s m args below meth c 3 qI (q_X7_advance_L45 a0 i1 k n i2 h) 45 [some (.inr (7, a0)), some (.inl i1), some (.inl i2)] [] h := by
    intro a0 i1 k hk n
    induction n with
    | zero =>
      intro i2 h
      exact q_none
    | succ n ih =>
      intro i2 h
      rw [q_X7_advance_L45]
      refine q_iload_n C dX7_advance_45 rfl ?_
      refine q_iload_n C dX7_advance_46 rfl ?_
      refine q_icmp_ge C dX7_advance_47 (tgt := 63) (by decide) ?_ ?_
      · exact hk i2 h
      · refine q_aload_n C dX7_advance_50 rfl ?_
        refine q_getR C dX7_advance_51 fl7_10 rfl ?_
        refine q_callVU C dX7_advance_54 mv7_255 (cq_X4_passFrame w l h _) rfl ⟨by decide, by decide⟩ ⟨rfl, Nat.le_of_ble_eq_true rfl⟩ (fun _ h3 => ?_)
        refine q_iincL C dX7_advance_57 rfl (by decide) (fun x4 => ?_)
        refine q_goto C dX7_advance_60 (tgt := 45) (by decide) ?_
        exact ih x4 h3
  unfold q_X7_advance
  refine q_iload_n C dX7_advance_0 rfl ?_
  refine q_iconst C dX7_advance_1 rfl ?_
  refine q_sipush C dX7_advance_2 (by decide) rfl ?_
  refine q_pcallSI C dX7_advance_5 ms7_86 (cq_X7_inRange w l h _ _ _) rfl ⟨by decide, by decide⟩ ⟨rfl, Nat.le_of_ble_eq_true rfl⟩ (fun x1 => ?_)
  refine q_if_ne C dX7_advance_8 (tgt := 14) (by decide) ?_ ?_
  · refine q_aload_n C dX7_advance_14 rfl ?_
    refine q_getR C dX7_advance_15 fl7_10 rfl ?_
    refine q_getI C dX7_advance_18 fl7_83 rfl ?_
    refine q_iload_n C dX7_advance_21 rfl ?_
    refine q_iadd C dX7_advance_22 ?_
    refine q_sipush C dX7_advance_23 (by decide) rfl ?_
    refine q_icmp_le C dX7_advance_26 (tgt := 32) (by decide) ?_ ?_
    · refine q_aload_n C dX7_advance_32 rfl ?_
      refine q_getR C dX7_advance_33 fl7_29 rfl ?_
      refine q_aload_n C dX7_advance_36 rfl ?_
      refine q_getR C dX7_advance_37 fl7_10 rfl ?_
      refine q_callVU C dX7_advance_40 mv7_245 (cq_X1_keep w l h _ _) rfl ⟨by decide, by decide⟩ ⟨rfl, Nat.le_of_ble_eq_true rfl⟩ (fun _ h2 => ?_)
      refine q_iconst C dX7_advance_43 rfl ?_
      refine q_istore_n C dX7_advance_44 (by decide) ?_
      refine L45 a_0 x_1 _ ?_ zF 0 h2
      intro x5 h6
      refine q_aload_n C dX7_advance_63 rfl ?_
      refine q_getR C dX7_advance_64 fl7_10 rfl ?_
      refine q_getI C dX7_advance_67 fl7_83 rfl ?_
      exact q_iret C Z1 Z2 dX7_advance_70
    · refine q_bipush C dX7_advance_29 (by decide) rfl ?_
      exact q_iret C Z1 Z2 dX7_advance_31
  · refine q_bipush C dX7_advance_11 (by decide) rfl ?_
    exact q_iret C Z1 Z2 dX7_advance_13
def q_X7_setSetting (h : zH) (a_0 : Nat) (x_1 : Int) (x_2 : Int) : Option (Int × zH) := zbp (q_X7_inRange h x_1 4 6) (fun x1 => if x1 = 0 then (some ((-2), h)) else (zgi 7 x_1 (zgi 7 x_1 (zbp (q_X7_inRange h x_2 (zsV 0 x_1.toNat) (zsV 1 x_1.toNat)) (fun x2 => if x2 = 0 then (some ((-2), h)) else (zbd (q_X1_keep h (h.2 a_0 3) (h.2 a_0 0)) (fun _ h3 => zgi 7 x_1 (zlet (h3.1 (h3.2 (h3.2 a_0 0) 2) x_1.toNat) (fun x4 => zgi 7 x_1 (zlet (zput h3 (h3.2 (h3.2 a_0 0) 2) x_1.toNat x_2) (fun h5 => some (x4, h5))))))))))))
theorem cq_X7_setSetting (w : zW) (l : Launch) (h : zH) (a_0 : Nat) (x_1 : Int) (x_2 : Int) : zCq w l yX7_setSetting cX7_setSetting 4 (some .int) 4 136 [.inr (7, a_0), .inl x_1, .inl x_2] h qI (q_X7_setSetting h a_0 x_1 x_2) := by
  refine zCq.of (own := RX7) (loc := [some (.inr (7, a_0)), some (.inl x_1), some (.inl x_2), none]) (by decide) rfl (Nat.le_of_ble_eq_true rfl) (fun k v hk => ?_) ?_
  · exact zloc_ok 1 rfl hk
  intro p e s m args below meth c C Z1 Z2
  unfold q_X7_setSetting
  refine q_iload_n C dX7_setSetting_0 rfl ?_
  refine q_iconst C dX7_setSetting_1 rfl ?_
  refine q_bipush C dX7_setSetting_2 (by decide) rfl ?_
  refine q_pcallSI C dX7_setSetting_4 ms7_86 (cq_X7_inRange w l h _ _ _) rfl ⟨by decide, by decide⟩ ⟨rfl, Nat.le_of_ble_eq_true rfl⟩ (fun x1 => ?_)
  refine q_if_eq C dX7_setSetting_7 (tgt := 27) (by decide) ?_ ?_
  · refine q_bipush C dX7_setSetting_27 (by decide) rfl ?_
    exact q_iret C Z1 Z2 dX7_setSetting_29
  · refine q_iload_n C dX7_setSetting_10 rfl ?_
    refine q_gst0 (i := 0) C dX7_setSetting_11 (by decide) (zmem 1093 (by decide +kernel)) ?_
    refine q_iload_n C dX7_setSetting_14 rfl ?_
    refine q_sald (i := 0) C dX7_setSetting_15 (by decide) ?_
    refine q_gst0 (i := 1) C dX7_setSetting_16 (by decide) (zmem 1094 (by decide +kernel)) ?_
    refine q_iload_n C dX7_setSetting_19 rfl ?_
    refine q_sald (i := 1) C dX7_setSetting_20 (by decide) ?_
    refine q_pcallSI C dX7_setSetting_21 ms7_86 (cq_X7_inRange w l h _ _ _) rfl ⟨by decide, by decide⟩ ⟨rfl, Nat.le_of_ble_eq_true rfl⟩ (fun x2 => ?_)
    refine q_if_ne C dX7_setSetting_24 (tgt := 30) (by decide) ?_ ?_
    · refine q_aload_n C dX7_setSetting_30 rfl ?_
      refine q_getR C dX7_setSetting_31 fl7_29 rfl ?_
      refine q_aload_n C dX7_setSetting_34 rfl ?_
      refine q_getR C dX7_setSetting_35 fl7_10 rfl ?_
      refine q_callVU C dX7_setSetting_38 mv7_245 (cq_X1_keep w l h _ _) rfl ⟨by decide, by decide⟩ ⟨rfl, Nat.le_of_ble_eq_true rfl⟩ (fun _ h3 => ?_)
      refine q_aload_n C dX7_setSetting_41 rfl ?_
      refine q_getR C dX7_setSetting_42 fl7_10 rfl ?_
      refine q_getR C dX7_setSetting_45 fl7_90 rfl ?_
      refine q_iload_n C dX7_setSetting_48 rfl ?_
      refine q_iald C dX7_setSetting_49 ⟨by decide, by decide, rfl⟩ ?_
      refine q_istore_nL C dX7_setSetting_50 (by decide) (fun x4 => ?_)
      refine q_aload_n C dX7_setSetting_51 rfl ?_
      refine q_getR C dX7_setSetting_52 fl7_10 rfl ?_
      refine q_getR C dX7_setSetting_55 fl7_90 rfl ?_
      refine q_iload_n C dX7_setSetting_58 rfl ?_
      refine q_iload_n C dX7_setSetting_59 rfl ?_
      refine q_iast C dX7_setSetting_60 ⟨by decide, by decide, rfl⟩ (fun h5 => ?_)
      refine q_iload_n C dX7_setSetting_61 rfl ?_
      exact q_iret C Z1 Z2 dX7_setSetting_62
    · refine q_bipush C dX7_setSetting_27 (by decide) rfl ?_
      exact q_iret C Z1 Z2 dX7_setSetting_29
def q_X7_acquire (h : zH) (a_0 : Nat) (x_1 : Int) : Option (Int × zH) := zbp (q_X7_inRange h x_1 0 (zw (h.1 (h.2 a_0 0) 3 - 1))) (fun x1 => if x1 = 0 then (some (0, h)) else (zbd (q_X1_keep h (h.2 a_0 3) (h.2 a_0 0)) (fun _ h2 => zgi 6 x_1 (zbd (q_X5_forgetErrors h2 (h2.2 (h2.2 (h2.2 a_0 0) 4) x_1.toNat)) (fun _ h3 => some (1, h3))))))
theorem cq_X7_acquire (w : zW) (l : Launch) (h : zH) (a_0 : Nat) (x_1 : Int) : zCq w l yX7_acquire cX7_acquire 2 (some .boolean) 4 136 [.inr (7, a_0), .inl x_1] h qI (q_X7_acquire h a_0 x_1) := by
  refine zCq.of (own := RX7) (loc := [some (.inr (7, a_0)), some (.inl x_1)]) (by decide) rfl (Nat.le_of_ble_eq_true rfl) (fun k v hk => ?_) ?_
  · exact zloc_ok 0 rfl hk
  intro p e s m args below meth c C Z1 Z2
  unfold q_X7_acquire
  refine q_iload_n C dX7_acquire_0 rfl ?_
  refine q_iconst C dX7_acquire_1 rfl ?_
  refine q_aload_n C dX7_acquire_2 rfl ?_
  refine q_getR C dX7_acquire_3 fl7_10 rfl ?_
  refine q_getI C dX7_acquire_6 fl7_71 rfl ?_
  refine q_iconst C dX7_acquire_9 rfl ?_
  refine q_isub C dX7_acquire_10 ?_
  refine q_pcallSI C dX7_acquire_11 ms7_86 (cq_X7_inRange w l h _ _ _) rfl ⟨by decide, by decide⟩ ⟨rfl, Nat.le_of_ble_eq_true rfl⟩ (fun x1 => ?_)
  refine q_if_ne C dX7_acquire_14 (tgt := 19) (by decide) ?_ ?_
  · refine q_aload_n C dX7_acquire_19 rfl ?_
    refine q_getR C dX7_acquire_20 fl7_29 rfl ?_
    refine q_aload_n C dX7_acquire_23 rfl ?_
    refine q_getR C dX7_acquire_24 fl7_10 rfl ?_
    refine q_callVU C dX7_acquire_27 mv7_245 (cq_X1_keep w l h _ _) rfl ⟨by decide, by decide⟩ ⟨rfl, Nat.le_of_ble_eq_true rfl⟩ (fun _ h2 => ?_)
    refine q_aload_n C dX7_acquire_30 rfl ?_
    refine q_getR C dX7_acquire_31 fl7_10 rfl ?_
    refine q_getR C dX7_acquire_34 fl7_165 rfl ?_
    refine q_iload_n C dX7_acquire_37 rfl ?_
    refine q_aald C dX7_acquire_38 ⟨by decide, by decide, _, rfl⟩ ?_
    refine q_callVU C dX7_acquire_39 mv7_264 (cq_X5_forgetErrors w l h2 _) rfl ⟨by decide, by decide⟩ ⟨rfl, Nat.le_of_ble_eq_true rfl⟩ (fun _ h3 => ?_)
    refine q_iconst C dX7_acquire_42 rfl ?_
    exact q_zret C Z1 Z2 (Or.inr rfl) dX7_acquire_43
  · refine q_iconst C dX7_acquire_17 rfl ?_
    exact q_zret C Z1 Z2 (Or.inl rfl) dX7_acquire_18
def q_X7_compact_L54 (a0 : Nat) (k : Int → Int → zH → Option (Int × zH)) : Nat → Int → Int → zH → Option (Int × zH)
  | 0, _, _, _ => none
  | n + 1, i2, i3, h => if h.1 (h.2 a0 0) 7 ≤ i3 then (k i2 i3 h) else (zgi 16 i3 (if h.1 (h.2 (h.2 (h.2 a0 0) 8) i3.toNat) 5 = 1 then (zgi 16 i3 (zgi 16 i3 (zbp (q_X0_standsWhere h (h.2 (h.2 (h.2 a0 0) 8) i3.toNat) (h.2 (h.2 (h.2 a0 1) 8) i3.toNat)) (fun x9 => if x9 = 0 then (zlet (zw (i2 + 1)) (fun x11 => zlet (zw (i3 + 1)) (fun x12 => q_X7_compact_L54 a0 k n x11 x12 h))) else (zlet (zw (i3 + 1)) (fun x10 => q_X7_compact_L54 a0 k n i2 x10 h)))))) else (zlet (zw (i3 + 1)) (fun x8 => q_X7_compact_L54 a0 k n i2 x8 h))))
def q_X7_compact (h : zH) (a_0 : Nat) : Option (Int × zH) := zbp (q_X4_callsIn h (h.2 a_0 0) 1) (fun x1 => zbd (q_X4_copyFrom h (h.2 a_0 1) (h.2 a_0 0)) (fun _ h2 => zbd (q_X4_assignAnew h2 (h2.2 a_0 1) x1) (fun x3 h4 => if x3 = 0 then (some ((-3), h4)) else (zbp (q_X4_callsIn h4 (h4.2 a_0 1) 0) (fun x5 => zbd (q_X4_placeInOrder h4 (h4.2 a_0 1) x5) (fun x6 h7 => q_X7_compact_L54 a_0 (fun x13 x14 h15 => zbd (q_X1_keep h15 (h15.2 a_0 3) (h15.2 a_0 0)) (fun _ h17 => zbd (q_X4_copyFrom h17 (h17.2 a_0 0) (h17.2 a_0 1)) (fun _ h18 => some (x13, h18)))) zF 0 0 h7))))))
theorem cq_X7_compact (w : zW) (l : Launch) (h : zH) (a_0 : Nat) : zCq w l yX7_compact cX7_compact 4 (some .int) 6 170 [.inr (7, a_0)] h qI (q_X7_compact h a_0) := by
  refine zCq.of (own := RX7) (loc := [some (.inr (7, a_0)), none, none, none]) (by decide) rfl (Nat.le_of_ble_eq_true rfl) (fun k v hk => ?_) ?_
  · exact zloc_ok 3 rfl hk
  intro p e s m args below meth c C Z1 Z2
  have L54 : ∀ (a0 : Nat) (k : Int → Int → zH → Option (Int × zH)) (hk : ∀ (u1 : Option zv) (i2 : Int) (i3 : Int) (h : zH), zQV w p l e (zRm 6 170) s m args below meth c 4 qI (k i2 i3 h) 114 [some (.inr (7, a0)), u1, some (.inl i2), some (.inl i3)] [] h) (n : Nat) (u1 : Option zv) (i2 : Int) (i3 : Int) (h : zH), zQV w p l e (zRm 6 170) s m args below meth c 4 qI (q_X7_compact_L54 a0 k n i2 i3 h) 54 [some (.inr (7, a0)), u1, some (.inl i2), some (.inl i3)] [] h := by
    intro a0 k hk n
    induction n with
    | zero =>
      intro u1 i2 i3 h
      exact q_none
    | succ n ih =>
      intro u1 i2 i3 h
      rw [q_X7_compact_L54]
      refine q_iload_n C dX7_compact_54 rfl ?_
      refine q_aload_n C dX7_compact_55 rfl ?_
      refine q_getR C dX7_compact_56 fl7_10 rfl ?_
      refine q_getI C dX7_compact_59 fl7_74 rfl ?_
      refine q_icmp_ge C dX7_compact_62 (tgt := 114) (by decide) ?_ ?_
      · exact hk _ i2 i3 h
      · refine q_aload_n C dX7_compact_65 rfl ?_
        refine q_getR C dX7_compact_66 fl7_10 rfl ?_
        refine q_getR C dX7_compact_69 fl7_118 rfl ?_
        refine q_iload_n C dX7_compact_72 rfl ?_
        refine q_aald C dX7_compact_73 ⟨by decide, by decide, _, rfl⟩ ?_
        refine q_getI C dX7_compact_74 fl7_122 rfl ?_
        refine q_iconst C dX7_compact_77 rfl ?_
        refine q_icmp_ne C dX7_compact_78 (tgt := 108) (by decide) ?_ ?_
        · refine q_iincL C dX7_compact_108 rfl (by decide) (fun x8 => ?_)
          refine q_goto C dX7_compact_111 (tgt := 54) (by decide) ?_
          exact ih _ i2 x8 h
        · refine q_aload_n C dX7_compact_81 rfl ?_
          refine q_getR C dX7_compact_82 fl7_10 rfl ?_
          refine q_getR C dX7_compact_85 fl7_118 rfl ?_
          refine q_iload_n C dX7_compact_88 rfl ?_
          refine q_aald C dX7_compact_89 ⟨by decide, by decide, _, rfl⟩ ?_
          refine q_aload_n C dX7_compact_90 rfl ?_
          refine q_getR C dX7_compact_91 fl7_16 rfl ?_
          refine q_getR C dX7_compact_94 fl7_118 rfl ?_
          refine q_iload_n C dX7_compact_97 rfl ?_
          refine q_aald C dX7_compact_98 ⟨by decide, by decide, _, rfl⟩ ?_
          refine q_pcallVI C dX7_compact_99 mv7_267 (cq_X0_standsWhere w l h _ _) rfl ⟨by decide, by decide⟩ ⟨rfl, Nat.le_of_ble_eq_true rfl⟩ (fun x9 => ?_)
          refine q_if_ne C dX7_compact_102 (tgt := 108) (by decide) ?_ ?_
          · refine q_iincL C dX7_compact_108 rfl (by decide) (fun x10 => ?_)
            refine q_goto C dX7_compact_111 (tgt := 54) (by decide) ?_
            exact ih _ i2 x10 h
          · refine q_iincL C dX7_compact_105 rfl (by decide) (fun x11 => ?_)
            refine q_iincL C dX7_compact_108 rfl (by decide) (fun x12 => ?_)
            refine q_goto C dX7_compact_111 (tgt := 54) (by decide) ?_
            exact ih _ x11 x12 h
  unfold q_X7_compact
  refine q_aload_n C dX7_compact_0 rfl ?_
  refine q_getR C dX7_compact_1 fl7_10 rfl ?_
  refine q_iconst C dX7_compact_4 rfl ?_
  refine q_pcallVI C dX7_compact_5 mv7_194 (cq_X4_callsIn w l h _ _) rfl ⟨by decide, by decide⟩ ⟨rfl, Nat.le_of_ble_eq_true rfl⟩ (fun x1 => ?_)
  refine q_istore_n C dX7_compact_8 (by decide) ?_
  refine q_aload_n C dX7_compact_9 rfl ?_
  refine q_getR C dX7_compact_10 fl7_16 rfl ?_
  refine q_aload_n C dX7_compact_13 rfl ?_
  refine q_getR C dX7_compact_14 fl7_10 rfl ?_
  refine q_callVU C dX7_compact_17 mv7_61 (cq_X4_copyFrom w l h _ _) rfl ⟨by decide, by decide⟩ ⟨rfl, Nat.le_of_ble_eq_true rfl⟩ (fun _ h2 => ?_)
  refine q_aload_n C dX7_compact_20 rfl ?_
  refine q_getR C dX7_compact_21 fl7_16 rfl ?_
  refine q_iload_n C dX7_compact_24 rfl ?_
  refine q_callVI C dX7_compact_25 mv7_242 (cq_X4_assignAnew w l h2 _ _) rfl ⟨by decide, by decide⟩ ⟨rfl, Nat.le_of_ble_eq_true rfl⟩ (fun x3 h4 => ?_)
  refine q_if_ne C dX7_compact_28 (tgt := 34) (by decide) ?_ ?_
  · refine q_aload_n C dX7_compact_34 rfl ?_
    refine q_getR C dX7_compact_35 fl7_16 rfl ?_
    refine q_aload_n C dX7_compact_38 rfl ?_
    refine q_getR C dX7_compact_39 fl7_16 rfl ?_
    refine q_iconst C dX7_compact_42 rfl ?_
    refine q_pcallVI C dX7_compact_43 mv7_194 (cq_X4_callsIn w l h4 _ _) rfl ⟨by decide, by decide⟩ ⟨rfl, Nat.le_of_ble_eq_true rfl⟩ (fun x5 => ?_)
    refine q_callVI C dX7_compact_46 mv7_252 (cq_X4_placeInOrder w l h4 _ _) rfl ⟨by decide, by decide⟩ ⟨rfl, Nat.le_of_ble_eq_true rfl⟩ (fun x6 h7 => ?_)
    refine q_pop C dX7_compact_49 ?_
    refine q_iconst C dX7_compact_50 rfl ?_
    refine q_istore_n C dX7_compact_51 (by decide) ?_
    refine q_iconst C dX7_compact_52 rfl ?_
    refine q_istore_n C dX7_compact_53 (by decide) ?_
    refine L54 a_0 _ ?_ zF _ 0 0 h7
    intro u16 x13 x14 h15
    refine q_aload_n C dX7_compact_114 rfl ?_
    refine q_getR C dX7_compact_115 fl7_29 rfl ?_
    refine q_aload_n C dX7_compact_118 rfl ?_
    refine q_getR C dX7_compact_119 fl7_10 rfl ?_
    refine q_callVU C dX7_compact_122 mv7_245 (cq_X1_keep w l h15 _ _) rfl ⟨by decide, by decide⟩ ⟨rfl, Nat.le_of_ble_eq_true rfl⟩ (fun _ h17 => ?_)
    refine q_aload_n C dX7_compact_125 rfl ?_
    refine q_getR C dX7_compact_126 fl7_10 rfl ?_
    refine q_aload_n C dX7_compact_129 rfl ?_
    refine q_getR C dX7_compact_130 fl7_16 rfl ?_
    refine q_callVU C dX7_compact_133 mv7_61 (cq_X4_copyFrom w l h17 _ _) rfl ⟨by decide, by decide⟩ ⟨rfl, Nat.le_of_ble_eq_true rfl⟩ (fun _ h18 => ?_)
    refine q_iload_n C dX7_compact_136 rfl ?_
    exact q_iret C Z1 Z2 dX7_compact_137
  · refine q_bipush C dX7_compact_31 (by decide) rfl ?_
    exact q_iret C Z1 Z2 dX7_compact_33
