def q_X7_feed (h : zH) (a_0 : Nat) (x_1 : Int) (x_2 : Int) (x_3 : Int) (x_4 : Int) (x_5 : Int) : Option (Int × zH) := zbd (q_X2_append h (h.2 a_0 4) x_1 x_2 x_3 x_4 x_5) (fun x1 h2 => some (x1, h2))
theorem cq_X7_feed (w : zW) (l : Launch) (h : zH) (a_0 : Nat) (x_1 : Int) (x_2 : Int) (x_3 : Int) (x_4 : Int) (x_5 : Int) : zCq w l yX7_feed cX7_feed 6 (some .int) 2 47 [.inr (7, a_0), .inl x_1, .inl x_2, .inl x_3, .inl x_4, .inl x_5] h qI (q_X7_feed h a_0 x_1 x_2 x_3 x_4 x_5) := by
  refine zCq.of (own := RX7) (loc := [some (.inr (7, a_0)), some (.inl x_1), some (.inl x_2), some (.inl x_3), some (.inl x_4), some (.inl x_5)]) (by decide) rfl (Nat.le_of_ble_eq_true rfl) (fun k v hk => ?_) ?_
  · exact zloc_ok 0 rfl hk
  intro p e s m args below meth c C Z1 Z2
  unfold q_X7_feed
  refine q_aload_n C dX7_feed_0 rfl ?_
  refine q_getR C dX7_feed_1 fl7_36 rfl ?_
  refine q_iload_n C dX7_feed_4 rfl ?_
  refine q_iload_n C dX7_feed_5 rfl ?_
  refine q_iload_n C dX7_feed_6 rfl ?_
  refine q_iload C dX7_feed_7 rfl ?_
  refine q_iload C dX7_feed_9 rfl ?_
  refine q_callVI C dX7_feed_11 mv7_40 (cq_X2_append w l h _ _ _ _ _ _) rfl ⟨by decide, by decide⟩ ⟨rfl, Nat.le_of_ble_eq_true rfl⟩ (fun x1 h2 => ?_)
  exact q_iret C Z1 Z2 dX7_feed_14
def q_X7_stationCount (h : zH) (a_0 : Nat) : Option Int := some (h.1 (h.2 a_0 0) 3)
theorem cq_X7_stationCount (w : zW) (l : Launch) (h : zH) (a_0 : Nat) : zCp w l yX7_stationCount cX7_stationCount 1 (some .int) 0 0 [.inr (7, a_0)] h qI (q_X7_stationCount h a_0) := by
  refine zCp.of (own := RX7) (loc := [some (.inr (7, a_0))]) (by decide) rfl (Nat.le_of_ble_eq_true rfl) (fun k v hk => ?_) ?_
  · exact zloc_ok 0 rfl hk
  intro p e s m args below meth c C Z1 Z2
  unfold q_X7_stationCount
  refine p_aload_n C dX7_stationCount_0 rfl ?_
  refine p_getR C dX7_stationCount_1 fl7_10 rfl ?_
  refine p_getI C dX7_stationCount_4 fl7_71 rfl ?_
  exact p_iret C Z1 Z2 dX7_stationCount_7
def q_X7_callCount (h : zH) (a_0 : Nat) : Option Int := some (h.1 (h.2 a_0 0) 7)
theorem cq_X7_callCount (w : zW) (l : Launch) (h : zH) (a_0 : Nat) : zCp w l yX7_callCount cX7_callCount 1 (some .int) 0 0 [.inr (7, a_0)] h qI (q_X7_callCount h a_0) := by
  refine zCp.of (own := RX7) (loc := [some (.inr (7, a_0))]) (by decide) rfl (Nat.le_of_ble_eq_true rfl) (fun k v hk => ?_) ?_
  · exact zloc_ok 0 rfl hk
  intro p e s m args below meth c C Z1 Z2
  unfold q_X7_callCount
  refine p_aload_n C dX7_callCount_0 rfl ?_
  refine p_getR C dX7_callCount_1 fl7_10 rfl ?_
  refine p_getI C dX7_callCount_4 fl7_74 rfl ?_
  exact p_iret C Z1 Z2 dX7_callCount_7
def q_X7_carrierCount (h : zH) (a_0 : Nat) : Option Int := some (h.1 (h.2 a_0 0) 1)
theorem cq_X7_carrierCount (w : zW) (l : Launch) (h : zH) (a_0 : Nat) : zCp w l yX7_carrierCount cX7_carrierCount 1 (some .int) 0 0 [.inr (7, a_0)] h qI (q_X7_carrierCount h a_0) := by
  refine zCp.of (own := RX7) (loc := [some (.inr (7, a_0))]) (by decide) rfl (Nat.le_of_ble_eq_true rfl) (fun k v hk => ?_) ?_
  · exact zloc_ok 0 rfl hk
  intro p e s m args below meth c C Z1 Z2
  unfold q_X7_carrierCount
  refine p_aload_n C dX7_carrierCount_0 rfl ?_
  refine p_getR C dX7_carrierCount_1 fl7_10 rfl ?_
  refine p_getI C dX7_carrierCount_4 fl7_77 rfl ?_
  exact p_iret C Z1 Z2 dX7_carrierCount_7
def q_X7_now (h : zH) (a_0 : Nat) : Option Int := some (h.1 (h.2 a_0 0) 0)
theorem cq_X7_now (w : zW) (l : Launch) (h : zH) (a_0 : Nat) : zCp w l yX7_now cX7_now 1 (some .int) 0 0 [.inr (7, a_0)] h qI (q_X7_now h a_0) := by
  refine zCp.of (own := RX7) (loc := [some (.inr (7, a_0))]) (by decide) rfl (Nat.le_of_ble_eq_true rfl) (fun k v hk => ?_) ?_
  · exact zloc_ok 0 rfl hk
  intro p e s m args below meth c C Z1 Z2
  unfold q_X7_now
  refine p_aload_n C dX7_now_0 rfl ?_
  refine p_getR C dX7_now_1 fl7_10 rfl ?_
  refine p_getI C dX7_now_4 fl7_83 rfl ?_
  exact p_iret C Z1 Z2 dX7_now_7
def q_X7_getSetting (h : zH) (a_0 : Nat) (x_1 : Int) : Option Int := zbp (q_X7_inRange h x_1 0 6) (fun x1 => if x1 = 0 then (some ((-2))) else (zgi 7 x_1 (some (h.1 (h.2 (h.2 a_0 0) 2) x_1.toNat))))
theorem cq_X7_getSetting (w : zW) (l : Launch) (h : zH) (a_0 : Nat) (x_1 : Int) : zCp w l yX7_getSetting cX7_getSetting 2 (some .int) 1 22 [.inr (7, a_0), .inl x_1] h qI (q_X7_getSetting h a_0 x_1) := by
  refine zCp.of (own := RX7) (loc := [some (.inr (7, a_0)), some (.inl x_1)]) (by decide) rfl (Nat.le_of_ble_eq_true rfl) (fun k v hk => ?_) ?_
  · exact zloc_ok 0 rfl hk
  intro p e s m args below meth c C Z1 Z2
  unfold q_X7_getSetting
  refine p_iload_n C dX7_getSetting_0 rfl ?_
  refine p_iconst C dX7_getSetting_1 rfl ?_
  refine p_bipush C dX7_getSetting_2 (by decide) rfl ?_
  refine p_pcallSI C dX7_getSetting_4 ms7_86 (cq_X7_inRange w l h _ _ _) rfl ⟨by decide, by decide⟩ ⟨rfl, Nat.le_of_ble_eq_true rfl⟩ (fun x1 => ?_)
  refine p_if_eq C dX7_getSetting_7 (tgt := 22) (by decide) ?_ ?_
  · refine p_bipush C dX7_getSetting_22 (by decide) rfl ?_
    exact p_iret C Z1 Z2 dX7_getSetting_24
  · refine p_aload_n C dX7_getSetting_10 rfl ?_
    refine p_getR C dX7_getSetting_11 fl7_10 rfl ?_
    refine p_getR C dX7_getSetting_14 fl7_90 rfl ?_
    refine p_iload_n C dX7_getSetting_17 rfl ?_
    refine p_iald C dX7_getSetting_18 ⟨by decide, by decide, rfl⟩ ?_
    refine p_goto C dX7_getSetting_19 (tgt := 24) (by decide) ?_
    exact p_iret C Z1 Z2 dX7_getSetting_24
def q_X7_checkedStation (h : zH) (a_0 : Nat) (x_1 : Int) : Option Nat := zbp (q_X7_inRange h x_1 0 (zw (h.1 (h.2 a_0 0) 3 - 1))) (fun x1 => if x1 = 0 then (none) else (zgi 6 x_1 (some (h.2 (h.2 (h.2 a_0 0) 4) x_1.toNat))))
theorem cq_X7_checkedStation (w : zW) (l : Launch) (h : zH) (a_0 : Nat) (x_1 : Int) : zCp w l yX7_checkedStation cX7_checkedStation 2 (some (.object "SatelliteExchange$Station")) 1 22 [.inr (7, a_0), .inl x_1] h (qR 5) (q_X7_checkedStation h a_0 x_1) := by
  refine zCp.of (own := RX7) (loc := [some (.inr (7, a_0)), some (.inl x_1)]) (by decide) rfl (Nat.le_of_ble_eq_true rfl) (fun k v hk => ?_) ?_
  · exact zloc_ok 0 rfl hk
  intro p e s m args below meth c C Z1 Z2
  unfold q_X7_checkedStation
  refine p_iload_n C dX7_checkedStation_0 rfl ?_
  refine p_iconst C dX7_checkedStation_1 rfl ?_
  refine p_aload_n C dX7_checkedStation_2 rfl ?_
  refine p_getR C dX7_checkedStation_3 fl7_10 rfl ?_
  refine p_getI C dX7_checkedStation_6 fl7_71 rfl ?_
  refine p_iconst C dX7_checkedStation_9 rfl ?_
  refine p_isub C dX7_checkedStation_10 ?_
  refine p_pcallSI C dX7_checkedStation_11 ms7_86 (cq_X7_inRange w l h _ _ _) rfl ⟨by decide, by decide⟩ ⟨rfl, Nat.le_of_ble_eq_true rfl⟩ (fun x1 => ?_)
  refine p_if_ne C dX7_checkedStation_14 (tgt := 28) (by decide) ?_ ?_
  · refine p_aload_n C dX7_checkedStation_28 rfl ?_
    refine p_getR C dX7_checkedStation_29 fl7_10 rfl ?_
    refine p_getR C dX7_checkedStation_32 fl7_165 rfl ?_
    refine p_iload_n C dX7_checkedStation_35 rfl ?_
    refine p_aald C dX7_checkedStation_36 ⟨by decide, by decide, _, rfl⟩ ?_
    exact p_aret C Z1 Z2 dX7_checkedStation_37
  · exact p_none
def q_X7_fade (h : zH) (a_0 : Nat) (x_1 : Int) (x_2 : Int) : Option Int := zbp (q_X7_checkedStation h a_0 x_1) (fun r1 => zbp (q_X7_inRange h x_2 0 9999) (fun x2 => if x2 = 0 then (some ((-2))) else (zbp (q_X4_fadeIn h (h.2 a_0 0) x_1 x_2) (fun x3 => some x3))))
theorem cq_X7_fade (w : zW) (l : Launch) (h : zH) (a_0 : Nat) (x_1 : Int) (x_2 : Int) : zCp w l yX7_fade cX7_fade 3 (some .int) 2 47 [.inr (7, a_0), .inl x_1, .inl x_2] h qI (q_X7_fade h a_0 x_1 x_2) := by
  refine zCp.of (own := RX7) (loc := [some (.inr (7, a_0)), some (.inl x_1), some (.inl x_2)]) (by decide) rfl (Nat.le_of_ble_eq_true rfl) (fun k v hk => ?_) ?_
  · exact zloc_ok 0 rfl hk
  intro p e s m args below meth c C Z1 Z2
  unfold q_X7_fade
  refine p_aload_n C dX7_fade_0 rfl ?_
  refine p_iload_n C dX7_fade_1 rfl ?_
  refine p_pcallVR C dX7_fade_2 mv7_94 (cq_X7_checkedStation w l h _ _) rfl ⟨by decide, by decide⟩ ⟨rfl, Nat.le_of_ble_eq_true rfl⟩ (fun r1 => ?_)
  refine p_pop C dX7_fade_5 ?_
  refine p_iload_n C dX7_fade_6 rfl ?_
  refine p_iconst C dX7_fade_7 rfl ?_
  refine p_sipush C dX7_fade_8 (by decide) rfl ?_
  refine p_pcallSI C dX7_fade_11 ms7_86 (cq_X7_inRange w l h _ _ _) rfl ⟨by decide, by decide⟩ ⟨rfl, Nat.le_of_ble_eq_true rfl⟩ (fun x2 => ?_)
  refine p_if_eq C dX7_fade_14 (tgt := 29) (by decide) ?_ ?_
  · refine p_bipush C dX7_fade_29 (by decide) rfl ?_
    exact p_iret C Z1 Z2 dX7_fade_31
  · refine p_aload_n C dX7_fade_17 rfl ?_
    refine p_getR C dX7_fade_18 fl7_10 rfl ?_
    refine p_iload_n C dX7_fade_21 rfl ?_
    refine p_iload_n C dX7_fade_22 rfl ?_
    refine p_pcallVI C dX7_fade_23 mv7_98 (cq_X4_fadeIn w l h _ _ _) rfl ⟨by decide, by decide⟩ ⟨rfl, Nat.le_of_ble_eq_true rfl⟩ (fun x3 => ?_)
    refine p_goto C dX7_fade_26 (tgt := 31) (by decide) ?_
    exact p_iret C Z1 Z2 dX7_fade_31
def q_X7_checkedCall (h : zH) (a_0 : Nat) (x_1 : Int) : Option Nat := zbp (q_X7_inRange h x_1 0 (zw (h.1 (h.2 a_0 0) 7 - 1))) (fun x1 => if x1 = 0 then (none) else (zgi 16 x_1 (some (h.2 (h.2 (h.2 a_0 0) 8) x_1.toNat))))
theorem cq_X7_checkedCall (w : zW) (l : Launch) (h : zH) (a_0 : Nat) (x_1 : Int) : zCp w l yX7_checkedCall cX7_checkedCall 2 (some (.object "SatelliteExchange$Call")) 1 22 [.inr (7, a_0), .inl x_1] h (qR 0) (q_X7_checkedCall h a_0 x_1) := by
  refine zCp.of (own := RX7) (loc := [some (.inr (7, a_0)), some (.inl x_1)]) (by decide) rfl (Nat.le_of_ble_eq_true rfl) (fun k v hk => ?_) ?_
  · exact zloc_ok 0 rfl hk
  intro p e s m args below meth c C Z1 Z2
  unfold q_X7_checkedCall
  refine p_iload_n C dX7_checkedCall_0 rfl ?_
  refine p_iconst C dX7_checkedCall_1 rfl ?_
  refine p_aload_n C dX7_checkedCall_2 rfl ?_
  refine p_getR C dX7_checkedCall_3 fl7_10 rfl ?_
  refine p_getI C dX7_checkedCall_6 fl7_74 rfl ?_
  refine p_iconst C dX7_checkedCall_9 rfl ?_
  refine p_isub C dX7_checkedCall_10 ?_
  refine p_pcallSI C dX7_checkedCall_11 ms7_86 (cq_X7_inRange w l h _ _ _) rfl ⟨by decide, by decide⟩ ⟨rfl, Nat.le_of_ble_eq_true rfl⟩ (fun x1 => ?_)
  refine p_if_ne C dX7_checkedCall_14 (tgt := 28) (by decide) ?_ ?_
  · refine p_aload_n C dX7_checkedCall_28 rfl ?_
    refine p_getR C dX7_checkedCall_29 fl7_10 rfl ?_
    refine p_getR C dX7_checkedCall_32 fl7_118 rfl ?_
    refine p_iload_n C dX7_checkedCall_35 rfl ?_
    refine p_aald C dX7_checkedCall_36 ⟨by decide, by decide, _, rfl⟩ ?_
    exact p_aret C Z1 Z2 dX7_checkedCall_37
  · exact p_none
def q_X7_stateOf (h : zH) (a_0 : Nat) (x_1 : Int) : Option Int := zbp (q_X7_checkedCall h a_0 x_1) (fun r1 => some (h.1 r1 5))
theorem cq_X7_stateOf (w : zW) (l : Launch) (h : zH) (a_0 : Nat) (x_1 : Int) : zCp w l yX7_stateOf cX7_stateOf 2 (some .int) 2 43 [.inr (7, a_0), .inl x_1] h qI (q_X7_stateOf h a_0 x_1) := by
  refine zCp.of (own := RX7) (loc := [some (.inr (7, a_0)), some (.inl x_1)]) (by decide) rfl (Nat.le_of_ble_eq_true rfl) (fun k v hk => ?_) ?_
  · exact zloc_ok 0 rfl hk
  intro p e s m args below meth c C Z1 Z2
  unfold q_X7_stateOf
  refine p_aload_n C dX7_stateOf_0 rfl ?_
  refine p_iload_n C dX7_stateOf_1 rfl ?_
  refine p_pcallVR C dX7_stateOf_2 mv7_149 (cq_X7_checkedCall w l h _ _) rfl ⟨by decide, by decide⟩ ⟨rfl, Nat.le_of_ble_eq_true rfl⟩ (fun r1 => ?_)
  refine p_getI C dX7_stateOf_5 fl7_122 rfl ?_
  exact p_iret C Z1 Z2 dX7_stateOf_8
def q_X7_senderOf (h : zH) (a_0 : Nat) (x_1 : Int) : Option Int := zbp (q_X7_checkedCall h a_0 x_1) (fun r1 => some (h.1 r1 0))
theorem cq_X7_senderOf (w : zW) (l : Launch) (h : zH) (a_0 : Nat) (x_1 : Int) : zCp w l yX7_senderOf cX7_senderOf 2 (some .int) 2 43 [.inr (7, a_0), .inl x_1] h qI (q_X7_senderOf h a_0 x_1) := by
  refine zCp.of (own := RX7) (loc := [some (.inr (7, a_0)), some (.inl x_1)]) (by decide) rfl (Nat.le_of_ble_eq_true rfl) (fun k v hk => ?_) ?_
  · exact zloc_ok 0 rfl hk
  intro p e s m args below meth c C Z1 Z2
  unfold q_X7_senderOf
  refine p_aload_n C dX7_senderOf_0 rfl ?_
  refine p_iload_n C dX7_senderOf_1 rfl ?_
  refine p_pcallVR C dX7_senderOf_2 mv7_149 (cq_X7_checkedCall w l h _ _) rfl ⟨by decide, by decide⟩ ⟨rfl, Nat.le_of_ble_eq_true rfl⟩ (fun r1 => ?_)
  refine p_getI C dX7_senderOf_5 fl7_127 rfl ?_
  exact p_iret C Z1 Z2 dX7_senderOf_8
def q_X7_receiverOf (h : zH) (a_0 : Nat) (x_1 : Int) : Option Int := zbp (q_X7_checkedCall h a_0 x_1) (fun r1 => some (h.1 r1 1))
theorem cq_X7_receiverOf (w : zW) (l : Launch) (h : zH) (a_0 : Nat) (x_1 : Int) : zCp w l yX7_receiverOf cX7_receiverOf 2 (some .int) 2 43 [.inr (7, a_0), .inl x_1] h qI (q_X7_receiverOf h a_0 x_1) := by
  refine zCp.of (own := RX7) (loc := [some (.inr (7, a_0)), some (.inl x_1)]) (by decide) rfl (Nat.le_of_ble_eq_true rfl) (fun k v hk => ?_) ?_
  · exact zloc_ok 0 rfl hk
  intro p e s m args below meth c C Z1 Z2
  unfold q_X7_receiverOf
  refine p_aload_n C dX7_receiverOf_0 rfl ?_
  refine p_iload_n C dX7_receiverOf_1 rfl ?_
  refine p_pcallVR C dX7_receiverOf_2 mv7_149 (cq_X7_checkedCall w l h _ _) rfl ⟨by decide, by decide⟩ ⟨rfl, Nat.le_of_ble_eq_true rfl⟩ (fun r1 => ?_)
  refine p_getI C dX7_receiverOf_5 fl7_153 rfl ?_
  exact p_iret C Z1 Z2 dX7_receiverOf_8
def q_X7_priorityOf (h : zH) (a_0 : Nat) (x_1 : Int) : Option Int := zbp (q_X7_checkedCall h a_0 x_1) (fun r1 => some (h.1 r1 2))
theorem cq_X7_priorityOf (w : zW) (l : Launch) (h : zH) (a_0 : Nat) (x_1 : Int) : zCp w l yX7_priorityOf cX7_priorityOf 2 (some .int) 2 43 [.inr (7, a_0), .inl x_1] h qI (q_X7_priorityOf h a_0 x_1) := by
  refine zCp.of (own := RX7) (loc := [some (.inr (7, a_0)), some (.inl x_1)]) (by decide) rfl (Nat.le_of_ble_eq_true rfl) (fun k v hk => ?_) ?_
  · exact zloc_ok 0 rfl hk
  intro p e s m args below meth c C Z1 Z2
  unfold q_X7_priorityOf
  refine p_aload_n C dX7_priorityOf_0 rfl ?_
  refine p_iload_n C dX7_priorityOf_1 rfl ?_
  refine p_pcallVR C dX7_priorityOf_2 mv7_149 (cq_X7_checkedCall w l h _ _) rfl ⟨by decide, by decide⟩ ⟨rfl, Nat.le_of_ble_eq_true rfl⟩ (fun r1 => ?_)
  refine p_getI C dX7_priorityOf_5 fl7_156 rfl ?_
  exact p_iret C Z1 Z2 dX7_priorityOf_8
def q_X7_carrierOf (h : zH) (a_0 : Nat) (x_1 : Int) : Option Int := zbp (q_X7_checkedCall h a_0 x_1) (fun r1 => if h.1 r1 5 = 1 then (some (h.1 r1 6)) else (some ((-1))))
theorem cq_X7_carrierOf (w : zW) (l : Launch) (h : zH) (a_0 : Nat) (x_1 : Int) : zCp w l yX7_carrierOf cX7_carrierOf 3 (some .int) 2 43 [.inr (7, a_0), .inl x_1] h qI (q_X7_carrierOf h a_0 x_1) := by
  refine zCp.of (own := RX7) (loc := [some (.inr (7, a_0)), some (.inl x_1), none]) (by decide) rfl (Nat.le_of_ble_eq_true rfl) (fun k v hk => ?_) ?_
  · exact zloc_ok 1 rfl hk
  intro p e s m args below meth c C Z1 Z2
  unfold q_X7_carrierOf
  refine p_aload_n C dX7_carrierOf_0 rfl ?_
  refine p_iload_n C dX7_carrierOf_1 rfl ?_
  refine p_pcallVR C dX7_carrierOf_2 mv7_149 (cq_X7_checkedCall w l h _ _) rfl ⟨by decide, by decide⟩ ⟨rfl, Nat.le_of_ble_eq_true rfl⟩ (fun r1 => ?_)
  refine p_astore_n C dX7_carrierOf_5 (by decide) ?_
  refine p_aload_n C dX7_carrierOf_6 rfl ?_
  refine p_getI C dX7_carrierOf_7 fl7_122 rfl ?_
  refine p_iconst C dX7_carrierOf_10 rfl ?_
  refine p_icmp_ne C dX7_carrierOf_11 (tgt := 21) (by decide) ?_ ?_
  · refine p_iconst C dX7_carrierOf_21 rfl ?_
    exact p_iret C Z1 Z2 dX7_carrierOf_22
  · refine p_aload_n C dX7_carrierOf_14 rfl ?_
    refine p_getI C dX7_carrierOf_15 fl7_159 rfl ?_
    refine p_goto C dX7_carrierOf_18 (tgt := 22) (by decide) ?_
    exact p_iret C Z1 Z2 dX7_carrierOf_22
def q_X7_startOf (h : zH) (a_0 : Nat) (x_1 : Int) : Option Int := zbp (q_X7_checkedCall h a_0 x_1) (fun r1 => if h.1 r1 5 = 1 then (some (h.1 r1 7)) else (some ((-1))))
theorem cq_X7_startOf (w : zW) (l : Launch) (h : zH) (a_0 : Nat) (x_1 : Int) : zCp w l yX7_startOf cX7_startOf 3 (some .int) 2 43 [.inr (7, a_0), .inl x_1] h qI (q_X7_startOf h a_0 x_1) := by
  refine zCp.of (own := RX7) (loc := [some (.inr (7, a_0)), some (.inl x_1), none]) (by decide) rfl (Nat.le_of_ble_eq_true rfl) (fun k v hk => ?_) ?_
  · exact zloc_ok 1 rfl hk
  intro p e s m args below meth c C Z1 Z2
  unfold q_X7_startOf
  refine p_aload_n C dX7_startOf_0 rfl ?_
  refine p_iload_n C dX7_startOf_1 rfl ?_
  refine p_pcallVR C dX7_startOf_2 mv7_149 (cq_X7_checkedCall w l h _ _) rfl ⟨by decide, by decide⟩ ⟨rfl, Nat.le_of_ble_eq_true rfl⟩ (fun r1 => ?_)
  refine p_astore_n C dX7_startOf_5 (by decide) ?_
  refine p_aload_n C dX7_startOf_6 rfl ?_
  refine p_getI C dX7_startOf_7 fl7_122 rfl ?_
  refine p_iconst C dX7_startOf_10 rfl ?_
  refine p_icmp_ne C dX7_startOf_11 (tgt := 21) (by decide) ?_ ?_
  · refine p_iconst C dX7_startOf_21 rfl ?_
    exact p_iret C Z1 Z2 dX7_startOf_22
  · refine p_aload_n C dX7_startOf_14 rfl ?_
    refine p_getI C dX7_startOf_15 fl7_162 rfl ?_
    refine p_goto C dX7_startOf_18 (tgt := 22) (by decide) ?_
    exact p_iret C Z1 Z2 dX7_startOf_22
def q_X7_burstOf (h : zH) (a_0 : Nat) (x_1 : Int) : Option Int := zbp (q_X7_checkedCall h a_0 x_1) (fun r1 => some (h.1 r1 3))
theorem cq_X7_burstOf (w : zW) (l : Launch) (h : zH) (a_0 : Nat) (x_1 : Int) : zCp w l yX7_burstOf cX7_burstOf 2 (some .int) 2 43 [.inr (7, a_0), .inl x_1] h qI (q_X7_burstOf h a_0 x_1) := by
  refine zCp.of (own := RX7) (loc := [some (.inr (7, a_0)), some (.inl x_1)]) (by decide) rfl (Nat.le_of_ble_eq_true rfl) (fun k v hk => ?_) ?_
  · exact zloc_ok 0 rfl hk
  intro p e s m args below meth c C Z1 Z2
  unfold q_X7_burstOf
  refine p_aload_n C dX7_burstOf_0 rfl ?_
  refine p_iload_n C dX7_burstOf_1 rfl ?_
  refine p_pcallVR C dX7_burstOf_2 mv7_149 (cq_X7_checkedCall w l h _ _) rfl ⟨by decide, by decide⟩ ⟨rfl, Nat.le_of_ble_eq_true rfl⟩ (fun r1 => ?_)
  refine p_getI C dX7_burstOf_5 fl7_130 rfl ?_
  exact p_iret C Z1 Z2 dX7_burstOf_8
def q_X7_sendOffset (h : zH) (a_0 : Nat) (x_1 : Int) : Option Int := zbp (q_X7_checkedCall h a_0 x_1) (fun r1 => zlet (h.1 (h.2 (h.2 a_0 0) 2) 0) (fun x2 => if h.1 r1 5 = 1 then (if 0 < x2 then (zgi 6 (h.1 r1 0) (zbp (q_J9_floorMod (zw (h.1 r1 7 - h.1 (h.2 (h.2 (h.2 a_0 0) 4) (h.1 r1 0).toNat) 1)) x2) (fun x3 => some x3))) else (some ((-1)))) else (some ((-1)))))
theorem cq_X7_sendOffset (w : zW) (l : Launch) (h : zH) (a_0 : Nat) (x_1 : Int) : zCp w l yX7_sendOffset cX7_sendOffset 4 (some .int) 2 72 [.inr (7, a_0), .inl x_1] h qI (q_X7_sendOffset h a_0 x_1) := by
  refine zCp.of (own := RX7) (loc := [some (.inr (7, a_0)), some (.inl x_1), none, none]) (by decide) rfl (Nat.le_of_ble_eq_true rfl) (fun k v hk => ?_) ?_
  · exact zloc_ok 2 rfl hk
  intro p e s m args below meth c C Z1 Z2
  unfold q_X7_sendOffset
  refine p_aload_n C dX7_sendOffset_0 rfl ?_
  refine p_iload_n C dX7_sendOffset_1 rfl ?_
  refine p_pcallVR C dX7_sendOffset_2 mv7_149 (cq_X7_checkedCall w l h _ _) rfl ⟨by decide, by decide⟩ ⟨rfl, Nat.le_of_ble_eq_true rfl⟩ (fun r1 => ?_)
  refine p_astore_n C dX7_sendOffset_5 (by decide) ?_
  refine p_aload_n C dX7_sendOffset_6 rfl ?_
  refine p_getR C dX7_sendOffset_7 fl7_10 rfl ?_
  refine p_getR C dX7_sendOffset_10 fl7_90 rfl ?_
  refine p_iconst C dX7_sendOffset_13 rfl ?_
  refine p_ialdN (j := 0) C dX7_sendOffset_14 ⟨by decide, by decide, rfl⟩ rfl (by decide) ?_
  refine p_istore_nL C dX7_sendOffset_15 (by decide) (fun x2 => ?_)
  refine p_aload_n C dX7_sendOffset_16 rfl ?_
  refine p_getI C dX7_sendOffset_17 fl7_122 rfl ?_
  refine p_iconst C dX7_sendOffset_20 rfl ?_
  refine p_icmp_ne C dX7_sendOffset_21 (tgt := 28) (by decide) ?_ ?_
  · refine p_iconst C dX7_sendOffset_28 rfl ?_
    exact p_iret C Z1 Z2 dX7_sendOffset_29
  · refine p_iload_n C dX7_sendOffset_24 rfl ?_
    refine p_if_gt C dX7_sendOffset_25 (tgt := 30) (by decide) ?_ ?_
    · refine p_aload_n C dX7_sendOffset_30 rfl ?_
      refine p_getI C dX7_sendOffset_31 fl7_162 rfl ?_
      refine p_aload_n C dX7_sendOffset_34 rfl ?_
      refine p_getR C dX7_sendOffset_35 fl7_10 rfl ?_
      refine p_getR C dX7_sendOffset_38 fl7_165 rfl ?_
      refine p_aload_n C dX7_sendOffset_41 rfl ?_
      refine p_getI C dX7_sendOffset_42 fl7_127 rfl ?_
      refine p_aald C dX7_sendOffset_45 ⟨by decide, by decide, _, rfl⟩ ?_
      refine p_getI C dX7_sendOffset_46 fl7_169 rfl ?_
      refine p_isub C dX7_sendOffset_49 ?_
      refine p_iload_n C dX7_sendOffset_50 rfl ?_
      refine p_pcallSI (j := 2) C dX7_sendOffset_51 ⟨zmem 1146 (by decide +kernel), zmem 1147 (by decide +kernel), zmem 35 (by decide +kernel), zmem 1148 (by decide +kernel), ⟨by decide, by decide⟩, by decide +kernel⟩ (cq_J9_floorMod w l h _ _) rfl ⟨by decide, by decide⟩ ⟨rfl, Nat.le_of_ble_eq_true rfl⟩ (fun x3 => ?_)
      exact p_iret C Z1 Z2 dX7_sendOffset_54
    · refine p_iconst C dX7_sendOffset_28 rfl ?_
      exact p_iret C Z1 Z2 dX7_sendOffset_29
def q_X7_endOf (h : zH) (a_0 : Nat) (x_1 : Int) : Option Int := zbp (q_X7_checkedCall h a_0 x_1) (fun r1 => if h.1 r1 5 = 1 then (zbp (q_X0_endFrame h r1) (fun x2 => some x2)) else (some ((-1))))
theorem cq_X7_endOf (w : zW) (l : Launch) (h : zH) (a_0 : Nat) (x_1 : Int) : zCp w l yX7_endOf cX7_endOf 3 (some .int) 2 43 [.inr (7, a_0), .inl x_1] h qI (q_X7_endOf h a_0 x_1) := by
  refine zCp.of (own := RX7) (loc := [some (.inr (7, a_0)), some (.inl x_1), none]) (by decide) rfl (Nat.le_of_ble_eq_true rfl) (fun k v hk => ?_) ?_
  · exact zloc_ok 1 rfl hk
  intro p e s m args below meth c C Z1 Z2
  unfold q_X7_endOf
  refine p_aload_n C dX7_endOf_0 rfl ?_
  refine p_iload_n C dX7_endOf_1 rfl ?_
  refine p_pcallVR C dX7_endOf_2 mv7_149 (cq_X7_checkedCall w l h _ _) rfl ⟨by decide, by decide⟩ ⟨rfl, Nat.le_of_ble_eq_true rfl⟩ (fun r1 => ?_)
  refine p_astore_n C dX7_endOf_5 (by decide) ?_
  refine p_aload_n C dX7_endOf_6 rfl ?_
  refine p_getI C dX7_endOf_7 fl7_122 rfl ?_
  refine p_iconst C dX7_endOf_10 rfl ?_
  refine p_icmp_ne C dX7_endOf_11 (tgt := 21) (by decide) ?_ ?_
  · refine p_iconst C dX7_endOf_21 rfl ?_
    exact p_iret C Z1 Z2 dX7_endOf_22
  · refine p_aload_n C dX7_endOf_14 rfl ?_
    refine p_pcallVI C dX7_endOf_15 mv7_177 (cq_X0_endFrame w l h _) rfl ⟨by decide, by decide⟩ ⟨rfl, Nat.le_of_ble_eq_true rfl⟩ (fun x2 => ?_)
    refine p_goto C dX7_endOf_18 (tgt := 22) (by decide) ?_
    exact p_iret C Z1 Z2 dX7_endOf_22
def q_X7_conflicts_L21 (h : zH) (a0 : Nat) (i1 : Int) (a2 : Nat) (k : Int → Int → Option Int) : Nat → Int → Int → Option Int
  | 0, _, _ => none
  | n + 1, i3, i4 => if h.1 (h.2 a0 0) 7 ≤ i4 then (k i3 i4) else (zgi 16 i4 (zlet (h.2 (h.2 (h.2 a0 0) 8) i4.toNat) (fun r2 => if i4 = i1 then (zlet (zw (i4 + 1)) (fun x3 => q_X7_conflicts_L21 h a0 i1 a2 k n i3 x3)) else (if h.1 r2 5 = 1 then (zbp (q_X0_conflictsWith h r2 a2 (h.1 a2 6)) (fun x5 => if x5 = 0 then (zlet (zw (i4 + 1)) (fun x6 => q_X7_conflicts_L21 h a0 i1 a2 k n i3 x6)) else (zlet (zor i3 (zshl 1 i4)) (fun x7 => zlet (zw (i4 + 1)) (fun x8 => q_X7_conflicts_L21 h a0 i1 a2 k n x7 x8))))) else (zlet (zw (i4 + 1)) (fun x4 => q_X7_conflicts_L21 h a0 i1 a2 k n i3 x4))))))
def q_X7_conflicts (h : zH) (a_0 : Nat) (x_1 : Int) : Option Int := zbp (q_X7_checkedCall h a_0 x_1) (fun r1 => if h.1 r1 5 = 1 then (q_X7_conflicts_L21 h a_0 x_1 r1 (fun x9 x10 => some x9) zF 0 0) else (some 0))
theorem cq_X7_conflicts (w : zW) (l : Launch) (h : zH) (a_0 : Nat) (x_1 : Int) : zCp w l yX7_conflicts cX7_conflicts 6 (some .int) 2 43 [.inr (7, a_0), .inl x_1] h qI (q_X7_conflicts h a_0 x_1) := by
  refine zCp.of (own := RX7) (loc := [some (.inr (7, a_0)), some (.inl x_1), none, none, none, none]) (by decide) rfl (Nat.le_of_ble_eq_true rfl) (fun k v hk => ?_) ?_
  · exact zloc_ok 4 rfl hk
  intro p e s m args below meth c C Z1 Z2
  have L21 : ∀ (a0 : Nat) (i1 : Int) (a2 : Nat) (k : Int → Int → Option Int) (hk : ∀ (u5 : Option zv) (i3 : Int) (i4 : Int), zQP w p l e (zRm 2 43) s m args below meth c 6 qI (k i3 i4) 86 [some (.inr (7, a0)), some (.inl i1), some (.inr (0, a2)), some (.inl i3), some (.inl i4), u5] [] h) (n : Nat) (u5 : Option zv) (i3 : Int) (i4 : Int), zQP w p l e (zRm 2 43) s m args below meth c 6 qI (q_X7_conflicts_L21 h a0 i1 a2 k n i3 i4) 21 [some (.inr (7, a0)), some (.inl i1), some (.inr (0, a2)), some (.inl i3), some (.inl i4), u5] [] h := by
    intro a0 i1 a2 k hk n
    induction n with
    | zero =>
      intro u5 i3 i4
      exact p_none
    | succ n ih =>
      intro u5 i3 i4
      rw [q_X7_conflicts_L21]
      refine p_iload C dX7_conflicts_21 rfl ?_
      refine p_aload_n C dX7_conflicts_23 rfl ?_
      refine p_getR C dX7_conflicts_24 fl7_10 rfl ?_
      refine p_getI C dX7_conflicts_27 fl7_74 rfl ?_
      refine p_icmp_ge C dX7_conflicts_30 (tgt := 86) (by decide) ?_ ?_
      · exact hk _ i3 i4
      · refine p_aload_n C dX7_conflicts_33 rfl ?_
        refine p_getR C dX7_conflicts_34 fl7_10 rfl ?_
        refine p_getR C dX7_conflicts_37 fl7_118 rfl ?_
        refine p_iload C dX7_conflicts_40 rfl ?_
        refine p_aald C dX7_conflicts_42 ⟨by decide, by decide, _, rfl⟩ ?_
        refine p_astoreL C dX7_conflicts_43 (by decide) (fun r2 => ?_)
        refine p_iload C dX7_conflicts_45 rfl ?_
        refine p_iload_n C dX7_conflicts_47 rfl ?_
        refine p_icmp_eq C dX7_conflicts_48 (tgt := 80) (by decide) ?_ ?_
        · refine p_iincL C dX7_conflicts_80 rfl (by decide) (fun x3 => ?_)
          refine p_goto C dX7_conflicts_83 (tgt := 21) (by decide) ?_
          exact ih _ i3 x3
        · refine p_aload C dX7_conflicts_51 rfl ?_
          refine p_getI C dX7_conflicts_53 fl7_122 rfl ?_
          refine p_iconst C dX7_conflicts_56 rfl ?_
          refine p_icmp_ne C dX7_conflicts_57 (tgt := 80) (by decide) ?_ ?_
          · refine p_iincL C dX7_conflicts_80 rfl (by decide) (fun x4 => ?_)
            refine p_goto C dX7_conflicts_83 (tgt := 21) (by decide) ?_
            exact ih _ i3 x4
          · refine p_aload C dX7_conflicts_60 rfl ?_
            refine p_aload_n C dX7_conflicts_62 rfl ?_
            refine p_aload_n C dX7_conflicts_63 rfl ?_
            refine p_getI C dX7_conflicts_64 fl7_159 rfl ?_
            refine p_pcallVI C dX7_conflicts_67 mv7_200 (cq_X0_conflictsWith w l h _ _ _) rfl ⟨by decide, by decide⟩ ⟨rfl, Nat.le_of_ble_eq_true rfl⟩ (fun x5 => ?_)
            refine p_if_eq C dX7_conflicts_70 (tgt := 80) (by decide) ?_ ?_
            · refine p_iincL C dX7_conflicts_80 rfl (by decide) (fun x6 => ?_)
              refine p_goto C dX7_conflicts_83 (tgt := 21) (by decide) ?_
              exact ih _ i3 x6
            · refine p_iload_n C dX7_conflicts_73 rfl ?_
              refine p_iconst C dX7_conflicts_74 rfl ?_
              refine p_iload C dX7_conflicts_75 rfl ?_
              refine p_ishl C dX7_conflicts_77 ?_
              refine p_ior C dX7_conflicts_78 ?_
              refine p_istore_nL C dX7_conflicts_79 (by decide) (fun x7 => ?_)
              refine p_iincL C dX7_conflicts_80 rfl (by decide) (fun x8 => ?_)
              refine p_goto C dX7_conflicts_83 (tgt := 21) (by decide) ?_
              exact ih _ x7 x8
  unfold q_X7_conflicts
  refine p_aload_n C dX7_conflicts_0 rfl ?_
  refine p_iload_n C dX7_conflicts_1 rfl ?_
  refine p_pcallVR C dX7_conflicts_2 mv7_149 (cq_X7_checkedCall w l h _ _) rfl ⟨by decide, by decide⟩ ⟨rfl, Nat.le_of_ble_eq_true rfl⟩ (fun r1 => ?_)
  refine p_astore_n C dX7_conflicts_5 (by decide) ?_
  refine p_aload_n C dX7_conflicts_6 rfl ?_
  refine p_getI C dX7_conflicts_7 fl7_122 rfl ?_
  refine p_iconst C dX7_conflicts_10 rfl ?_
  refine p_icmp_eq C dX7_conflicts_11 (tgt := 16) (by decide) ?_ ?_
  · refine p_iconst C dX7_conflicts_16 rfl ?_
    refine p_istore_n C dX7_conflicts_17 (by decide) ?_
    refine p_iconst C dX7_conflicts_18 rfl ?_
    refine p_istore C dX7_conflicts_19 (by decide) ?_
    refine L21 a_0 x_1 r1 _ ?_ zF _ 0 0
    intro u11 x9 x10
    refine p_iload_n C dX7_conflicts_86 rfl ?_
    exact p_iret C Z1 Z2 dX7_conflicts_87
  · refine p_iconst C dX7_conflicts_14 rfl ?_
    exact p_iret C Z1 Z2 dX7_conflicts_15
def q_X7_queuedAt_L25 (h : zH) (a0 : Nat) (i1 : Int) (k : Int → Int → Option Int) : Nat → Int → Int → Option Int
  | 0, _, _ => none
  | n + 1, i2, i3 => if i1 ≤ i3 then (k i2 i3) else (zbp (q_X4_firstInOrder h (h.2 a0 0) i2) (fun x3 => zlet (zand i2 (zxor (zshl 1 x3) ((-1)))) (fun x4 => zlet (zw (i3 + 1)) (fun x5 => q_X7_queuedAt_L25 h a0 i1 k n x4 x5))))
def q_X7_queuedAt (h : zH) (a_0 : Nat) (x_1 : Int) : Option Int := zbp (q_X4_callsIn h (h.2 a_0 0) 0) (fun x1 => if x_1 < 0 then (some ((-1))) else (zbp (q_J6_bitCount x1) (fun x2 => if x_1 < x2 then (q_X7_queuedAt_L25 h a_0 x_1 (fun x6 x7 => zbp (q_X4_firstInOrder h (h.2 a_0 0) x6) (fun x8 => some x8)) zF x1 0) else (some ((-1))))))
theorem cq_X7_queuedAt (w : zW) (l : Launch) (h : zH) (a_0 : Nat) (x_1 : Int) : zCp w l yX7_queuedAt cX7_queuedAt 4 (some .int) 2 72 [.inr (7, a_0), .inl x_1] h qI (q_X7_queuedAt h a_0 x_1) := by
  refine zCp.of (own := RX7) (loc := [some (.inr (7, a_0)), some (.inl x_1), none, none]) (by decide) rfl (Nat.le_of_ble_eq_true rfl) (fun k v hk => ?_) ?_
  · exact zloc_ok 2 rfl hk
  intro p e s m args below meth c C Z1 Z2
  have L25 : ∀ (a0 : Nat) (i1 : Int) (k : Int → Int → Option Int) (hk : ∀ (i2 : Int) (i3 : Int), zQP w p l e (zRm 2 72) s m args below meth c 4 qI (k i2 i3) 51 [some (.inr (7, a0)), some (.inl i1), some (.inl i2), some (.inl i3)] [] h) (n : Nat) (i2 : Int) (i3 : Int), zQP w p l e (zRm 2 72) s m args below meth c 4 qI (q_X7_queuedAt_L25 h a0 i1 k n i2 i3) 25 [some (.inr (7, a0)), some (.inl i1), some (.inl i2), some (.inl i3)] [] h := by
    intro a0 i1 k hk n
    induction n with
    | zero =>
      intro i2 i3
      exact p_none
    | succ n ih =>
      intro i2 i3
      rw [q_X7_queuedAt_L25]
      refine p_iload_n C dX7_queuedAt_25 rfl ?_
      refine p_iload_n C dX7_queuedAt_26 rfl ?_
      refine p_icmp_ge C dX7_queuedAt_27 (tgt := 51) (by decide) ?_ ?_
      · exact hk i2 i3
      · refine p_iload_n C dX7_queuedAt_30 rfl ?_
        refine p_iconst C dX7_queuedAt_31 rfl ?_
        refine p_aload_n C dX7_queuedAt_32 rfl ?_
        refine p_getR C dX7_queuedAt_33 fl7_10 rfl ?_
        refine p_iload_n C dX7_queuedAt_36 rfl ?_
        refine p_pcallVI C dX7_queuedAt_37 mv7_216 (cq_X4_firstInOrder w l h _ _) rfl ⟨by decide, by decide⟩ ⟨rfl, Nat.le_of_ble_eq_true rfl⟩ (fun x3 => ?_)
        refine p_ishl C dX7_queuedAt_40 ?_
        refine p_iconst C dX7_queuedAt_41 rfl ?_
        refine p_ixor C dX7_queuedAt_42 ?_
        refine p_iand C dX7_queuedAt_43 ?_
        refine p_istore_nL C dX7_queuedAt_44 (by decide) (fun x4 => ?_)
        refine p_iincL C dX7_queuedAt_45 rfl (by decide) (fun x5 => ?_)
        refine p_goto C dX7_queuedAt_48 (tgt := 25) (by decide) ?_
        exact ih x4 x5
  unfold q_X7_queuedAt
  refine p_aload_n C dX7_queuedAt_0 rfl ?_
  refine p_getR C dX7_queuedAt_1 fl7_10 rfl ?_
  refine p_iconst C dX7_queuedAt_4 rfl ?_
  refine p_pcallVI C dX7_queuedAt_5 mv7_194 (cq_X4_callsIn w l h _ _) rfl ⟨by decide, by decide⟩ ⟨rfl, Nat.le_of_ble_eq_true rfl⟩ (fun x1 => ?_)
  refine p_istore_n C dX7_queuedAt_8 (by decide) ?_
  refine p_iload_n C dX7_queuedAt_9 rfl ?_
  refine p_if_lt C dX7_queuedAt_10 (tgt := 21) (by decide) ?_ ?_
  · refine p_iconst C dX7_queuedAt_21 rfl ?_
    exact p_iret C Z1 Z2 dX7_queuedAt_22
  · refine p_iload_n C dX7_queuedAt_13 rfl ?_
    refine p_iload_n C dX7_queuedAt_14 rfl ?_
    refine p_pcallSI (j := 1) C dX7_queuedAt_15 ⟨zmem 1200 (by decide +kernel), zmem 1109 (by decide +kernel), zmem 39 (by decide +kernel), zmem 1110 (by decide +kernel), ⟨by decide, by decide⟩, by decide +kernel⟩ (cq_J6_bitCount w l h _) rfl ⟨by decide, by decide⟩ ⟨rfl, Nat.le_of_ble_eq_true rfl⟩ (fun x2 => ?_)
    refine p_icmp_lt C dX7_queuedAt_18 (tgt := 23) (by decide) ?_ ?_
    · refine p_iconst C dX7_queuedAt_23 rfl ?_
      refine p_istore_n C dX7_queuedAt_24 (by decide) ?_
      refine L25 a_0 x_1 _ ?_ zF x1 0
      intro x6 x7
      refine p_aload_n C dX7_queuedAt_51 rfl ?_
      refine p_getR C dX7_queuedAt_52 fl7_10 rfl ?_
      refine p_iload_n C dX7_queuedAt_55 rfl ?_
      refine p_pcallVI C dX7_queuedAt_56 mv7_216 (cq_X4_firstInOrder w l h _ _) rfl ⟨by decide, by decide⟩ ⟨rfl, Nat.le_of_ble_eq_true rfl⟩ (fun x8 => ?_)
      exact p_iret C Z1 Z2 dX7_queuedAt_59
    · refine p_iconst C dX7_queuedAt_21 rfl ?_
      exact p_iret C Z1 Z2 dX7_queuedAt_22
def q_X7_queueLength (h : zH) (a_0 : Nat) : Option Int := zbp (q_X4_callsIn h (h.2 a_0 0) 0) (fun x1 => zbp (q_J6_bitCount x1) (fun x2 => some x2))
theorem cq_X7_queueLength (w : zW) (l : Launch) (h : zH) (a_0 : Nat) : zCp w l yX7_queueLength cX7_queueLength 1 (some .int) 1 72 [.inr (7, a_0)] h qI (q_X7_queueLength h a_0) := by
  refine zCp.of (own := RX7) (loc := [some (.inr (7, a_0))]) (by decide) rfl (Nat.le_of_ble_eq_true rfl) (fun k v hk => ?_) ?_
  · exact zloc_ok 0 rfl hk
  intro p e s m args below meth c C Z1 Z2
  unfold q_X7_queueLength
  refine p_aload_n C dX7_queueLength_0 rfl ?_
  refine p_getR C dX7_queueLength_1 fl7_10 rfl ?_
  refine p_iconst C dX7_queueLength_4 rfl ?_
  refine p_pcallVI C dX7_queueLength_5 mv7_194 (cq_X4_callsIn w l h _ _) rfl ⟨by decide, by decide⟩ ⟨rfl, Nat.le_of_ble_eq_true rfl⟩ (fun x1 => ?_)
  refine p_pcallSI (j := 1) C dX7_queueLength_8 ⟨zmem 1200 (by decide +kernel), zmem 1109 (by decide +kernel), zmem 39 (by decide +kernel), zmem 1110 (by decide +kernel), ⟨by decide, by decide⟩, by decide +kernel⟩ (cq_J6_bitCount w l h _) rfl ⟨by decide, by decide⟩ ⟨rfl, Nat.le_of_ble_eq_true rfl⟩ (fun x2 => ?_)
  exact p_iret C Z1 Z2 dX7_queueLength_11
def q_X7_fitsWithout_L18 (h : zH) (a0 : Nat) (i2 : Int) (a3 : Nat) (k : Int → Option Int) : Nat → Int → Option Int
  | 0, _ => none
  | n + 1, i4 => if h.1 (h.2 a0 0) 1 ≤ i4 then (k i4) else (zbp (q_X4_leastStart h (h.2 a0 0) a3 i4 i2) (fun x2 => if x2 = (-1) then (zlet (zw (i4 + 1)) (fun x3 => q_X7_fitsWithout_L18 h a0 i2 a3 k n x3)) else (some 1)))
def q_X7_fitsWithout (h : zH) (a_0 : Nat) (x_1 : Int) (x_2 : Int) : Option Int := zbp (q_X7_checkedCall h a_0 x_1) (fun r1 => if h.1 r1 5 = 0 then (q_X7_fitsWithout_L18 h a_0 x_2 r1 (fun x4 => some 0) zF 0) else (some 0))
theorem cq_X7_fitsWithout (w : zW) (l : Launch) (h : zH) (a_0 : Nat) (x_1 : Int) (x_2 : Int) : zCp w l yX7_fitsWithout cX7_fitsWithout 5 (some .boolean) 3 99 [.inr (7, a_0), .inl x_1, .inl x_2] h qI (q_X7_fitsWithout h a_0 x_1 x_2) := by
  refine zCp.of (own := RX7) (loc := [some (.inr (7, a_0)), some (.inl x_1), some (.inl x_2), none, none]) (by decide) rfl (Nat.le_of_ble_eq_true rfl) (fun k v hk => ?_) ?_
  · exact zloc_ok 2 rfl hk
  intro p e s m args below meth c C Z1 Z2
  have L18 : ∀ (a0 : Nat) (i2 : Int) (a3 : Nat) (k : Int → Option Int) (hk : ∀ (u1 : Option zv) (i4 : Int), zQP w p l e (zRm 3 99) s m args below meth c 5 qI (k i4) 53 [some (.inr (7, a0)), u1, some (.inl i2), some (.inr (0, a3)), some (.inl i4)] [] h) (n : Nat) (u1 : Option zv) (i4 : Int), zQP w p l e (zRm 3 99) s m args below meth c 5 qI (q_X7_fitsWithout_L18 h a0 i2 a3 k n i4) 18 [some (.inr (7, a0)), u1, some (.inl i2), some (.inr (0, a3)), some (.inl i4)] [] h := by
    intro a0 i2 a3 k hk n
    induction n with
    | zero =>
      intro u1 i4
      exact p_none
    | succ n ih =>
      intro u1 i4
      rw [q_X7_fitsWithout_L18]
      refine p_iload C dX7_fitsWithout_18 rfl ?_
      refine p_aload_n C dX7_fitsWithout_20 rfl ?_
      refine p_getR C dX7_fitsWithout_21 fl7_10 rfl ?_
      refine p_getI C dX7_fitsWithout_24 fl7_77 rfl ?_
      refine p_icmp_ge C dX7_fitsWithout_27 (tgt := 53) (by decide) ?_ ?_
      · exact hk _ i4
      · refine p_aload_n C dX7_fitsWithout_30 rfl ?_
        refine p_getR C dX7_fitsWithout_31 fl7_10 rfl ?_
        refine p_aload_n C dX7_fitsWithout_34 rfl ?_
        refine p_iload C dX7_fitsWithout_35 rfl ?_
        refine p_iload_n C dX7_fitsWithout_37 rfl ?_
        refine p_pcallVI C dX7_fitsWithout_38 mv7_219 (cq_X4_leastStart w l h _ _ _ _) rfl ⟨by decide, by decide⟩ ⟨rfl, Nat.le_of_ble_eq_true rfl⟩ (fun x2 => ?_)
        refine p_iconst C dX7_fitsWithout_41 rfl ?_
        refine p_icmp_eq C dX7_fitsWithout_42 (tgt := 47) (by decide) ?_ ?_
        · refine p_iincL C dX7_fitsWithout_47 rfl (by decide) (fun x3 => ?_)
          refine p_goto C dX7_fitsWithout_50 (tgt := 18) (by decide) ?_
          exact ih _ x3
        · refine p_iconst C dX7_fitsWithout_45 rfl ?_
          exact p_zret C Z1 Z2 (Or.inr rfl) dX7_fitsWithout_46
  unfold q_X7_fitsWithout
  refine p_aload_n C dX7_fitsWithout_0 rfl ?_
  refine p_iload_n C dX7_fitsWithout_1 rfl ?_
  refine p_pcallVR C dX7_fitsWithout_2 mv7_149 (cq_X7_checkedCall w l h _ _) rfl ⟨by decide, by decide⟩ ⟨rfl, Nat.le_of_ble_eq_true rfl⟩ (fun r1 => ?_)
  refine p_astore_n C dX7_fitsWithout_5 (by decide) ?_
  refine p_aload_n C dX7_fitsWithout_6 rfl ?_
  refine p_getI C dX7_fitsWithout_7 fl7_122 rfl ?_
  refine p_if_eq C dX7_fitsWithout_10 (tgt := 15) (by decide) ?_ ?_
  · refine p_iconst C dX7_fitsWithout_15 rfl ?_
    refine p_istore C dX7_fitsWithout_16 (by decide) ?_
    refine L18 a_0 x_2 r1 _ ?_ zF _ 0
    intro u5 x4
    refine p_iconst C dX7_fitsWithout_53 rfl ?_
    exact p_zret C Z1 Z2 (Or.inl rfl) dX7_fitsWithout_54
  · refine p_iconst C dX7_fitsWithout_13 rfl ?_
    exact p_zret C Z1 Z2 (Or.inl rfl) dX7_fitsWithout_14
def q_X7_checkCarrier (h : zH) (a_0 : Nat) (x_1 : Int) : Option Unit := zbp (q_X7_inRange h x_1 0 (zw (h.1 (h.2 a_0 0) 1 - 1))) (fun x1 => if x1 = 0 then (none) else (some (())))
theorem cq_X7_checkCarrier (w : zW) (l : Launch) (h : zH) (a_0 : Nat) (x_1 : Int) : zCp w l yX7_checkCarrier cX7_checkCarrier 2 none 1 22 [.inr (7, a_0), .inl x_1] h qU (q_X7_checkCarrier h a_0 x_1) := by
  refine zCp.of (own := RX7) (loc := [some (.inr (7, a_0)), some (.inl x_1)]) (by decide) rfl (Nat.le_of_ble_eq_true rfl) (fun k v hk => ?_) ?_
  · exact zloc_ok 0 rfl hk
  intro p e s m args below meth c C Z1 Z2
  unfold q_X7_checkCarrier
  refine p_iload_n C dX7_checkCarrier_0 rfl ?_
  refine p_iconst C dX7_checkCarrier_1 rfl ?_
  refine p_aload_n C dX7_checkCarrier_2 rfl ?_
  refine p_getR C dX7_checkCarrier_3 fl7_10 rfl ?_
  refine p_getI C dX7_checkCarrier_6 fl7_77 rfl ?_
  refine p_iconst C dX7_checkCarrier_9 rfl ?_
  refine p_isub C dX7_checkCarrier_10 ?_
  refine p_pcallSI C dX7_checkCarrier_11 ms7_86 (cq_X7_inRange w l h _ _ _) rfl ⟨by decide, by decide⟩ ⟨rfl, Nat.le_of_ble_eq_true rfl⟩ (fun x1 => ?_)
  refine p_if_ne C dX7_checkCarrier_14 (tgt := 28) (by decide) ?_ ?_
  · exact p_vret C Z1 Z2 dX7_checkCarrier_28
  · exact p_none
def q_X7_callsOn_L9 (h : zH) (a0 : Nat) (i1 : Int) (k : Int → Int → Option Int) : Nat → Int → Int → Option Int
  | 0, _, _ => none
  | n + 1, i2, i3 => if h.1 (h.2 a0 0) 7 ≤ i3 then (k i2 i3) else (zgi 16 i3 (zbp (q_X0_isOn h (h.2 (h.2 (h.2 a0 0) 8) i3.toNat) i1) (fun x1 => if x1 = 0 then (zlet (zw (i3 + 1)) (fun x2 => q_X7_callsOn_L9 h a0 i1 k n i2 x2)) else (zlet (zw (i2 + 1)) (fun x3 => zlet (zw (i3 + 1)) (fun x4 => q_X7_callsOn_L9 h a0 i1 k n x3 x4))))))
def q_X7_callsOn (h : zH) (a_0 : Nat) (x_1 : Int) : Option Int := zbp (q_X7_checkCarrier h a_0 x_1) (fun _ => q_X7_callsOn_L9 h a_0 x_1 (fun x5 x6 => some x5) zF 0 0)
theorem cq_X7_callsOn (w : zW) (l : Launch) (h : zH) (a_0 : Nat) (x_1 : Int) : zCp w l yX7_callsOn cX7_callsOn 4 (some .int) 2 43 [.inr (7, a_0), .inl x_1] h qI (q_X7_callsOn h a_0 x_1) := by
  refine zCp.of (own := RX7) (loc := [some (.inr (7, a_0)), some (.inl x_1), none, none]) (by decide) rfl (Nat.le_of_ble_eq_true rfl) (fun k v hk => ?_) ?_
  · exact zloc_ok 2 rfl hk
  intro p e s m args below meth c C Z1 Z2
  have L9 : ∀ (a0 : Nat) (i1 : Int) (k : Int → Int → Option Int) (hk : ∀ (i2 : Int) (i3 : Int), zQP w p l e (zRm 2 43) s m args below meth c 4 qI (k i2 i3) 45 [some (.inr (7, a0)), some (.inl i1), some (.inl i2), some (.inl i3)] [] h) (n : Nat) (i2 : Int) (i3 : Int), zQP w p l e (zRm 2 43) s m args below meth c 4 qI (q_X7_callsOn_L9 h a0 i1 k n i2 i3) 9 [some (.inr (7, a0)), some (.inl i1), some (.inl i2), some (.inl i3)] [] h := by
    intro a0 i1 k hk n
    induction n with
    | zero =>
      intro i2 i3
      exact p_none
    | succ n ih =>
      intro i2 i3
      rw [q_X7_callsOn_L9]
      refine p_iload_n C dX7_callsOn_9 rfl ?_
      refine p_aload_n C dX7_callsOn_10 rfl ?_
      refine p_getR C dX7_callsOn_11 fl7_10 rfl ?_
      refine p_getI C dX7_callsOn_14 fl7_74 rfl ?_
      refine p_icmp_ge C dX7_callsOn_17 (tgt := 45) (by decide) ?_ ?_
      · exact hk i2 i3
      · refine p_aload_n C dX7_callsOn_20 rfl ?_
        refine p_getR C dX7_callsOn_21 fl7_10 rfl ?_
        refine p_getR C dX7_callsOn_24 fl7_118 rfl ?_
        refine p_iload_n C dX7_callsOn_27 rfl ?_
        refine p_aald C dX7_callsOn_28 ⟨by decide, by decide, _, rfl⟩ ?_
        refine p_iload_n C dX7_callsOn_29 rfl ?_
        refine p_pcallVI C dX7_callsOn_30 mv7_232 (cq_X0_isOn w l h _ _) rfl ⟨by decide, by decide⟩ ⟨rfl, Nat.le_of_ble_eq_true rfl⟩ (fun x1 => ?_)
        refine p_if_eq C dX7_callsOn_33 (tgt := 39) (by decide) ?_ ?_
        · refine p_iincL C dX7_callsOn_39 rfl (by decide) (fun x2 => ?_)
          refine p_goto C dX7_callsOn_42 (tgt := 9) (by decide) ?_
          exact ih i2 x2
        · refine p_iincL C dX7_callsOn_36 rfl (by decide) (fun x3 => ?_)
          refine p_iincL C dX7_callsOn_39 rfl (by decide) (fun x4 => ?_)
          refine p_goto C dX7_callsOn_42 (tgt := 9) (by decide) ?_
          exact ih x3 x4
  unfold q_X7_callsOn
  refine p_aload_n C dX7_callsOn_0 rfl ?_
  refine p_iload_n C dX7_callsOn_1 rfl ?_
  refine p_pcallVU C dX7_callsOn_2 mv7_225 (cq_X7_checkCarrier w l h _ _) rfl ⟨by decide, by decide⟩ ⟨rfl, Nat.le_of_ble_eq_true rfl⟩ (fun _ => ?_)
  refine p_iconst C dX7_callsOn_5 rfl ?_
  refine p_istore_n C dX7_callsOn_6 (by decide) ?_
  refine p_iconst C dX7_callsOn_7 rfl ?_
  refine p_istore_n C dX7_callsOn_8 (by decide) ?_
  refine L9 a_0 x_1 _ ?_ zF 0 0
  intro x5 x6
  refine p_iload_n C dX7_callsOn_45 rfl ?_
  exact p_iret C Z1 Z2 dX7_callsOn_46
def q_X7_usedSymbols_L9 (h : zH) (a0 : Nat) (i1 : Int) (k : Int → Int → Option Int) : Nat → Int → Int → Option Int
  | 0, _, _ => none
  | n + 1, i2, i3 => if h.1 (h.2 a0 0) 7 ≤ i3 then (k i2 i3) else (zgi 16 i3 (zbp (q_X0_isOn h (h.2 (h.2 (h.2 a0 0) 8) i3.toNat) i1) (fun x1 => if x1 = 0 then (zlet (zw (i3 + 1)) (fun x2 => q_X7_usedSymbols_L9 h a0 i1 k n i2 x2)) else (zgi 16 i3 (zlet (zw (i2 + h.1 (h.2 (h.2 (h.2 a0 0) 8) i3.toNat) 3)) (fun x3 => zlet (zw (i3 + 1)) (fun x4 => q_X7_usedSymbols_L9 h a0 i1 k n x3 x4)))))))
def q_X7_usedSymbols (h : zH) (a_0 : Nat) (x_1 : Int) : Option Int := zbp (q_X7_checkCarrier h a_0 x_1) (fun _ => q_X7_usedSymbols_L9 h a_0 x_1 (fun x5 x6 => some x5) zF 0 0)
theorem cq_X7_usedSymbols (w : zW) (l : Launch) (h : zH) (a_0 : Nat) (x_1 : Int) : zCp w l yX7_usedSymbols cX7_usedSymbols 4 (some .int) 2 43 [.inr (7, a_0), .inl x_1] h qI (q_X7_usedSymbols h a_0 x_1) := by
  refine zCp.of (own := RX7) (loc := [some (.inr (7, a_0)), some (.inl x_1), none, none]) (by decide) rfl (Nat.le_of_ble_eq_true rfl) (fun k v hk => ?_) ?_
  · exact zloc_ok 2 rfl hk
  intro p e s m args below meth c C Z1 Z2
  have L9 : ∀ (a0 : Nat) (i1 : Int) (k : Int → Int → Option Int) (hk : ∀ (i2 : Int) (i3 : Int), zQP w p l e (zRm 2 43) s m args below meth c 4 qI (k i2 i3) 57 [some (.inr (7, a0)), some (.inl i1), some (.inl i2), some (.inl i3)] [] h) (n : Nat) (i2 : Int) (i3 : Int), zQP w p l e (zRm 2 43) s m args below meth c 4 qI (q_X7_usedSymbols_L9 h a0 i1 k n i2 i3) 9 [some (.inr (7, a0)), some (.inl i1), some (.inl i2), some (.inl i3)] [] h := by
    intro a0 i1 k hk n
    induction n with
    | zero =>
      intro i2 i3
      exact p_none
    | succ n ih =>
      intro i2 i3
      rw [q_X7_usedSymbols_L9]
      refine p_iload_n C dX7_usedSymbols_9 rfl ?_
      refine p_aload_n C dX7_usedSymbols_10 rfl ?_
      refine p_getR C dX7_usedSymbols_11 fl7_10 rfl ?_
      refine p_getI C dX7_usedSymbols_14 fl7_74 rfl ?_
      refine p_icmp_ge C dX7_usedSymbols_17 (tgt := 57) (by decide) ?_ ?_
      · exact hk i2 i3
      · refine p_aload_n C dX7_usedSymbols_20 rfl ?_
        refine p_getR C dX7_usedSymbols_21 fl7_10 rfl ?_
        refine p_getR C dX7_usedSymbols_24 fl7_118 rfl ?_
        refine p_iload_n C dX7_usedSymbols_27 rfl ?_
        refine p_aald C dX7_usedSymbols_28 ⟨by decide, by decide, _, rfl⟩ ?_
        refine p_iload_n C dX7_usedSymbols_29 rfl ?_
        refine p_pcallVI C dX7_usedSymbols_30 mv7_232 (cq_X0_isOn w l h _ _) rfl ⟨by decide, by decide⟩ ⟨rfl, Nat.le_of_ble_eq_true rfl⟩ (fun x1 => ?_)
        refine p_if_eq C dX7_usedSymbols_33 (tgt := 51) (by decide) ?_ ?_
        · refine p_iincL C dX7_usedSymbols_51 rfl (by decide) (fun x2 => ?_)
          refine p_goto C dX7_usedSymbols_54 (tgt := 9) (by decide) ?_
          exact ih i2 x2
        · refine p_iload_n C dX7_usedSymbols_36 rfl ?_
          refine p_aload_n C dX7_usedSymbols_37 rfl ?_
          refine p_getR C dX7_usedSymbols_38 fl7_10 rfl ?_
          refine p_getR C dX7_usedSymbols_41 fl7_118 rfl ?_
          refine p_iload_n C dX7_usedSymbols_44 rfl ?_
          refine p_aald C dX7_usedSymbols_45 ⟨by decide, by decide, _, rfl⟩ ?_
          refine p_getI C dX7_usedSymbols_46 fl7_130 rfl ?_
          refine p_iadd C dX7_usedSymbols_49 ?_
          refine p_istore_nL C dX7_usedSymbols_50 (by decide) (fun x3 => ?_)
          refine p_iincL C dX7_usedSymbols_51 rfl (by decide) (fun x4 => ?_)
          refine p_goto C dX7_usedSymbols_54 (tgt := 9) (by decide) ?_
          exact ih x3 x4
  unfold q_X7_usedSymbols
  refine p_aload_n C dX7_usedSymbols_0 rfl ?_
  refine p_iload_n C dX7_usedSymbols_1 rfl ?_
  refine p_pcallVU C dX7_usedSymbols_2 mv7_225 (cq_X7_checkCarrier w l h _ _) rfl ⟨by decide, by decide⟩ ⟨rfl, Nat.le_of_ble_eq_true rfl⟩ (fun _ => ?_)
  refine p_iconst C dX7_usedSymbols_5 rfl ?_
  refine p_istore_n C dX7_usedSymbols_6 (by decide) ?_
  refine p_iconst C dX7_usedSymbols_7 rfl ?_
  refine p_istore_n C dX7_usedSymbols_8 (by decide) ?_
  refine L9 a_0 x_1 _ ?_ zF 0 0
  intro x5 x6
  refine p_iload_n C dX7_usedSymbols_57 rfl ?_
  exact p_iret C Z1 Z2 dX7_usedSymbols_58
def q_X7_callAt_L7 (h : zH) (a0 : Nat) (i1 : Int) (i2 : Int) (k : Int → Option Int) : Nat → Int → Option Int
  | 0, _ => none
  | n + 1, i3 => if h.1 (h.2 a0 0) 7 ≤ i3 then (k i3) else (zgi 16 i3 (zbp (q_X0_isOn h (h.2 (h.2 (h.2 a0 0) 8) i3.toNat) i1) (fun x1 => if x1 = 0 then (zlet (zw (i3 + 1)) (fun x2 => q_X7_callAt_L7 h a0 i1 i2 k n x2)) else (zgi 16 i3 (zbp (q_X4_burstsBefore h (h.2 a0 0) i1 (h.1 (h.2 (h.2 (h.2 a0 0) 8) i3.toNat) 7)) (fun x3 => if x3 = i2 then (some i3) else (zlet (zw (i3 + 1)) (fun x4 => q_X7_callAt_L7 h a0 i1 i2 k n x4))))))))
def q_X7_callAt (h : zH) (a_0 : Nat) (x_1 : Int) (x_2 : Int) : Option Int := zbp (q_X7_checkCarrier h a_0 x_1) (fun _ => q_X7_callAt_L7 h a_0 x_1 x_2 (fun x5 => some ((-1))) zF 0)
theorem cq_X7_callAt (w : zW) (l : Launch) (h : zH) (a_0 : Nat) (x_1 : Int) (x_2 : Int) : zCp w l yX7_callAt cX7_callAt 4 (some .int) 2 45 [.inr (7, a_0), .inl x_1, .inl x_2] h qI (q_X7_callAt h a_0 x_1 x_2) := by
  refine zCp.of (own := RX7) (loc := [some (.inr (7, a_0)), some (.inl x_1), some (.inl x_2), none]) (by decide) rfl (Nat.le_of_ble_eq_true rfl) (fun k v hk => ?_) ?_
  · exact zloc_ok 1 rfl hk
  intro p e s m args below meth c C Z1 Z2
  have L7 : ∀ (a0 : Nat) (i1 : Int) (i2 : Int) (k : Int → Option Int) (hk : ∀ (i3 : Int), zQP w p l e (zRm 2 45) s m args below meth c 4 qI (k i3) 66 [some (.inr (7, a0)), some (.inl i1), some (.inl i2), some (.inl i3)] [] h) (n : Nat) (i3 : Int), zQP w p l e (zRm 2 45) s m args below meth c 4 qI (q_X7_callAt_L7 h a0 i1 i2 k n i3) 7 [some (.inr (7, a0)), some (.inl i1), some (.inl i2), some (.inl i3)] [] h := by
    intro a0 i1 i2 k hk n
    induction n with
    | zero =>
      intro i3
      exact p_none
    | succ n ih =>
      intro i3
      rw [q_X7_callAt_L7]
      refine p_iload_n C dX7_callAt_7 rfl ?_
      refine p_aload_n C dX7_callAt_8 rfl ?_
      refine p_getR C dX7_callAt_9 fl7_10 rfl ?_
      refine p_getI C dX7_callAt_12 fl7_74 rfl ?_
      refine p_icmp_ge C dX7_callAt_15 (tgt := 66) (by decide) ?_ ?_
      · exact hk i3
      · refine p_aload_n C dX7_callAt_18 rfl ?_
        refine p_getR C dX7_callAt_19 fl7_10 rfl ?_
        refine p_getR C dX7_callAt_22 fl7_118 rfl ?_
        refine p_iload_n C dX7_callAt_25 rfl ?_
        refine p_aald C dX7_callAt_26 ⟨by decide, by decide, _, rfl⟩ ?_
        refine p_iload_n C dX7_callAt_27 rfl ?_
        refine p_pcallVI C dX7_callAt_28 mv7_232 (cq_X0_isOn w l h _ _) rfl ⟨by decide, by decide⟩ ⟨rfl, Nat.le_of_ble_eq_true rfl⟩ (fun x1 => ?_)
        refine p_if_eq C dX7_callAt_31 (tgt := 60) (by decide) ?_ ?_
        · refine p_iincL C dX7_callAt_60 rfl (by decide) (fun x2 => ?_)
          refine p_goto C dX7_callAt_63 (tgt := 7) (by decide) ?_
          exact ih x2
        · refine p_aload_n C dX7_callAt_34 rfl ?_
          refine p_getR C dX7_callAt_35 fl7_10 rfl ?_
          refine p_iload_n C dX7_callAt_38 rfl ?_
          refine p_aload_n C dX7_callAt_39 rfl ?_
          refine p_getR C dX7_callAt_40 fl7_10 rfl ?_
          refine p_getR C dX7_callAt_43 fl7_118 rfl ?_
          refine p_iload_n C dX7_callAt_46 rfl ?_
          refine p_aald C dX7_callAt_47 ⟨by decide, by decide, _, rfl⟩ ?_
          refine p_getI C dX7_callAt_48 fl7_162 rfl ?_
          refine p_pcallVI C dX7_callAt_51 mv7_236 (cq_X4_burstsBefore w l h _ _ _) rfl ⟨by decide, by decide⟩ ⟨rfl, Nat.le_of_ble_eq_true rfl⟩ (fun x3 => ?_)
          refine p_iload_n C dX7_callAt_54 rfl ?_
          refine p_icmp_ne C dX7_callAt_55 (tgt := 60) (by decide) ?_ ?_
          · refine p_iincL C dX7_callAt_60 rfl (by decide) (fun x4 => ?_)
            refine p_goto C dX7_callAt_63 (tgt := 7) (by decide) ?_
            exact ih x4
          · refine p_iload_n C dX7_callAt_58 rfl ?_
            exact p_iret C Z1 Z2 dX7_callAt_59
  unfold q_X7_callAt
  refine p_aload_n C dX7_callAt_0 rfl ?_
  refine p_iload_n C dX7_callAt_1 rfl ?_
  refine p_pcallVU C dX7_callAt_2 mv7_225 (cq_X7_checkCarrier w l h _ _) rfl ⟨by decide, by decide⟩ ⟨rfl, Nat.le_of_ble_eq_true rfl⟩ (fun _ => ?_)
  refine p_iconst C dX7_callAt_5 rfl ?_
  refine p_istore_n C dX7_callAt_6 (by decide) ?_
  refine L7 a_0 x_1 x_2 _ ?_ zF 0
  intro x5
  refine p_iconst C dX7_callAt_66 rfl ?_
  exact p_iret C Z1 Z2 dX7_callAt_67
def q_X7_callOver_L7 (h : zH) (a0 : Nat) (i1 : Int) (i2 : Int) (k : Int → Option Int) : Nat → Int → Option Int
  | 0, _ => none
  | n + 1, i3 => if h.1 (h.2 a0 0) 7 ≤ i3 then (k i3) else (zgi 16 i3 (zlet (h.2 (h.2 (h.2 a0 0) 8) i3.toNat) (fun r1 => zbp (q_X0_isOn h r1 i1) (fun x2 => if x2 = 0 then (zlet (zw (i3 + 1)) (fun x3 => q_X7_callOver_L7 h a0 i1 i2 k n x3)) else (if i2 < h.1 r1 7 then (zlet (zw (i3 + 1)) (fun x4 => q_X7_callOver_L7 h a0 i1 i2 k n x4)) else (if zw (h.1 r1 7 + h.1 r1 3) ≤ i2 then (zlet (zw (i3 + 1)) (fun x5 => q_X7_callOver_L7 h a0 i1 i2 k n x5)) else (some i3)))))))
def q_X7_callOver (h : zH) (a_0 : Nat) (x_1 : Int) (x_2 : Int) : Option Int := zbp (q_X7_checkCarrier h a_0 x_1) (fun _ => q_X7_callOver_L7 h a_0 x_1 x_2 (fun x6 => some ((-1))) zF 0)
theorem cq_X7_callOver (w : zW) (l : Launch) (h : zH) (a_0 : Nat) (x_1 : Int) (x_2 : Int) : zCp w l yX7_callOver cX7_callOver 5 (some .int) 2 43 [.inr (7, a_0), .inl x_1, .inl x_2] h qI (q_X7_callOver h a_0 x_1 x_2) := by
  refine zCp.of (own := RX7) (loc := [some (.inr (7, a_0)), some (.inl x_1), some (.inl x_2), none, none]) (by decide) rfl (Nat.le_of_ble_eq_true rfl) (fun k v hk => ?_) ?_
  · exact zloc_ok 2 rfl hk
  intro p e s m args below meth c C Z1 Z2
  have L7 : ∀ (a0 : Nat) (i1 : Int) (i2 : Int) (k : Int → Option Int) (hk : ∀ (u4 : Option zv) (i3 : Int), zQP w p l e (zRm 2 43) s m args below meth c 5 qI (k i3) 70 [some (.inr (7, a0)), some (.inl i1), some (.inl i2), some (.inl i3), u4] [] h) (n : Nat) (u4 : Option zv) (i3 : Int), zQP w p l e (zRm 2 43) s m args below meth c 5 qI (q_X7_callOver_L7 h a0 i1 i2 k n i3) 7 [some (.inr (7, a0)), some (.inl i1), some (.inl i2), some (.inl i3), u4] [] h := by
    intro a0 i1 i2 k hk n
    induction n with
    | zero =>
      intro u4 i3
      exact p_none
    | succ n ih =>
      intro u4 i3
      rw [q_X7_callOver_L7]
      refine p_iload_n C dX7_callOver_7 rfl ?_
      refine p_aload_n C dX7_callOver_8 rfl ?_
      refine p_getR C dX7_callOver_9 fl7_10 rfl ?_
      refine p_getI C dX7_callOver_12 fl7_74 rfl ?_
      refine p_icmp_ge C dX7_callOver_15 (tgt := 70) (by decide) ?_ ?_
      · exact hk _ i3
      · refine p_aload_n C dX7_callOver_18 rfl ?_
        refine p_getR C dX7_callOver_19 fl7_10 rfl ?_
        refine p_getR C dX7_callOver_22 fl7_118 rfl ?_
        refine p_iload_n C dX7_callOver_25 rfl ?_
        refine p_aald C dX7_callOver_26 ⟨by decide, by decide, _, rfl⟩ ?_
        refine p_astoreL C dX7_callOver_27 (by decide) (fun r1 => ?_)
        refine p_aload C dX7_callOver_29 rfl ?_
        refine p_iload_n C dX7_callOver_31 rfl ?_
        refine p_pcallVI C dX7_callOver_32 mv7_232 (cq_X0_isOn w l h _ _) rfl ⟨by decide, by decide⟩ ⟨rfl, Nat.le_of_ble_eq_true rfl⟩ (fun x2 => ?_)
        refine p_if_eq C dX7_callOver_35 (tgt := 64) (by decide) ?_ ?_
        · refine p_iincL C dX7_callOver_64 rfl (by decide) (fun x3 => ?_)
          refine p_goto C dX7_callOver_67 (tgt := 7) (by decide) ?_
          exact ih _ x3
        · refine p_aload C dX7_callOver_38 rfl ?_
          refine p_getI C dX7_callOver_40 fl7_162 rfl ?_
          refine p_iload_n C dX7_callOver_43 rfl ?_
          refine p_icmp_gt C dX7_callOver_44 (tgt := 64) (by decide) ?_ ?_
          · refine p_iincL C dX7_callOver_64 rfl (by decide) (fun x4 => ?_)
            refine p_goto C dX7_callOver_67 (tgt := 7) (by decide) ?_
            exact ih _ x4
          · refine p_iload_n C dX7_callOver_47 rfl ?_
            refine p_aload C dX7_callOver_48 rfl ?_
            refine p_getI C dX7_callOver_50 fl7_162 rfl ?_
            refine p_aload C dX7_callOver_53 rfl ?_
            refine p_getI C dX7_callOver_55 fl7_130 rfl ?_
            refine p_iadd C dX7_callOver_58 ?_
            refine p_icmp_ge C dX7_callOver_59 (tgt := 64) (by decide) ?_ ?_
            · refine p_iincL C dX7_callOver_64 rfl (by decide) (fun x5 => ?_)
              refine p_goto C dX7_callOver_67 (tgt := 7) (by decide) ?_
              exact ih _ x5
            · refine p_iload_n C dX7_callOver_62 rfl ?_
              exact p_iret C Z1 Z2 dX7_callOver_63
  unfold q_X7_callOver
  refine p_aload_n C dX7_callOver_0 rfl ?_
  refine p_iload_n C dX7_callOver_1 rfl ?_
  refine p_pcallVU C dX7_callOver_2 mv7_225 (cq_X7_checkCarrier w l h _ _) rfl ⟨by decide, by decide⟩ ⟨rfl, Nat.le_of_ble_eq_true rfl⟩ (fun _ => ?_)
  refine p_iconst C dX7_callOver_5 rfl ?_
  refine p_istore_n C dX7_callOver_6 (by decide) ?_
  refine L7 a_0 x_1 x_2 _ ?_ zF _ 0
  intro u7 x6
  refine p_iconst C dX7_callOver_70 rfl ?_
  exact p_iret C Z1 Z2 dX7_callOver_71
