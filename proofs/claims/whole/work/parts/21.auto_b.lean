def q_X7_feed (h : zH) (a_0 : Nat) (x_1 : Int) (x_2 : Int) (x_3 : Int) (x_4 : Int) (x_5 : Int) : Option (Int × zH) := zbd (q_X2_append h (h.2 a_0 4) x_1 x_2 x_3 x_4 x_5) (fun x1 h2 => some (x1, h2))
theorem cq_X7_feed (w : zW) (l : Launch) (h : zH) (a_0 : Nat) (x_1 : Int) (x_2 : Int) (x_3 : Int) (x_4 : Int) (x_5 : Int) : zCq w l yX7_feed cX7_feed 6 (some .int) 2 47 [.inr (7, a_0), .inl x_1, .inl x_2, .inl x_3, .inl x_4, .inl x_5] h qI (q_X7_feed h a_0 x_1 x_2 x_3 x_4 x_5) := by
  refine zCq.of (own := RX7) (loc := [some (.inr (7, a_0)), some (.inl x_1), some (.inl x_2), some (.inl x_3), some (.inl x_4), some (.inl x_5)]) (by decide) rfl (Nat.le_of_ble_eq_true rfl) (fun k v hk => ?_) ?_
  · exact zloc_ok 0 rfl hk
  intro p e s m args below meth c C Z1 Z2
  unfold q_X7_feed
  refine q_aload_n C dX7_feed_0 rfl ?_
  refine q_getR C dX7_feed_1 fl7_36 rfl ?_
  refine q_iload_n C dX7_feed_4 rfl ?_
  refine q_iload_n C dX7_feed_5 rfl ?_
  refine q_iload_n C dX7_feed_6 rfl ?_
  refine q_iload C dX7_feed_7 rfl ?_
  refine q_iload C dX7_feed_9 rfl ?_
  refine q_callVI C dX7_feed_11 mv7_40 (cq_X2_append w l h _ _ _ _ _ _) rfl ⟨by decide, by decide⟩ ⟨rfl, Nat.le_of_ble_eq_true rfl⟩ (fun x1 h2 => ?_)
  exact q_iret C Z1 Z2 dX7_feed_14
def q_X7_errorPosition (h : zH) (a_0 : Nat) : Option Int := some (h.1 (h.2 a_0 4) 2)
theorem cq_X7_errorPosition (w : zW) (l : Launch) (h : zH) (a_0 : Nat) : zCp w l yX7_errorPosition cX7_errorPosition 1 (some .int) 0 0 [.inr (7, a_0)] h qI (q_X7_errorPosition h a_0) := by
  refine zCp.of (own := RX7) (loc := [some (.inr (7, a_0))]) (by decide) rfl (Nat.le_of_ble_eq_true rfl) (fun k v hk => ?_) ?_
  · exact zloc_ok 0 rfl hk
  intro p e s m args below meth c C Z1 Z2
  unfold q_X7_errorPosition
  refine p_aload_n C dX7_errorPosition_0 rfl ?_
  refine p_getR C dX7_errorPosition_1 fl7_36 rfl ?_
  refine p_getI C dX7_errorPosition_4 fl7_68 rfl ?_
  exact p_iret C Z1 Z2 dX7_errorPosition_7
def q_X7_stationCount (h : zH) (a_0 : Nat) : Option Int := some (h.1 (h.2 a_0 0) 3)
theorem cq_X7_stationCount (w : zW) (l : Launch) (h : zH) (a_0 : Nat) : zCp w l yX7_stationCount cX7_stationCount 1 (some .int) 0 0 [.inr (7, a_0)] h qI (q_X7_stationCount h a_0) := by
  refine zCp.of (own := RX7) (loc := [some (.inr (7, a_0))]) (by decide) rfl (Nat.le_of_ble_eq_true rfl) (fun k v hk => ?_) ?_
  · exact zloc_ok 0 rfl hk
  intro p e s m args below meth c C Z1 Z2
  unfold q_X7_stationCount
  refine p_aload_n C dX7_stationCount_0 rfl ?_
  refine p_getR C dX7_stationCount_1 fl7_10 rfl ?_
  refine p_getI C dX7_stationCount_4 fl7_71 rfl ?_
  exact p_iret C Z1 Z2 dX7_stationCount_7
def q_X7_callCount (h : zH) (a_0 : Nat) : Option Int := some (h.1 (h.2 a_0 0) 7)
theorem cq_X7_callCount (w : zW) (l : Launch) (h : zH) (a_0 : Nat) : zCp w l yX7_callCount cX7_callCount 1 (some .int) 0 0 [.inr (7, a_0)] h qI (q_X7_callCount h a_0) := by
  refine zCp.of (own := RX7) (loc := [some (.inr (7, a_0))]) (by decide) rfl (Nat.le_of_ble_eq_true rfl) (fun k v hk => ?_) ?_
  · exact zloc_ok 0 rfl hk
  intro p e s m args below meth c C Z1 Z2
  unfold q_X7_callCount
  refine p_aload_n C dX7_callCount_0 rfl ?_
  refine p_getR C dX7_callCount_1 fl7_10 rfl ?_
  refine p_getI C dX7_callCount_4 fl7_74 rfl ?_
  exact p_iret C Z1 Z2 dX7_callCount_7
def q_X7_carrierCount (h : zH) (a_0 : Nat) : Option Int := some (h.1 (h.2 a_0 0) 1)
theorem cq_X7_carrierCount (w : zW) (l : Launch) (h : zH) (a_0 : Nat) : zCp w l yX7_carrierCount cX7_carrierCount 1 (some .int) 0 0 [.inr (7, a_0)] h qI (q_X7_carrierCount h a_0) := by
  refine zCp.of (own := RX7) (loc := [some (.inr (7, a_0))]) (by decide) rfl (Nat.le_of_ble_eq_true rfl) (fun k v hk => ?_) ?_
  · exact zloc_ok 0 rfl hk
  intro p e s m args below meth c C Z1 Z2
  unfold q_X7_carrierCount
  refine p_aload_n C dX7_carrierCount_0 rfl ?_
  refine p_getR C dX7_carrierCount_1 fl7_10 rfl ?_
  refine p_getI C dX7_carrierCount_4 fl7_77 rfl ?_
  exact p_iret C Z1 Z2 dX7_carrierCount_7
def q_X7_undoCount (h : zH) (a_0 : Nat) : Option Int := some (h.1 (h.2 a_0 3) 0)
theorem cq_X7_undoCount (w : zW) (l : Launch) (h : zH) (a_0 : Nat) : zCp w l yX7_undoCount cX7_undoCount 1 (some .int) 0 0 [.inr (7, a_0)] h qI (q_X7_undoCount h a_0) := by
  refine zCp.of (own := RX7) (loc := [some (.inr (7, a_0))]) (by decide) rfl (Nat.le_of_ble_eq_true rfl) (fun k v hk => ?_) ?_
  · exact zloc_ok 0 rfl hk
  intro p e s m args below meth c C Z1 Z2
  unfold q_X7_undoCount
  refine p_aload_n C dX7_undoCount_0 rfl ?_
  refine p_getR C dX7_undoCount_1 fl7_29 rfl ?_
  refine p_getI C dX7_undoCount_4 fl7_65 rfl ?_
  exact p_iret C Z1 Z2 dX7_undoCount_7
def q_X7_stationNamed (h : zH) (a_0 : Nat) (x_1 : Int) : Option Int := zbp (q_X4_stationWithName h (h.2 a_0 0) x_1) (fun x1 => some x1)
theorem cq_X7_stationNamed (w : zW) (l : Launch) (h : zH) (a_0 : Nat) (x_1 : Int) : zCp w l yX7_stationNamed cX7_stationNamed 2 (some .int) 1 22 [.inr (7, a_0), .inl x_1] h qI (q_X7_stationNamed h a_0 x_1) := by
  refine zCp.of (own := RX7) (loc := [some (.inr (7, a_0)), some (.inl x_1)]) (by decide) rfl (Nat.le_of_ble_eq_true rfl) (fun k v hk => ?_) ?_
  · exact zloc_ok 0 rfl hk
  intro p e s m args below meth c C Z1 Z2
  unfold q_X7_stationNamed
  refine p_aload_n C dX7_stationNamed_0 rfl ?_
  refine p_getR C dX7_stationNamed_1 fl7_10 rfl ?_
  refine p_iload_n C dX7_stationNamed_4 rfl ?_
  refine p_pcallVI C dX7_stationNamed_5 mv7_80 (cq_X4_stationWithName w l h _ _) rfl ⟨by decide, by decide⟩ ⟨rfl, Nat.le_of_ble_eq_true rfl⟩ (fun x1 => ?_)
  exact p_iret C Z1 Z2 dX7_stationNamed_8
def q_X7_now (h : zH) (a_0 : Nat) : Option Int := some (h.1 (h.2 a_0 0) 0)
theorem cq_X7_now (w : zW) (l : Launch) (h : zH) (a_0 : Nat) : zCp w l yX7_now cX7_now 1 (some .int) 0 0 [.inr (7, a_0)] h qI (q_X7_now h a_0) := by
  refine zCp.of (own := RX7) (loc := [some (.inr (7, a_0))]) (by decide) rfl (Nat.le_of_ble_eq_true rfl) (fun k v hk => ?_) ?_
  · exact zloc_ok 0 rfl hk
  intro p e s m args below meth c C Z1 Z2
  unfold q_X7_now
  refine p_aload_n C dX7_now_0 rfl ?_
  refine p_getR C dX7_now_1 fl7_10 rfl ?_
  refine p_getI C dX7_now_4 fl7_83 rfl ?_
  exact p_iret C Z1 Z2 dX7_now_7
def q_X7_getSetting (h : zH) (a_0 : Nat) (x_1 : Int) : Option Int := zbp (q_X7_inRange h x_1 0 6) (fun x1 => if x1 = 0 then (some ((-2))) else (zgi 7 x_1 (some (h.1 (h.2 (h.2 a_0 0) 2) x_1.toNat))))
theorem cq_X7_getSetting (w : zW) (l : Launch) (h : zH) (a_0 : Nat) (x_1 : Int) : zCp w l yX7_getSetting cX7_getSetting 2 (some .int) 1 22 [.inr (7, a_0), .inl x_1] h qI (q_X7_getSetting h a_0 x_1) := by
  refine zCp.of (own := RX7) (loc := [some (.inr (7, a_0)), some (.inl x_1)]) (by decide) rfl (Nat.le_of_ble_eq_true rfl) (fun k v hk => ?_) ?_
  · exact zloc_ok 0 rfl hk
  intro p e s m args below meth c C Z1 Z2
  unfold q_X7_getSetting
  refine p_iload_n C dX7_getSetting_0 rfl ?_
  refine p_iconst C dX7_getSetting_1 rfl ?_
  refine p_bipush C dX7_getSetting_2 (by decide) rfl ?_
  refine p_pcallSI C dX7_getSetting_4 ms7_86 (cq_X7_inRange w l h _ _ _) rfl ⟨by decide, by decide⟩ ⟨rfl, Nat.le_of_ble_eq_true rfl⟩ (fun x1 => ?_)
  refine p_if_eq C dX7_getSetting_7 (tgt := 22) (by decide) ?_ ?_
  · refine p_bipush C dX7_getSetting_22 (by decide) rfl ?_
    exact p_iret C Z1 Z2 dX7_getSetting_24
  · refine p_aload_n C dX7_getSetting_10 rfl ?_
    refine p_getR C dX7_getSetting_11 fl7_10 rfl ?_
    refine p_getR C dX7_getSetting_14 fl7_90 rfl ?_
    refine p_iload_n C dX7_getSetting_17 rfl ?_
    refine p_iald C dX7_getSetting_18 ⟨by decide, by decide, rfl⟩ ?_
    refine p_goto C dX7_getSetting_19 (tgt := 24) (by decide) ?_
    exact p_iret C Z1 Z2 dX7_getSetting_24
def q_X7_checkedStation (h : zH) (a_0 : Nat) (x_1 : Int) : Option Nat := zbp (q_X7_inRange h x_1 0 (zw (h.1 (h.2 a_0 0) 3 - 1))) (fun x1 => if x1 = 0 then (none) else (zgi 6 x_1 (some (h.2 (h.2 (h.2 a_0 0) 4) x_1.toNat))))
theorem cq_X7_checkedStation (w : zW) (l : Launch) (h : zH) (a_0 : Nat) (x_1 : Int) : zCp w l yX7_checkedStation cX7_checkedStation 2 (some (.object "SatelliteExchange$Station")) 1 22 [.inr (7, a_0), .inl x_1] h (qR 5) (q_X7_checkedStation h a_0 x_1) := by
  refine zCp.of (own := RX7) (loc := [some (.inr (7, a_0)), some (.inl x_1)]) (by decide) rfl (Nat.le_of_ble_eq_true rfl) (fun k v hk => ?_) ?_
  · exact zloc_ok 0 rfl hk
  intro p e s m args below meth c C Z1 Z2
  unfold q_X7_checkedStation
  refine p_iload_n C dX7_checkedStation_0 rfl ?_
  refine p_iconst C dX7_checkedStation_1 rfl ?_
  refine p_aload_n C dX7_checkedStation_2 rfl ?_
  refine p_getR C dX7_checkedStation_3 fl7_10 rfl ?_
  refine p_getI C dX7_checkedStation_6 fl7_71 rfl ?_
  refine p_iconst C dX7_checkedStation_9 rfl ?_
  refine p_isub C dX7_checkedStation_10 ?_
  refine p_pcallSI C dX7_checkedStation_11 ms7_86 (cq_X7_inRange w l h _ _ _) rfl ⟨by decide, by decide⟩ ⟨rfl, Nat.le_of_ble_eq_true rfl⟩ (fun x1 => ?_)
  refine p_if_ne C dX7_checkedStation_14 (tgt := 28) (by decide) ?_ ?_
  · refine p_aload_n C dX7_checkedStation_28 rfl ?_
    refine p_getR C dX7_checkedStation_29 fl7_10 rfl ?_
    refine p_getR C dX7_checkedStation_32 fl7_165 rfl ?_
    refine p_iload_n C dX7_checkedStation_35 rfl ?_
    refine p_aald C dX7_checkedStation_36 ⟨by decide, by decide, _, rfl⟩ ?_
    exact p_aret C Z1 Z2 dX7_checkedStation_37
  · exact p_none
def q_X7_fade (h : zH) (a_0 : Nat) (x_1 : Int) (x_2 : Int) : Option Int := zbp (q_X7_checkedStation h a_0 x_1) (fun r1 => zbp (q_X7_inRange h x_2 0 9999) (fun x2 => if x2 = 0 then (some ((-2))) else (zbp (q_X4_fadeIn h (h.2 a_0 0) x_1 x_2) (fun x3 => some x3))))
theorem cq_X7_fade (w : zW) (l : Launch) (h : zH) (a_0 : Nat) (x_1 : Int) (x_2 : Int) : zCp w l yX7_fade cX7_fade 3 (some .int) 2 47 [.inr (7, a_0), .inl x_1, .inl x_2] h qI (q_X7_fade h a_0 x_1 x_2) := by
  refine zCp.of (own := RX7) (loc := [some (.inr (7, a_0)), some (.inl x_1), some (.inl x_2)]) (by decide) rfl (Nat.le_of_ble_eq_true rfl) (fun k v hk => ?_) ?_
  · exact zloc_ok 0 rfl hk
  intro p e s m args below meth c C Z1 Z2
  unfold q_X7_fade
  refine p_aload_n C dX7_fade_0 rfl ?_
  refine p_iload_n C dX7_fade_1 rfl ?_
  refine p_pcallVR C dX7_fade_2 mv7_94 (cq_X7_checkedStation w l h _ _) rfl ⟨by decide, by decide⟩ ⟨rfl, Nat.le_of_ble_eq_true rfl⟩ (fun r1 => ?_)
  refine p_pop C dX7_fade_5 ?_
  refine p_iload_n C dX7_fade_6 rfl ?_
  refine p_iconst C dX7_fade_7 rfl ?_
  refine p_sipush C dX7_fade_8 (by decide) rfl ?_
  refine p_pcallSI C dX7_fade_11 ms7_86 (cq_X7_inRange w l h _ _ _) rfl ⟨by decide, by decide⟩ ⟨rfl, Nat.le_of_ble_eq_true rfl⟩ (fun x2 => ?_)
  refine p_if_eq C dX7_fade_14 (tgt := 29) (by decide) ?_ ?_
  · refine p_bipush C dX7_fade_29 (by decide) rfl ?_
    exact p_iret C Z1 Z2 dX7_fade_31
  · refine p_aload_n C dX7_fade_17 rfl ?_
    refine p_getR C dX7_fade_18 fl7_10 rfl ?_
    refine p_iload_n C dX7_fade_21 rfl ?_
    refine p_iload_n C dX7_fade_22 rfl ?_
    refine p_pcallVI C dX7_fade_23 mv7_98 (cq_X4_fadeIn w l h _ _ _) rfl ⟨by decide, by decide⟩ ⟨rfl, Nat.le_of_ble_eq_true rfl⟩ (fun x3 => ?_)
    refine p_goto C dX7_fade_26 (tgt := 31) (by decide) ?_
    exact p_iret C Z1 Z2 dX7_fade_31
def q_X7_power (h : zH) (a_0 : Nat) (x_1 : Int) : Option Int := zbp (q_X7_checkedStation h a_0 x_1) (fun r1 => some (h.1 r1 5))
theorem cq_X7_power (w : zW) (l : Launch) (h : zH) (a_0 : Nat) (x_1 : Int) : zCp w l yX7_power cX7_power 2 (some .int) 2 43 [.inr (7, a_0), .inl x_1] h qI (q_X7_power h a_0 x_1) := by
  refine zCp.of (own := RX7) (loc := [some (.inr (7, a_0)), some (.inl x_1)]) (by decide) rfl (Nat.le_of_ble_eq_true rfl) (fun k v hk => ?_) ?_
  · exact zloc_ok 0 rfl hk
  intro p e s m args below meth c C Z1 Z2
  unfold q_X7_power
  refine p_aload_n C dX7_power_0 rfl ?_
  refine p_iload_n C dX7_power_1 rfl ?_
  refine p_pcallVR C dX7_power_2 mv7_94 (cq_X7_checkedStation w l h _ _) rfl ⟨by decide, by decide⟩ ⟨rfl, Nat.le_of_ble_eq_true rfl⟩ (fun r1 => ?_)
  refine p_getI C dX7_power_5 fl7_102 rfl ?_
  exact p_iret C Z1 Z2 dX7_power_8
def q_X7_timingError (h : zH) (a_0 : Nat) (x_1 : Int) : Option Int := zbp (q_X7_checkedStation h a_0 x_1) (fun r1 => zbp (q_X5_errorIn h r1 (h.1 (h.2 a_0 0) 0)) (fun x2 => some x2))
theorem cq_X7_timingError (w : zW) (l : Launch) (h : zH) (a_0 : Nat) (x_1 : Int) : zCp w l yX7_timingError cX7_timingError 2 (some .int) 2 43 [.inr (7, a_0), .inl x_1] h qI (q_X7_timingError h a_0 x_1) := by
  refine zCp.of (own := RX7) (loc := [some (.inr (7, a_0)), some (.inl x_1)]) (by decide) rfl (Nat.le_of_ble_eq_true rfl) (fun k v hk => ?_) ?_
  · exact zloc_ok 0 rfl hk
  intro p e s m args below meth c C Z1 Z2
  unfold q_X7_timingError
  refine p_aload_n C dX7_timingError_0 rfl ?_
  refine p_iload_n C dX7_timingError_1 rfl ?_
  refine p_pcallVR C dX7_timingError_2 mv7_94 (cq_X7_checkedStation w l h _ _) rfl ⟨by decide, by decide⟩ ⟨rfl, Nat.le_of_ble_eq_true rfl⟩ (fun r1 => ?_)
  refine p_aload_n C dX7_timingError_5 rfl ?_
  refine p_getR C dX7_timingError_6 fl7_10 rfl ?_
  refine p_getI C dX7_timingError_9 fl7_83 rfl ?_
  refine p_pcallVI C dX7_timingError_12 mv7_105 (cq_X5_errorIn w l h _ _) rfl ⟨by decide, by decide⟩ ⟨rfl, Nat.le_of_ble_eq_true rfl⟩ (fun x2 => ?_)
  exact p_iret C Z1 Z2 dX7_timingError_15
def q_X7_roundTrip (h : zH) (a_0 : Nat) (x_1 : Int) : Option Int := zbp (q_X7_checkedStation h a_0 x_1) (fun r1 => zbp (q_X4_tripOf h (h.2 a_0 0) r1) (fun x2 => some x2))
theorem cq_X7_roundTrip (w : zW) (l : Launch) (h : zH) (a_0 : Nat) (x_1 : Int) : zCp w l yX7_roundTrip cX7_roundTrip 2 (some .int) 2 43 [.inr (7, a_0), .inl x_1] h qI (q_X7_roundTrip h a_0 x_1) := by
  refine zCp.of (own := RX7) (loc := [some (.inr (7, a_0)), some (.inl x_1)]) (by decide) rfl (Nat.le_of_ble_eq_true rfl) (fun k v hk => ?_) ?_
  · exact zloc_ok 0 rfl hk
  intro p e s m args below meth c C Z1 Z2
  unfold q_X7_roundTrip
  refine p_aload_n C dX7_roundTrip_0 rfl ?_
  refine p_getR C dX7_roundTrip_1 fl7_10 rfl ?_
  refine p_aload_n C dX7_roundTrip_4 rfl ?_
  refine p_iload_n C dX7_roundTrip_5 rfl ?_
  refine p_pcallVR C dX7_roundTrip_6 mv7_94 (cq_X7_checkedStation w l h _ _) rfl ⟨by decide, by decide⟩ ⟨rfl, Nat.le_of_ble_eq_true rfl⟩ (fun r1 => ?_)
  refine p_pcallVI C dX7_roundTrip_9 mv7_108 (cq_X4_tripOf w l h _ _) rfl ⟨by decide, by decide⟩ ⟨rfl, Nat.le_of_ble_eq_true rfl⟩ (fun x2 => ?_)
  exact p_iret C Z1 Z2 dX7_roundTrip_12
def q_X7_timingFaults (h : zH) (a_0 : Nat) (x_1 : Int) : Option Int := zbp (q_X7_checkedStation h a_0 x_1) (fun r1 => some (h.1 r1 6))
theorem cq_X7_timingFaults (w : zW) (l : Launch) (h : zH) (a_0 : Nat) (x_1 : Int) : zCp w l yX7_timingFaults cX7_timingFaults 2 (some .int) 2 43 [.inr (7, a_0), .inl x_1] h qI (q_X7_timingFaults h a_0 x_1) := by
  refine zCp.of (own := RX7) (loc := [some (.inr (7, a_0)), some (.inl x_1)]) (by decide) rfl (Nat.le_of_ble_eq_true rfl) (fun k v hk => ?_) ?_
  · exact zloc_ok 0 rfl hk
  intro p e s m args below meth c C Z1 Z2
  unfold q_X7_timingFaults
  refine p_aload_n C dX7_timingFaults_0 rfl ?_
  refine p_iload_n C dX7_timingFaults_1 rfl ?_
  refine p_pcallVR C dX7_timingFaults_2 mv7_94 (cq_X7_checkedStation w l h _ _) rfl ⟨by decide, by decide⟩ ⟨rfl, Nat.le_of_ble_eq_true rfl⟩ (fun r1 => ?_)
  refine p_getI C dX7_timingFaults_5 fl7_112 rfl ?_
  exact p_iret C Z1 Z2 dX7_timingFaults_8
def q_X7_busiestStation_L6 (h : zH) (a0 : Nat) (k : Int → Int → Int → Option Int) : Nat → Int → Int → Int → Option Int
  | 0, _, _, _ => none
  | n + 1, i1, i2, i3 => if h.1 (h.2 a0 0) 3 ≤ i3 then (k i1 i2 i3) else (zbp (q_X4_activeCallsWith h (h.2 a0 0) i3) (fun x1 => if x1 ≤ i2 then (zlet (zw (i3 + 1)) (fun x2 => q_X7_busiestStation_L6 h a0 k n i1 i2 x2)) else (zlet (zw (i3 + 1)) (fun x3 => q_X7_busiestStation_L6 h a0 k n i3 x1 x3))))
def q_X7_busiestStation (h : zH) (a_0 : Nat) : Option Int := q_X7_busiestStation_L6 h a_0 (fun x4 x5 x6 => some x4) zF ((-1)) 0 0
theorem cq_X7_busiestStation (w : zW) (l : Launch) (h : zH) (a_0 : Nat) : zCp w l yX7_busiestStation cX7_busiestStation 5 (some .int) 1 24 [.inr (7, a_0)] h qI (q_X7_busiestStation h a_0) := by
  refine zCp.of (own := RX7) (loc := [some (.inr (7, a_0)), none, none, none, none]) (by decide) rfl (Nat.le_of_ble_eq_true rfl) (fun k v hk => ?_) ?_
  · exact zloc_ok 4 rfl hk
  intro p e s m args below meth c C Z1 Z2
  have L6 : ∀ (a0 : Nat) (k : Int → Int → Int → Option Int) (hk : ∀ (u4 : Option zv) (i1 : Int) (i2 : Int) (i3 : Int), zQP w p l e (zRm 1 24) s m args below meth c 5 qI (k i1 i2 i3) 44 [some (.inr (7, a0)), some (.inl i1), some (.inl i2), some (.inl i3), u4] [] h) (n : Nat) (u4 : Option zv) (i1 : Int) (i2 : Int) (i3 : Int), zQP w p l e (zRm 1 24) s m args below meth c 5 qI (q_X7_busiestStation_L6 h a0 k n i1 i2 i3) 6 [some (.inr (7, a0)), some (.inl i1), some (.inl i2), some (.inl i3), u4] [] h := by
    intro a0 k hk n
    induction n with
    | zero =>
      intro u4 i1 i2 i3
      exact p_none
    | succ n ih =>
      intro u4 i1 i2 i3
      rw [q_X7_busiestStation_L6]
      refine p_iload_n C dX7_busiestStation_6 rfl ?_
      refine p_aload_n C dX7_busiestStation_7 rfl ?_
      refine p_getR C dX7_busiestStation_8 fl7_10 rfl ?_
      refine p_getI C dX7_busiestStation_11 fl7_71 rfl ?_
      refine p_icmp_ge C dX7_busiestStation_14 (tgt := 44) (by decide) ?_ ?_
      · exact hk _ i1 i2 i3
      · refine p_aload_n C dX7_busiestStation_17 rfl ?_
        refine p_getR C dX7_busiestStation_18 fl7_10 rfl ?_
        refine p_iload_n C dX7_busiestStation_21 rfl ?_
        refine p_pcallVI C dX7_busiestStation_22 mv7_115 (cq_X4_activeCallsWith w l h _ _) rfl ⟨by decide, by decide⟩ ⟨rfl, Nat.le_of_ble_eq_true rfl⟩ (fun x1 => ?_)
        refine p_istore C dX7_busiestStation_25 (by decide) ?_
        refine p_iload C dX7_busiestStation_27 rfl ?_
        refine p_iload_n C dX7_busiestStation_29 rfl ?_
        refine p_icmp_le C dX7_busiestStation_30 (tgt := 38) (by decide) ?_ ?_
        · refine p_iincL C dX7_busiestStation_38 rfl (by decide) (fun x2 => ?_)
          refine p_goto C dX7_busiestStation_41 (tgt := 6) (by decide) ?_
          exact ih _ i1 i2 x2
        · refine p_iload_n C dX7_busiestStation_33 rfl ?_
          refine p_istore_n C dX7_busiestStation_34 (by decide) ?_
          refine p_iload C dX7_busiestStation_35 rfl ?_
          refine p_istore_n C dX7_busiestStation_37 (by decide) ?_
          refine p_iincL C dX7_busiestStation_38 rfl (by decide) (fun x3 => ?_)
          refine p_goto C dX7_busiestStation_41 (tgt := 6) (by decide) ?_
          exact ih _ i3 x1 x3
  unfold q_X7_busiestStation
  refine p_iconst C dX7_busiestStation_0 rfl ?_
  refine p_istore_n C dX7_busiestStation_1 (by decide) ?_
  refine p_iconst C dX7_busiestStation_2 rfl ?_
  refine p_istore_n C dX7_busiestStation_3 (by decide) ?_
  refine p_iconst C dX7_busiestStation_4 rfl ?_
  refine p_istore_n C dX7_busiestStation_5 (by decide) ?_
  refine L6 a_0 _ ?_ zF _ ((-1)) 0 0
  intro u7 x4 x5 x6
  refine p_iload_n C dX7_busiestStation_44 rfl ?_
  exact p_iret C Z1 Z2 dX7_busiestStation_45
def q_X7_loadOf_L10 (h : zH) (a0 : Nat) (i1 : Int) (k : Int → Int → Option Int) : Nat → Int → Int → Option Int
  | 0, _, _ => none
  | n + 1, i2, i3 => if h.1 (h.2 a0 0) 7 ≤ i3 then (k i2 i3) else (zgi 16 i3 (zlet (h.2 (h.2 (h.2 a0 0) 8) i3.toNat) (fun r2 => if h.1 r2 5 = 1 then (if h.1 r2 0 = i1 then (zlet (zw (i2 + h.1 r2 3)) (fun x5 => zlet (zw (i3 + 1)) (fun x6 => q_X7_loadOf_L10 h a0 i1 k n x5 x6))) else (zlet (zw (i3 + 1)) (fun x4 => q_X7_loadOf_L10 h a0 i1 k n i2 x4))) else (zlet (zw (i3 + 1)) (fun x3 => q_X7_loadOf_L10 h a0 i1 k n i2 x3)))))
def q_X7_loadOf (h : zH) (a_0 : Nat) (x_1 : Int) : Option Int := zbp (q_X7_checkedStation h a_0 x_1) (fun r1 => q_X7_loadOf_L10 h a_0 x_1 (fun x7 x8 => some x7) zF 0 0)
theorem cq_X7_loadOf (w : zW) (l : Launch) (h : zH) (a_0 : Nat) (x_1 : Int) : zCp w l yX7_loadOf cX7_loadOf 5 (some .int) 2 43 [.inr (7, a_0), .inl x_1] h qI (q_X7_loadOf h a_0 x_1) := by
  refine zCp.of (own := RX7) (loc := [some (.inr (7, a_0)), some (.inl x_1), none, none, none]) (by decide) rfl (Nat.le_of_ble_eq_true rfl) (fun k v hk => ?_) ?_
  · exact zloc_ok 3 rfl hk
  intro p e s m args below meth c C Z1 Z2
  have L10 : ∀ (a0 : Nat) (i1 : Int) (k : Int → Int → Option Int) (hk : ∀ (u4 : Option zv) (i2 : Int) (i3 : Int), zQP w p l e (zRm 2 43) s m args below meth c 5 qI (k i2 i3) 64 [some (.inr (7, a0)), some (.inl i1), some (.inl i2), some (.inl i3), u4] [] h) (n : Nat) (u4 : Option zv) (i2 : Int) (i3 : Int), zQP w p l e (zRm 2 43) s m args below meth c 5 qI (q_X7_loadOf_L10 h a0 i1 k n i2 i3) 10 [some (.inr (7, a0)), some (.inl i1), some (.inl i2), some (.inl i3), u4] [] h := by
    intro a0 i1 k hk n
    induction n with
    | zero =>
      intro u4 i2 i3
      exact p_none
    | succ n ih =>
      intro u4 i2 i3
      rw [q_X7_loadOf_L10]
      refine p_iload_n C dX7_loadOf_10 rfl ?_
      refine p_aload_n C dX7_loadOf_11 rfl ?_
      refine p_getR C dX7_loadOf_12 fl7_10 rfl ?_
      refine p_getI C dX7_loadOf_15 fl7_74 rfl ?_
      refine p_icmp_ge C dX7_loadOf_18 (tgt := 64) (by decide) ?_ ?_
      · exact hk _ i2 i3
      · refine p_aload_n C dX7_loadOf_21 rfl ?_
        refine p_getR C dX7_loadOf_22 fl7_10 rfl ?_
        refine p_getR C dX7_loadOf_25 fl7_118 rfl ?_
        refine p_iload_n C dX7_loadOf_28 rfl ?_
        refine p_aald C dX7_loadOf_29 ⟨by decide, by decide, _, rfl⟩ ?_
        refine p_astoreL C dX7_loadOf_30 (by decide) (fun r2 => ?_)
        refine p_aload C dX7_loadOf_32 rfl ?_
        refine p_getI C dX7_loadOf_34 fl7_122 rfl ?_
        refine p_iconst C dX7_loadOf_37 rfl ?_
        refine p_icmp_ne C dX7_loadOf_38 (tgt := 58) (by decide) ?_ ?_
        · refine p_iincL C dX7_loadOf_58 rfl (by decide) (fun x3 => ?_)
          refine p_goto C dX7_loadOf_61 (tgt := 10) (by decide) ?_
          exact ih _ i2 x3
        · refine p_aload C dX7_loadOf_41 rfl ?_
          refine p_getI C dX7_loadOf_43 fl7_127 rfl ?_
          refine p_iload_n C dX7_loadOf_46 rfl ?_
          refine p_icmp_ne C dX7_loadOf_47 (tgt := 58) (by decide) ?_ ?_
          · refine p_iincL C dX7_loadOf_58 rfl (by decide) (fun x4 => ?_)
            refine p_goto C dX7_loadOf_61 (tgt := 10) (by decide) ?_
            exact ih _ i2 x4
          · refine p_iload_n C dX7_loadOf_50 rfl ?_
            refine p_aload C dX7_loadOf_51 rfl ?_
            refine p_getI C dX7_loadOf_53 fl7_130 rfl ?_
            refine p_iadd C dX7_loadOf_56 ?_
            refine p_istore_nL C dX7_loadOf_57 (by decide) (fun x5 => ?_)
            refine p_iincL C dX7_loadOf_58 rfl (by decide) (fun x6 => ?_)
            refine p_goto C dX7_loadOf_61 (tgt := 10) (by decide) ?_
            exact ih _ x5 x6
  unfold q_X7_loadOf
  refine p_aload_n C dX7_loadOf_0 rfl ?_
  refine p_iload_n C dX7_loadOf_1 rfl ?_
  refine p_pcallVR C dX7_loadOf_2 mv7_94 (cq_X7_checkedStation w l h _ _) rfl ⟨by decide, by decide⟩ ⟨rfl, Nat.le_of_ble_eq_true rfl⟩ (fun r1 => ?_)
  refine p_pop C dX7_loadOf_5 ?_
  refine p_iconst C dX7_loadOf_6 rfl ?_
  refine p_istore_n C dX7_loadOf_7 (by decide) ?_
  refine p_iconst C dX7_loadOf_8 rfl ?_
  refine p_istore_n C dX7_loadOf_9 (by decide) ?_
  refine L10 a_0 x_1 _ ?_ zF _ 0 0
  intro u9 x7 x8
  refine p_iload_n C dX7_loadOf_64 rfl ?_
  exact p_iret C Z1 Z2 dX7_loadOf_65
def q_X7_errorAfter_L50 (a0 : Nat) (i4 : Int) (k : Int → zH → Option (Int × zH)) : Nat → Int → zH → Option (Int × zH)
  | 0, _, _ => none
  | n + 1, i5, h => if i4 < i5 then (k i5 h) else (zbp (q_X4_tripOf h (h.2 a0 0) (h.2 a0 2)) (fun x6 => zbd (q_X5_keepTime h (h.2 a0 2) i5 x6 (h.1 (h.2 (h.2 a0 0) 2) 6)) (fun _ h7 => zlet (zw (i5 + 1)) (fun x8 => q_X7_errorAfter_L50 a0 i4 k n x8 h7))))
def q_X7_errorAfter (h : zH) (a_0 : Nat) (x_1 : Int) (x_2 : Int) : Option (Int × zH) := zbp (q_X7_checkedStation h a_0 x_1) (fun r1 => zbp (q_X7_inRange h x_2 0 200) (fun x2 => if x2 = 0 then (some (-2147483648, h)) else (zbd (q_X5_copyFrom h (h.2 a_0 2) r1) (fun _ h3 => zlet (zw (h3.1 (h3.2 a_0 0) 0 + x_2)) (fun x4 => zlet (zw (h3.1 (h3.2 a_0 0) 0 + 1)) (fun x5 => q_X7_errorAfter_L50 a_0 x4 (fun x9 h10 => zbp (q_X5_errorIn h10 (h10.2 a_0 2) x4) (fun x14 => some (x14, h10))) zF x5 h3))))))
theorem cq_X7_errorAfter (w : zW) (l : Launch) (h : zH) (a_0 : Nat) (x_1 : Int) (x_2 : Int) : zCq w l yX7_errorAfter cX7_errorAfter 6 (some .int) 2 98 [.inr (7, a_0), .inl x_1, .inl x_2] h qI (q_X7_errorAfter h a_0 x_1 x_2) := by
  refine zCq.of (own := RX7) (loc := [some (.inr (7, a_0)), some (.inl x_1), some (.inl x_2), none, none, none]) (by decide) rfl (Nat.le_of_ble_eq_true rfl) (fun k v hk => ?_) ?_
  · exact zloc_ok 3 rfl hk
  intro p e s m args below meth c C Z1 Z2
  have L50 : ∀ (a0 : Nat) (i4 : Int) (k : Int → zH → Option (Int × zH)) (hk : ∀ (u1 u2 u3 : Option zv) (i5 : Int) (h : zH), zQV w p l e (zRm 2 98) s m args below meth c 6 qI (k i5 h) 93 [some (.inr (7, a0)), u1, u2, u3, some (.inl i4), some (.inl i5)] [] h) (n : Nat) (u1 u2 u3 : Option zv) (i5 : Int) (h : zH), zQV w p l e (zRm 2 98) s m args below meth c 6 qI (q_X7_errorAfter_L50 a0 i4 k n i5 h) 50 [some (.inr (7, a0)), u1, u2, u3, some (.inl i4), some (.inl i5)] [] h := by
    intro a0 i4 k hk n
    induction n with
    | zero =>
      intro u1 u2 u3 i5 h
      exact q_none
    | succ n ih =>
      intro u1 u2 u3 i5 h
      rw [q_X7_errorAfter_L50]
      refine q_iload C dX7_errorAfter_50 rfl ?_
      refine q_iload C dX7_errorAfter_52 rfl ?_
      refine q_icmp_gt C dX7_errorAfter_54 (tgt := 93) (by decide) ?_ ?_
      · exact hk _ _ _ i5 h
      · refine q_aload_n C dX7_errorAfter_57 rfl ?_
        refine q_getR C dX7_errorAfter_58 fl7_22 rfl ?_
        refine q_iload C dX7_errorAfter_61 rfl ?_
        refine q_aload_n C dX7_errorAfter_63 rfl ?_
        refine q_getR C dX7_errorAfter_64 fl7_10 rfl ?_
        refine q_aload_n C dX7_errorAfter_67 rfl ?_
        refine q_getR C dX7_errorAfter_68 fl7_22 rfl ?_
        refine q_pcallVI C dX7_errorAfter_71 mv7_108 (cq_X4_tripOf w l h _ _) rfl ⟨by decide, by decide⟩ ⟨rfl, Nat.le_of_ble_eq_true rfl⟩ (fun x6 => ?_)
        refine q_aload_n C dX7_errorAfter_74 rfl ?_
        refine q_getR C dX7_errorAfter_75 fl7_10 rfl ?_
        refine q_getR C dX7_errorAfter_78 fl7_90 rfl ?_
        refine q_bipush C dX7_errorAfter_81 (by decide) rfl ?_
        refine q_ialdN (j := 6) C dX7_errorAfter_83 ⟨by decide, by decide, rfl⟩ rfl (by decide) ?_
        refine q_callVU C dX7_errorAfter_84 mv7_137 (cq_X5_keepTime w l h _ _ _ _) rfl ⟨by decide, by decide⟩ ⟨rfl, Nat.le_of_ble_eq_true rfl⟩ (fun _ h7 => ?_)
        refine q_iincL C dX7_errorAfter_87 rfl (by decide) (fun x8 => ?_)
        refine q_goto C dX7_errorAfter_90 (tgt := 50) (by decide) ?_
        exact ih _ _ _ x8 h7
  unfold q_X7_errorAfter
  refine q_aload_n C dX7_errorAfter_0 rfl ?_
  refine q_iload_n C dX7_errorAfter_1 rfl ?_
  refine q_pcallVR C dX7_errorAfter_2 mv7_94 (cq_X7_checkedStation w l h _ _) rfl ⟨by decide, by decide⟩ ⟨rfl, Nat.le_of_ble_eq_true rfl⟩ (fun r1 => ?_)
  refine q_astore_n C dX7_errorAfter_5 (by decide) ?_
  refine q_iload_n C dX7_errorAfter_6 rfl ?_
  refine q_iconst C dX7_errorAfter_7 rfl ?_
  refine q_sipush C dX7_errorAfter_8 (by decide) rfl ?_
  refine q_pcallSI C dX7_errorAfter_11 ms7_86 (cq_X7_inRange w l h _ _ _) rfl ⟨by decide, by decide⟩ ⟨rfl, Nat.le_of_ble_eq_true rfl⟩ (fun x2 => ?_)
  refine q_if_ne C dX7_errorAfter_14 (tgt := 20) (by decide) ?_ ?_
  · refine q_aload_n C dX7_errorAfter_20 rfl ?_
    refine q_getR C dX7_errorAfter_21 fl7_22 rfl ?_
    refine q_aload_n C dX7_errorAfter_24 rfl ?_
    refine q_callVU C dX7_errorAfter_25 mv7_134 (cq_X5_copyFrom w l h _ _) rfl ⟨by decide, by decide⟩ ⟨rfl, Nat.le_of_ble_eq_true rfl⟩ (fun _ h3 => ?_)
    refine q_aload_n C dX7_errorAfter_28 rfl ?_
    refine q_getR C dX7_errorAfter_29 fl7_10 rfl ?_
    refine q_getI C dX7_errorAfter_32 fl7_83 rfl ?_
    refine q_iload_n C dX7_errorAfter_35 rfl ?_
    refine q_iadd C dX7_errorAfter_36 ?_
    refine q_istoreL C dX7_errorAfter_37 (by decide) (fun x4 => ?_)
    refine q_aload_n C dX7_errorAfter_39 rfl ?_
    refine q_getR C dX7_errorAfter_40 fl7_10 rfl ?_
    refine q_getI C dX7_errorAfter_43 fl7_83 rfl ?_
    refine q_iconst C dX7_errorAfter_46 rfl ?_
    refine q_iadd C dX7_errorAfter_47 ?_
    refine q_istoreL C dX7_errorAfter_48 (by decide) (fun x5 => ?_)
    refine L50 a_0 x4 _ ?_ zF _ _ _ x5 h3
    intro u11 u12 u13 x9 h10
    refine q_aload_n C dX7_errorAfter_93 rfl ?_
    refine q_getR C dX7_errorAfter_94 fl7_22 rfl ?_
    refine q_iload C dX7_errorAfter_97 rfl ?_
    refine q_pcallVI C dX7_errorAfter_99 mv7_105 (cq_X5_errorIn w l h10 _ _) rfl ⟨by decide, by decide⟩ ⟨rfl, Nat.le_of_ble_eq_true rfl⟩ (fun x14 => ?_)
    exact q_iret C Z1 Z2 dX7_errorAfter_102
  · refine q_ldc (n := -2147483648) C dX7_errorAfter_17 (zmem 1149 (by decide +kernel)) rfl ?_
    exact q_iret C Z1 Z2 dX7_errorAfter_19
def q_X7_powerAfter_L55 (h : zH) (a0 : Nat) (i1 : Int) (i4 : Int) (k : Int → Int → Option Int) : Nat → Int → Int → Option Int
  | 0, _, _ => none
  | n + 1, i3, i5 => if i4 < i5 then (k i3 i5) else (zbp (q_X4_nextPower h (h.2 a0 0) i1 i3 i5) (fun x6 => zlet (zw (i5 + 1)) (fun x7 => q_X7_powerAfter_L55 h a0 i1 i4 k n x6 x7)))
def q_X7_powerAfter (h : zH) (a_0 : Nat) (x_1 : Int) (x_2 : Int) : Option Int := zbp (q_X7_checkedStation h a_0 x_1) (fun r1 => zlet (h.1 r1 5) (fun x2 => zbp (q_X7_inRange h x_2 0 200) (fun x3 => if x3 = 0 then (some ((-2))) else (zlet (zw (h.1 (h.2 a_0 0) 0 + x_2)) (fun x4 => if x4 ≤ 9999 then (zlet (zw (h.1 (h.2 a_0 0) 0 + 1)) (fun x5 => q_X7_powerAfter_L55 h a_0 x_1 x4 (fun x8 x9 => some x8) zF x2 x5)) else (some ((-1))))))))
theorem cq_X7_powerAfter (w : zW) (l : Launch) (h : zH) (a_0 : Nat) (x_1 : Int) (x_2 : Int) : zCp w l yX7_powerAfter cX7_powerAfter 6 (some .int) 3 97 [.inr (7, a_0), .inl x_1, .inl x_2] h qI (q_X7_powerAfter h a_0 x_1 x_2) := by
  refine zCp.of (own := RX7) (loc := [some (.inr (7, a_0)), some (.inl x_1), some (.inl x_2), none, none, none]) (by decide) rfl (Nat.le_of_ble_eq_true rfl) (fun k v hk => ?_) ?_
  · exact zloc_ok 3 rfl hk
  intro p e s m args below meth c C Z1 Z2
  have L55 : ∀ (a0 : Nat) (i1 : Int) (i4 : Int) (k : Int → Int → Option Int) (hk : ∀ (u2 : Option zv) (i3 : Int) (i5 : Int), zQP w p l e (zRm 3 97) s m args below meth c 6 qI (k i3 i5) 80 [some (.inr (7, a0)), some (.inl i1), u2, some (.inl i3), some (.inl i4), some (.inl i5)] [] h) (n : Nat) (u2 : Option zv) (i3 : Int) (i5 : Int), zQP w p l e (zRm 3 97) s m args below meth c 6 qI (q_X7_powerAfter_L55 h a0 i1 i4 k n i3 i5) 55 [some (.inr (7, a0)), some (.inl i1), u2, some (.inl i3), some (.inl i4), some (.inl i5)] [] h := by
    intro a0 i1 i4 k hk n
    induction n with
    | zero =>
      intro u2 i3 i5
      exact p_none
    | succ n ih =>
      intro u2 i3 i5
      rw [q_X7_powerAfter_L55]
      refine p_iload C dX7_powerAfter_55 rfl ?_
      refine p_iload C dX7_powerAfter_57 rfl ?_
      refine p_icmp_gt C dX7_powerAfter_59 (tgt := 80) (by decide) ?_ ?_
      · exact hk _ i3 i5
      · refine p_aload_n C dX7_powerAfter_62 rfl ?_
        refine p_getR C dX7_powerAfter_63 fl7_10 rfl ?_
        refine p_iload_n C dX7_powerAfter_66 rfl ?_
        refine p_iload_n C dX7_powerAfter_67 rfl ?_
        refine p_iload C dX7_powerAfter_68 rfl ?_
        refine p_pcallVI C dX7_powerAfter_70 mv7_141 (cq_X4_nextPower w l h _ _ _ _) rfl ⟨by decide, by decide⟩ ⟨rfl, Nat.le_of_ble_eq_true rfl⟩ (fun x6 => ?_)
        refine p_istore_n C dX7_powerAfter_73 (by decide) ?_
        refine p_iincL C dX7_powerAfter_74 rfl (by decide) (fun x7 => ?_)
        refine p_goto C dX7_powerAfter_77 (tgt := 55) (by decide) ?_
        exact ih _ x6 x7
  unfold q_X7_powerAfter
  refine p_aload_n C dX7_powerAfter_0 rfl ?_
  refine p_iload_n C dX7_powerAfter_1 rfl ?_
  refine p_pcallVR C dX7_powerAfter_2 mv7_94 (cq_X7_checkedStation w l h _ _) rfl ⟨by decide, by decide⟩ ⟨rfl, Nat.le_of_ble_eq_true rfl⟩ (fun r1 => ?_)
  refine p_getI C dX7_powerAfter_5 fl7_102 rfl ?_
  refine p_istore_nL C dX7_powerAfter_8 (by decide) (fun x2 => ?_)
  refine p_iload_n C dX7_powerAfter_9 rfl ?_
  refine p_iconst C dX7_powerAfter_10 rfl ?_
  refine p_sipush C dX7_powerAfter_11 (by decide) rfl ?_
  refine p_pcallSI C dX7_powerAfter_14 ms7_86 (cq_X7_inRange w l h _ _ _) rfl ⟨by decide, by decide⟩ ⟨rfl, Nat.le_of_ble_eq_true rfl⟩ (fun x3 => ?_)
  refine p_if_ne C dX7_powerAfter_17 (tgt := 23) (by decide) ?_ ?_
  · refine p_aload_n C dX7_powerAfter_23 rfl ?_
    refine p_getR C dX7_powerAfter_24 fl7_10 rfl ?_
    refine p_getI C dX7_powerAfter_27 fl7_83 rfl ?_
    refine p_iload_n C dX7_powerAfter_30 rfl ?_
    refine p_iadd C dX7_powerAfter_31 ?_
    refine p_istoreL C dX7_powerAfter_32 (by decide) (fun x4 => ?_)
    refine p_iload C dX7_powerAfter_34 rfl ?_
    refine p_sipush C dX7_powerAfter_36 (by decide) rfl ?_
    refine p_icmp_le C dX7_powerAfter_39 (tgt := 44) (by decide) ?_ ?_
    · refine p_aload_n C dX7_powerAfter_44 rfl ?_
      refine p_getR C dX7_powerAfter_45 fl7_10 rfl ?_
      refine p_getI C dX7_powerAfter_48 fl7_83 rfl ?_
      refine p_iconst C dX7_powerAfter_51 rfl ?_
      refine p_iadd C dX7_powerAfter_52 ?_
      refine p_istoreL C dX7_powerAfter_53 (by decide) (fun x5 => ?_)
      refine L55 a_0 x_1 x4 _ ?_ zF _ x2 x5
      intro u10 x8 x9
      refine p_iload_n C dX7_powerAfter_80 rfl ?_
      exact p_iret C Z1 Z2 dX7_powerAfter_81
    · refine p_iconst C dX7_powerAfter_42 rfl ?_
      exact p_iret C Z1 Z2 dX7_powerAfter_43
  · refine p_bipush C dX7_powerAfter_20 (by decide) rfl ?_
    exact p_iret C Z1 Z2 dX7_powerAfter_22
def q_X7_framesInTime_L14 (a0 : Nat) (k : Int → zH → Option (Int × zH)) : Nat → Int → zH → Option (Int × zH)
  | 0, _, _ => none
  | n + 1, i2, h => if 200 < i2 then (k i2 h) else (zlet (zw (h.1 (h.2 a0 0) 0 + i2)) (fun x3 => zbp (q_X5_isOutOfTime h (h.2 a0 2) x3 (h.1 (h.2 (h.2 a0 0) 2) 1)) (fun x4 => if x4 = 0 then (zbp (q_X4_tripOf h (h.2 a0 0) (h.2 a0 2)) (fun x5 => zbd (q_X5_keepTime h (h.2 a0 2) (zw (x3 + 1)) x5 (h.1 (h.2 (h.2 a0 0) 2) 6)) (fun _ h6 => zlet (zw (i2 + 1)) (fun x7 => q_X7_framesInTime_L14 a0 k n x7 h6)))) else (some (i2, h)))))
def q_X7_framesInTime (h : zH) (a_0 : Nat) (x_1 : Int) : Option (Int × zH) := zbp (q_X7_checkedStation h a_0 x_1) (fun r1 => zbd (q_X5_copyFrom h (h.2 a_0 2) r1) (fun _ h2 => q_X7_framesInTime_L14 a_0 (fun x8 h9 => some ((-1), h9)) zF 0 h2))
theorem cq_X7_framesInTime (w : zW) (l : Launch) (h : zH) (a_0 : Nat) (x_1 : Int) : zCq w l yX7_framesInTime cX7_framesInTime 4 (some .int) 2 98 [.inr (7, a_0), .inl x_1] h qI (q_X7_framesInTime h a_0 x_1) := by
  refine zCq.of (own := RX7) (loc := [some (.inr (7, a_0)), some (.inl x_1), none, none]) (by decide) rfl (Nat.le_of_ble_eq_true rfl) (fun k v hk => ?_) ?_
  · exact zloc_ok 2 rfl hk
  intro p e s m args below meth c C Z1 Z2
  have L14 : ∀ (a0 : Nat) (k : Int → zH → Option (Int × zH)) (hk : ∀ (u1 u3 : Option zv) (i2 : Int) (h : zH), zQV w p l e (zRm 2 98) s m args below meth c 4 qI (k i2 h) 90 [some (.inr (7, a0)), u1, some (.inl i2), u3] [] h) (n : Nat) (u1 u3 : Option zv) (i2 : Int) (h : zH), zQV w p l e (zRm 2 98) s m args below meth c 4 qI (q_X7_framesInTime_L14 a0 k n i2 h) 14 [some (.inr (7, a0)), u1, some (.inl i2), u3] [] h := by
    intro a0 k hk n
    induction n with
    | zero =>
      intro u1 u3 i2 h
      exact q_none
    | succ n ih =>
      intro u1 u3 i2 h
      rw [q_X7_framesInTime_L14]
      refine q_iload_n C dX7_framesInTime_14 rfl ?_
      refine q_sipush C dX7_framesInTime_15 (by decide) rfl ?_
      refine q_icmp_gt C dX7_framesInTime_18 (tgt := 90) (by decide) ?_ ?_
      · exact hk _ _ i2 h
      · refine q_aload_n C dX7_framesInTime_21 rfl ?_
        refine q_getR C dX7_framesInTime_22 fl7_10 rfl ?_
        refine q_getI C dX7_framesInTime_25 fl7_83 rfl ?_
        refine q_iload_n C dX7_framesInTime_28 rfl ?_
        refine q_iadd C dX7_framesInTime_29 ?_
        refine q_istore_nL C dX7_framesInTime_30 (by decide) (fun x3 => ?_)
        refine q_aload_n C dX7_framesInTime_31 rfl ?_
        refine q_getR C dX7_framesInTime_32 fl7_22 rfl ?_
        refine q_iload_n C dX7_framesInTime_35 rfl ?_
        refine q_aload_n C dX7_framesInTime_36 rfl ?_
        refine q_getR C dX7_framesInTime_37 fl7_10 rfl ?_
        refine q_getR C dX7_framesInTime_40 fl7_90 rfl ?_
        refine q_iconst C dX7_framesInTime_43 rfl ?_
        refine q_ialdN (j := 1) C dX7_framesInTime_44 ⟨by decide, by decide, rfl⟩ rfl (by decide) ?_
        refine q_pcallVI C dX7_framesInTime_45 mv7_145 (cq_X5_isOutOfTime w l h _ _ _) rfl ⟨by decide, by decide⟩ ⟨rfl, Nat.le_of_ble_eq_true rfl⟩ (fun x4 => ?_)
        refine q_if_eq C dX7_framesInTime_48 (tgt := 53) (by decide) ?_ ?_
        · refine q_aload_n C dX7_framesInTime_53 rfl ?_
          refine q_getR C dX7_framesInTime_54 fl7_22 rfl ?_
          refine q_iload_n C dX7_framesInTime_57 rfl ?_
          refine q_iconst C dX7_framesInTime_58 rfl ?_
          refine q_iadd C dX7_framesInTime_59 ?_
          refine q_aload_n C dX7_framesInTime_60 rfl ?_
          refine q_getR C dX7_framesInTime_61 fl7_10 rfl ?_
          refine q_aload_n C dX7_framesInTime_64 rfl ?_
          refine q_getR C dX7_framesInTime_65 fl7_22 rfl ?_
          refine q_pcallVI C dX7_framesInTime_68 mv7_108 (cq_X4_tripOf w l h _ _) rfl ⟨by decide, by decide⟩ ⟨rfl, Nat.le_of_ble_eq_true rfl⟩ (fun x5 => ?_)
          refine q_aload_n C dX7_framesInTime_71 rfl ?_
          refine q_getR C dX7_framesInTime_72 fl7_10 rfl ?_
          refine q_getR C dX7_framesInTime_75 fl7_90 rfl ?_
          refine q_bipush C dX7_framesInTime_78 (by decide) rfl ?_
          refine q_ialdN (j := 6) C dX7_framesInTime_80 ⟨by decide, by decide, rfl⟩ rfl (by decide) ?_
          refine q_callVU C dX7_framesInTime_81 mv7_137 (cq_X5_keepTime w l h _ _ _ _) rfl ⟨by decide, by decide⟩ ⟨rfl, Nat.le_of_ble_eq_true rfl⟩ (fun _ h6 => ?_)
          refine q_iincL C dX7_framesInTime_84 rfl (by decide) (fun x7 => ?_)
          refine q_goto C dX7_framesInTime_87 (tgt := 14) (by decide) ?_
          exact ih _ _ x7 h6
        · refine q_iload_n C dX7_framesInTime_51 rfl ?_
          exact q_iret C Z1 Z2 dX7_framesInTime_52
  unfold q_X7_framesInTime
  refine q_aload_n C dX7_framesInTime_0 rfl ?_
  refine q_getR C dX7_framesInTime_1 fl7_22 rfl ?_
  refine q_aload_n C dX7_framesInTime_4 rfl ?_
  refine q_iload_n C dX7_framesInTime_5 rfl ?_
  refine q_pcallVR C dX7_framesInTime_6 mv7_94 (cq_X7_checkedStation w l h _ _) rfl ⟨by decide, by decide⟩ ⟨rfl, Nat.le_of_ble_eq_true rfl⟩ (fun r1 => ?_)
  refine q_callVU C dX7_framesInTime_9 mv7_134 (cq_X5_copyFrom w l h _ _) rfl ⟨by decide, by decide⟩ ⟨rfl, Nat.le_of_ble_eq_true rfl⟩ (fun _ h2 => ?_)
  refine q_iconst C dX7_framesInTime_12 rfl ?_
  refine q_istore_n C dX7_framesInTime_13 (by decide) ?_
  refine L14 a_0 _ ?_ zF _ _ 0 h2
  intro u10 u11 x8 h9
  refine q_iconst C dX7_framesInTime_90 rfl ?_
  exact q_iret C Z1 Z2 dX7_framesInTime_91
def q_X7_checkedCall (h : zH) (a_0 : Nat) (x_1 : Int) : Option Nat := zbp (q_X7_inRange h x_1 0 (zw (h.1 (h.2 a_0 0) 7 - 1))) (fun x1 => if x1 = 0 then (none) else (zgi 16 x_1 (some (h.2 (h.2 (h.2 a_0 0) 8) x_1.toNat))))
theorem cq_X7_checkedCall (w : zW) (l : Launch) (h : zH) (a_0 : Nat) (x_1 : Int) : zCp w l yX7_checkedCall cX7_checkedCall 2 (some (.object "SatelliteExchange$Call")) 1 22 [.inr (7, a_0), .inl x_1] h (qR 0) (q_X7_checkedCall h a_0 x_1) := by
  refine zCp.of (own := RX7) (loc := [some (.inr (7, a_0)), some (.inl x_1)]) (by decide) rfl (Nat.le_of_ble_eq_true rfl) (fun k v hk => ?_) ?_
  · exact zloc_ok 0 rfl hk
  intro p e s m args below meth c C Z1 Z2
  unfold q_X7_checkedCall
  refine p_iload_n C dX7_checkedCall_0 rfl ?_
  refine p_iconst C dX7_checkedCall_1 rfl ?_
  refine p_aload_n C dX7_checkedCall_2 rfl ?_
  refine p_getR C dX7_checkedCall_3 fl7_10 rfl ?_
  refine p_getI C dX7_checkedCall_6 fl7_74 rfl ?_
  refine p_iconst C dX7_checkedCall_9 rfl ?_
  refine p_isub C dX7_checkedCall_10 ?_
  refine p_pcallSI C dX7_checkedCall_11 ms7_86 (cq_X7_inRange w l h _ _ _) rfl ⟨by decide, by decide⟩ ⟨rfl, Nat.le_of_ble_eq_true rfl⟩ (fun x1 => ?_)
  refine p_if_ne C dX7_checkedCall_14 (tgt := 28) (by decide) ?_ ?_
  · refine p_aload_n C dX7_checkedCall_28 rfl ?_
    refine p_getR C dX7_checkedCall_29 fl7_10 rfl ?_
    refine p_getR C dX7_checkedCall_32 fl7_118 rfl ?_
    refine p_iload_n C dX7_checkedCall_35 rfl ?_
    refine p_aald C dX7_checkedCall_36 ⟨by decide, by decide, _, rfl⟩ ?_
    exact p_aret C Z1 Z2 dX7_checkedCall_37
  · exact p_none
def q_X7_stateOf (h : zH) (a_0 : Nat) (x_1 : Int) : Option Int := zbp (q_X7_checkedCall h a_0 x_1) (fun r1 => some (h.1 r1 5))
theorem cq_X7_stateOf (w : zW) (l : Launch) (h : zH) (a_0 : Nat) (x_1 : Int) : zCp w l yX7_stateOf cX7_stateOf 2 (some .int) 2 43 [.inr (7, a_0), .inl x_1] h qI (q_X7_stateOf h a_0 x_1) := by
  refine zCp.of (own := RX7) (loc := [some (.inr (7, a_0)), some (.inl x_1)]) (by decide) rfl (Nat.le_of_ble_eq_true rfl) (fun k v hk => ?_) ?_
  · exact zloc_ok 0 rfl hk
  intro p e s m args below meth c C Z1 Z2
  unfold q_X7_stateOf
  refine p_aload_n C dX7_stateOf_0 rfl ?_
  refine p_iload_n C dX7_stateOf_1 rfl ?_
  refine p_pcallVR C dX7_stateOf_2 mv7_149 (cq_X7_checkedCall w l h _ _) rfl ⟨by decide, by decide⟩ ⟨rfl, Nat.le_of_ble_eq_true rfl⟩ (fun r1 => ?_)
  refine p_getI C dX7_stateOf_5 fl7_122 rfl ?_
  exact p_iret C Z1 Z2 dX7_stateOf_8
def q_X7_senderOf (h : zH) (a_0 : Nat) (x_1 : Int) : Option Int := zbp (q_X7_checkedCall h a_0 x_1) (fun r1 => some (h.1 r1 0))
theorem cq_X7_senderOf (w : zW) (l : Launch) (h : zH) (a_0 : Nat) (x_1 : Int) : zCp w l yX7_senderOf cX7_senderOf 2 (some .int) 2 43 [.inr (7, a_0), .inl x_1] h qI (q_X7_senderOf h a_0 x_1) := by
  refine zCp.of (own := RX7) (loc := [some (.inr (7, a_0)), some (.inl x_1)]) (by decide) rfl (Nat.le_of_ble_eq_true rfl) (fun k v hk => ?_) ?_
  · exact zloc_ok 0 rfl hk
  intro p e s m args below meth c C Z1 Z2
  unfold q_X7_senderOf
  refine p_aload_n C dX7_senderOf_0 rfl ?_
  refine p_iload_n C dX7_senderOf_1 rfl ?_
  refine p_pcallVR C dX7_senderOf_2 mv7_149 (cq_X7_checkedCall w l h _ _) rfl ⟨by decide, by decide⟩ ⟨rfl, Nat.le_of_ble_eq_true rfl⟩ (fun r1 => ?_)
  refine p_getI C dX7_senderOf_5 fl7_127 rfl ?_
  exact p_iret C Z1 Z2 dX7_senderOf_8
def q_X7_receiverOf (h : zH) (a_0 : Nat) (x_1 : Int) : Option Int := zbp (q_X7_checkedCall h a_0 x_1) (fun r1 => some (h.1 r1 1))
theorem cq_X7_receiverOf (w : zW) (l : Launch) (h : zH) (a_0 : Nat) (x_1 : Int) : zCp w l yX7_receiverOf cX7_receiverOf 2 (some .int) 2 43 [.inr (7, a_0), .inl x_1] h qI (q_X7_receiverOf h a_0 x_1) := by
  refine zCp.of (own := RX7) (loc := [some (.inr (7, a_0)), some (.inl x_1)]) (by decide) rfl (Nat.le_of_ble_eq_true rfl) (fun k v hk => ?_) ?_
  · exact zloc_ok 0 rfl hk
  intro p e s m args below meth c C Z1 Z2
  unfold q_X7_receiverOf
  refine p_aload_n C dX7_receiverOf_0 rfl ?_
  refine p_iload_n C dX7_receiverOf_1 rfl ?_
  refine p_pcallVR C dX7_receiverOf_2 mv7_149 (cq_X7_checkedCall w l h _ _) rfl ⟨by decide, by decide⟩ ⟨rfl, Nat.le_of_ble_eq_true rfl⟩ (fun r1 => ?_)
  refine p_getI C dX7_receiverOf_5 fl7_153 rfl ?_
  exact p_iret C Z1 Z2 dX7_receiverOf_8
def q_X7_priorityOf (h : zH) (a_0 : Nat) (x_1 : Int) : Option Int := zbp (q_X7_checkedCall h a_0 x_1) (fun r1 => some (h.1 r1 2))
theorem cq_X7_priorityOf (w : zW) (l : Launch) (h : zH) (a_0 : Nat) (x_1 : Int) : zCp w l yX7_priorityOf cX7_priorityOf 2 (some .int) 2 43 [.inr (7, a_0), .inl x_1] h qI (q_X7_priorityOf h a_0 x_1) := by
  refine zCp.of (own := RX7) (loc := [some (.inr (7, a_0)), some (.inl x_1)]) (by decide) rfl (Nat.le_of_ble_eq_true rfl) (fun k v hk => ?_) ?_
  · exact zloc_ok 0 rfl hk
  intro p e s m args below meth c C Z1 Z2
  unfold q_X7_priorityOf
  refine p_aload_n C dX7_priorityOf_0 rfl ?_
  refine p_iload_n C dX7_priorityOf_1 rfl ?_
  refine p_pcallVR C dX7_priorityOf_2 mv7_149 (cq_X7_checkedCall w l h _ _) rfl ⟨by decide, by decide⟩ ⟨rfl, Nat.le_of_ble_eq_true rfl⟩ (fun r1 => ?_)
  refine p_getI C dX7_priorityOf_5 fl7_156 rfl ?_
  exact p_iret C Z1 Z2 dX7_priorityOf_8
def q_X7_carrierOf (h : zH) (a_0 : Nat) (x_1 : Int) : Option Int := zbp (q_X7_checkedCall h a_0 x_1) (fun r1 => if h.1 r1 5 = 1 then (some (h.1 r1 6)) else (some ((-1))))
theorem cq_X7_carrierOf (w : zW) (l : Launch) (h : zH) (a_0 : Nat) (x_1 : Int) : zCp w l yX7_carrierOf cX7_carrierOf 3 (some .int) 2 43 [.inr (7, a_0), .inl x_1] h qI (q_X7_carrierOf h a_0 x_1) := by
  refine zCp.of (own := RX7) (loc := [some (.inr (7, a_0)), some (.inl x_1), none]) (by decide) rfl (Nat.le_of_ble_eq_true rfl) (fun k v hk => ?_) ?_
  · exact zloc_ok 1 rfl hk
  intro p e s m args below meth c C Z1 Z2
  unfold q_X7_carrierOf
  refine p_aload_n C dX7_carrierOf_0 rfl ?_
  refine p_iload_n C dX7_carrierOf_1 rfl ?_
  refine p_pcallVR C dX7_carrierOf_2 mv7_149 (cq_X7_checkedCall w l h _ _) rfl ⟨by decide, by decide⟩ ⟨rfl, Nat.le_of_ble_eq_true rfl⟩ (fun r1 => ?_)
  refine p_astore_n C dX7_carrierOf_5 (by decide) ?_
  refine p_aload_n C dX7_carrierOf_6 rfl ?_
  refine p_getI C dX7_carrierOf_7 fl7_122 rfl ?_
  refine p_iconst C dX7_carrierOf_10 rfl ?_
  refine p_icmp_ne C dX7_carrierOf_11 (tgt := 21) (by decide) ?_ ?_
  · refine p_iconst C dX7_carrierOf_21 rfl ?_
    exact p_iret C Z1 Z2 dX7_carrierOf_22
  · refine p_aload_n C dX7_carrierOf_14 rfl ?_
    refine p_getI C dX7_carrierOf_15 fl7_159 rfl ?_
    refine p_goto C dX7_carrierOf_18 (tgt := 22) (by decide) ?_
    exact p_iret C Z1 Z2 dX7_carrierOf_22
def q_X7_startOf (h : zH) (a_0 : Nat) (x_1 : Int) : Option Int := zbp (q_X7_checkedCall h a_0 x_1) (fun r1 => if h.1 r1 5 = 1 then (some (h.1 r1 7)) else (some ((-1))))
theorem cq_X7_startOf (w : zW) (l : Launch) (h : zH) (a_0 : Nat) (x_1 : Int) : zCp w l yX7_startOf cX7_startOf 3 (some .int) 2 43 [.inr (7, a_0), .inl x_1] h qI (q_X7_startOf h a_0 x_1) := by
  refine zCp.of (own := RX7) (loc := [some (.inr (7, a_0)), some (.inl x_1), none]) (by decide) rfl (Nat.le_of_ble_eq_true rfl) (fun k v hk => ?_) ?_
  · exact zloc_ok 1 rfl hk
  intro p e s m args below meth c C Z1 Z2
  unfold q_X7_startOf
  refine p_aload_n C dX7_startOf_0 rfl ?_
  refine p_iload_n C dX7_startOf_1 rfl ?_
  refine p_pcallVR C dX7_startOf_2 mv7_149 (cq_X7_checkedCall w l h _ _) rfl ⟨by decide, by decide⟩ ⟨rfl, Nat.le_of_ble_eq_true rfl⟩ (fun r1 => ?_)
  refine p_astore_n C dX7_startOf_5 (by decide) ?_
  refine p_aload_n C dX7_startOf_6 rfl ?_
  refine p_getI C dX7_startOf_7 fl7_122 rfl ?_
  refine p_iconst C dX7_startOf_10 rfl ?_
  refine p_icmp_ne C dX7_startOf_11 (tgt := 21) (by decide) ?_ ?_
  · refine p_iconst C dX7_startOf_21 rfl ?_
    exact p_iret C Z1 Z2 dX7_startOf_22
  · refine p_aload_n C dX7_startOf_14 rfl ?_
    refine p_getI C dX7_startOf_15 fl7_162 rfl ?_
    refine p_goto C dX7_startOf_18 (tgt := 22) (by decide) ?_
    exact p_iret C Z1 Z2 dX7_startOf_22
def q_X7_burstOf (h : zH) (a_0 : Nat) (x_1 : Int) : Option Int := zbp (q_X7_checkedCall h a_0 x_1) (fun r1 => some (h.1 r1 3))
theorem cq_X7_burstOf (w : zW) (l : Launch) (h : zH) (a_0 : Nat) (x_1 : Int) : zCp w l yX7_burstOf cX7_burstOf 2 (some .int) 2 43 [.inr (7, a_0), .inl x_1] h qI (q_X7_burstOf h a_0 x_1) := by
  refine zCp.of (own := RX7) (loc := [some (.inr (7, a_0)), some (.inl x_1)]) (by decide) rfl (Nat.le_of_ble_eq_true rfl) (fun k v hk => ?_) ?_
  · exact zloc_ok 0 rfl hk
  intro p e s m args below meth c C Z1 Z2
  unfold q_X7_burstOf
  refine p_aload_n C dX7_burstOf_0 rfl ?_
  refine p_iload_n C dX7_burstOf_1 rfl ?_
  refine p_pcallVR C dX7_burstOf_2 mv7_149 (cq_X7_checkedCall w l h _ _) rfl ⟨by decide, by decide⟩ ⟨rfl, Nat.le_of_ble_eq_true rfl⟩ (fun r1 => ?_)
  refine p_getI C dX7_burstOf_5 fl7_130 rfl ?_
  exact p_iret C Z1 Z2 dX7_burstOf_8
def q_X7_sendOffset (h : zH) (a_0 : Nat) (x_1 : Int) : Option Int := zbp (q_X7_checkedCall h a_0 x_1) (fun r1 => zlet (h.1 (h.2 (h.2 a_0 0) 2) 0) (fun x2 => if h.1 r1 5 = 1 then (if 0 < x2 then (zgi 6 (h.1 r1 0) (zbp (q_J9_floorMod (zw (h.1 r1 7 - h.1 (h.2 (h.2 (h.2 a_0 0) 4) (h.1 r1 0).toNat) 1)) x2) (fun x3 => some x3))) else (some ((-1)))) else (some ((-1)))))
theorem cq_X7_sendOffset (w : zW) (l : Launch) (h : zH) (a_0 : Nat) (x_1 : Int) : zCp w l yX7_sendOffset cX7_sendOffset 4 (some .int) 2 72 [.inr (7, a_0), .inl x_1] h qI (q_X7_sendOffset h a_0 x_1) := by
  refine zCp.of (own := RX7) (loc := [some (.inr (7, a_0)), some (.inl x_1), none, none]) (by decide) rfl (Nat.le_of_ble_eq_true rfl) (fun k v hk => ?_) ?_
  · exact zloc_ok 2 rfl hk
  intro p e s m args below meth c C Z1 Z2
  unfold q_X7_sendOffset
  refine p_aload_n C dX7_sendOffset_0 rfl ?_
  refine p_iload_n C dX7_sendOffset_1 rfl ?_
  refine p_pcallVR C dX7_sendOffset_2 mv7_149 (cq_X7_checkedCall w l h _ _) rfl ⟨by decide, by decide⟩ ⟨rfl, Nat.le_of_ble_eq_true rfl⟩ (fun r1 => ?_)
  refine p_astore_n C dX7_sendOffset_5 (by decide) ?_
  refine p_aload_n C dX7_sendOffset_6 rfl ?_
  refine p_getR C dX7_sendOffset_7 fl7_10 rfl ?_
  refine p_getR C dX7_sendOffset_10 fl7_90 rfl ?_
  refine p_iconst C dX7_sendOffset_13 rfl ?_
  refine p_ialdN (j := 0) C dX7_sendOffset_14 ⟨by decide, by decide, rfl⟩ rfl (by decide) ?_
  refine p_istore_nL C dX7_sendOffset_15 (by decide) (fun x2 => ?_)
  refine p_aload_n C dX7_sendOffset_16 rfl ?_
  refine p_getI C dX7_sendOffset_17 fl7_122 rfl ?_
  refine p_iconst C dX7_sendOffset_20 rfl ?_
  refine p_icmp_ne C dX7_sendOffset_21 (tgt := 28) (by decide) ?_ ?_
  · refine p_iconst C dX7_sendOffset_28 rfl ?_
    exact p_iret C Z1 Z2 dX7_sendOffset_29
  · refine p_iload_n C dX7_sendOffset_24 rfl ?_
    refine p_if_gt C dX7_sendOffset_25 (tgt := 30) (by decide) ?_ ?_
    · refine p_aload_n C dX7_sendOffset_30 rfl ?_
      refine p_getI C dX7_sendOffset_31 fl7_162 rfl ?_
      refine p_aload_n C dX7_sendOffset_34 rfl ?_
      refine p_getR C dX7_sendOffset_35 fl7_10 rfl ?_
      refine p_getR C dX7_sendOffset_38 fl7_165 rfl ?_
      refine p_aload_n C dX7_sendOffset_41 rfl ?_
      refine p_getI C dX7_sendOffset_42 fl7_127 rfl ?_
      refine p_aald C dX7_sendOffset_45 ⟨by decide, by decide, _, rfl⟩ ?_
      refine p_getI C dX7_sendOffset_46 fl7_169 rfl ?_
      refine p_isub C dX7_sendOffset_49 ?_
      refine p_iload_n C dX7_sendOffset_50 rfl ?_
      refine p_pcallSI (j := 2) C dX7_sendOffset_51 ⟨zmem 995 (by decide +kernel), zmem 996 (by decide +kernel), zmem 80 (by decide +kernel), zmem 997 (by decide +kernel), ⟨by decide, by decide⟩, by decide +kernel⟩ (cq_J9_floorMod w l h _ _) rfl ⟨by decide, by decide⟩ ⟨rfl, Nat.le_of_ble_eq_true rfl⟩ (fun x3 => ?_)
      exact p_iret C Z1 Z2 dX7_sendOffset_54
    · refine p_iconst C dX7_sendOffset_28 rfl ?_
      exact p_iret C Z1 Z2 dX7_sendOffset_29
def q_X7_endOf (h : zH) (a_0 : Nat) (x_1 : Int) : Option Int := zbp (q_X7_checkedCall h a_0 x_1) (fun r1 => if h.1 r1 5 = 1 then (zbp (q_X0_endFrame h r1) (fun x2 => some x2)) else (some ((-1))))
theorem cq_X7_endOf (w : zW) (l : Launch) (h : zH) (a_0 : Nat) (x_1 : Int) : zCp w l yX7_endOf cX7_endOf 3 (some .int) 2 43 [.inr (7, a_0), .inl x_1] h qI (q_X7_endOf h a_0 x_1) := by
  refine zCp.of (own := RX7) (loc := [some (.inr (7, a_0)), some (.inl x_1), none]) (by decide) rfl (Nat.le_of_ble_eq_true rfl) (fun k v hk => ?_) ?_
  · exact zloc_ok 1 rfl hk
  intro p e s m args below meth c C Z1 Z2
  unfold q_X7_endOf
  refine p_aload_n C dX7_endOf_0 rfl ?_
  refine p_iload_n C dX7_endOf_1 rfl ?_
  refine p_pcallVR C dX7_endOf_2 mv7_149 (cq_X7_checkedCall w l h _ _) rfl ⟨by decide, by decide⟩ ⟨rfl, Nat.le_of_ble_eq_true rfl⟩ (fun r1 => ?_)
  refine p_astore_n C dX7_endOf_5 (by decide) ?_
  refine p_aload_n C dX7_endOf_6 rfl ?_
  refine p_getI C dX7_endOf_7 fl7_122 rfl ?_
  refine p_iconst C dX7_endOf_10 rfl ?_
  refine p_icmp_ne C dX7_endOf_11 (tgt := 21) (by decide) ?_ ?_
  · refine p_iconst C dX7_endOf_21 rfl ?_
    exact p_iret C Z1 Z2 dX7_endOf_22
  · refine p_aload_n C dX7_endOf_14 rfl ?_
    refine p_pcallVI C dX7_endOf_15 mv7_177 (cq_X0_endFrame w l h _) rfl ⟨by decide, by decide⟩ ⟨rfl, Nat.le_of_ble_eq_true rfl⟩ (fun x2 => ?_)
    refine p_goto C dX7_endOf_18 (tgt := 22) (by decide) ?_
    exact p_iret C Z1 Z2 dX7_endOf_22
def q_X7_waitOf (h : zH) (a_0 : Nat) (x_1 : Int) : Option Int := zbp (q_X7_checkedCall h a_0 x_1) (fun r1 => if h.1 r1 5 = 0 then (some (zw (h.1 (h.2 a_0 0) 0 - h.1 r1 8))) else (if h.1 r1 9 = (-1) then (some ((-1))) else (some (zw (h.1 r1 9 - h.1 r1 8)))))
theorem cq_X7_waitOf (w : zW) (l : Launch) (h : zH) (a_0 : Nat) (x_1 : Int) : zCp w l yX7_waitOf cX7_waitOf 3 (some .int) 2 43 [.inr (7, a_0), .inl x_1] h qI (q_X7_waitOf h a_0 x_1) := by
  refine zCp.of (own := RX7) (loc := [some (.inr (7, a_0)), some (.inl x_1), none]) (by decide) rfl (Nat.le_of_ble_eq_true rfl) (fun k v hk => ?_) ?_
  · exact zloc_ok 1 rfl hk
  intro p e s m args below meth c C Z1 Z2
  unfold q_X7_waitOf
  refine p_aload_n C dX7_waitOf_0 rfl ?_
  refine p_iload_n C dX7_waitOf_1 rfl ?_
  refine p_pcallVR C dX7_waitOf_2 mv7_149 (cq_X7_checkedCall w l h _ _) rfl ⟨by decide, by decide⟩ ⟨rfl, Nat.le_of_ble_eq_true rfl⟩ (fun r1 => ?_)
  refine p_astore_n C dX7_waitOf_5 (by decide) ?_
  refine p_aload_n C dX7_waitOf_6 rfl ?_
  refine p_getI C dX7_waitOf_7 fl7_122 rfl ?_
  refine p_if_ne C dX7_waitOf_10 (tgt := 26) (by decide) ?_ ?_
  · refine p_aload_n C dX7_waitOf_26 rfl ?_
    refine p_getI C dX7_waitOf_27 fl7_184 rfl ?_
    refine p_iconst C dX7_waitOf_30 rfl ?_
    refine p_icmp_ne C dX7_waitOf_31 (tgt := 38) (by decide) ?_ ?_
    · refine p_aload_n C dX7_waitOf_38 rfl ?_
      refine p_getI C dX7_waitOf_39 fl7_184 rfl ?_
      refine p_aload_n C dX7_waitOf_42 rfl ?_
      refine p_getI C dX7_waitOf_43 fl7_181 rfl ?_
      refine p_isub C dX7_waitOf_46 ?_
      exact p_iret C Z1 Z2 dX7_waitOf_47
    · refine p_iconst C dX7_waitOf_34 rfl ?_
      refine p_goto C dX7_waitOf_35 (tgt := 47) (by decide) ?_
      exact p_iret C Z1 Z2 dX7_waitOf_47
  · refine p_aload_n C dX7_waitOf_13 rfl ?_
    refine p_getR C dX7_waitOf_14 fl7_10 rfl ?_
    refine p_getI C dX7_waitOf_17 fl7_83 rfl ?_
    refine p_aload_n C dX7_waitOf_20 rfl ?_
    refine p_getI C dX7_waitOf_21 fl7_181 rfl ?_
    refine p_isub C dX7_waitOf_24 ?_
    exact p_iret C Z1 Z2 dX7_waitOf_25
def q_X7_marginOf (h : zH) (a_0 : Nat) (x_1 : Int) : Option Int := zbp (q_X7_checkedCall h a_0 x_1) (fun r1 => zbp (q_X4_presentMargin h (h.2 a_0 0) r1) (fun x2 => some x2))
theorem cq_X7_marginOf (w : zW) (l : Launch) (h : zH) (a_0 : Nat) (x_1 : Int) : zCp w l yX7_marginOf cX7_marginOf 2 (some .int) 4 91 [.inr (7, a_0), .inl x_1] h qI (q_X7_marginOf h a_0 x_1) := by
  refine zCp.of (own := RX7) (loc := [some (.inr (7, a_0)), some (.inl x_1)]) (by decide) rfl (Nat.le_of_ble_eq_true rfl) (fun k v hk => ?_) ?_
  · exact zloc_ok 0 rfl hk
  intro p e s m args below meth c C Z1 Z2
  unfold q_X7_marginOf
  refine p_aload_n C dX7_marginOf_0 rfl ?_
  refine p_getR C dX7_marginOf_1 fl7_10 rfl ?_
  refine p_aload_n C dX7_marginOf_4 rfl ?_
  refine p_iload_n C dX7_marginOf_5 rfl ?_
  refine p_pcallVR C dX7_marginOf_6 mv7_149 (cq_X7_checkedCall w l h _ _) rfl ⟨by decide, by decide⟩ ⟨rfl, Nat.le_of_ble_eq_true rfl⟩ (fun r1 => ?_)
  refine p_pcallVI C dX7_marginOf_9 mv7_187 (cq_X4_presentMargin w l h _ _) rfl ⟨by decide, by decide⟩ ⟨rfl, Nat.le_of_ble_eq_true rfl⟩ (fun x2 => ?_)
  exact p_iret C Z1 Z2 dX7_marginOf_12
def q_X7_degradedFrames (h : zH) (a_0 : Nat) (x_1 : Int) : Option Int := zbp (q_X7_checkedCall h a_0 x_1) (fun r1 => some (h.1 r1 10))
theorem cq_X7_degradedFrames (w : zW) (l : Launch) (h : zH) (a_0 : Nat) (x_1 : Int) : zCp w l yX7_degradedFrames cX7_degradedFrames 2 (some .int) 2 43 [.inr (7, a_0), .inl x_1] h qI (q_X7_degradedFrames h a_0 x_1) := by
  refine zCp.of (own := RX7) (loc := [some (.inr (7, a_0)), some (.inl x_1)]) (by decide) rfl (Nat.le_of_ble_eq_true rfl) (fun k v hk => ?_) ?_
  · exact zloc_ok 0 rfl hk
  intro p e s m args below meth c C Z1 Z2
  unfold q_X7_degradedFrames
  refine p_aload_n C dX7_degradedFrames_0 rfl ?_
  refine p_iload_n C dX7_degradedFrames_1 rfl ?_
  refine p_pcallVR C dX7_degradedFrames_2 mv7_149 (cq_X7_checkedCall w l h _ _) rfl ⟨by decide, by decide⟩ ⟨rfl, Nat.le_of_ble_eq_true rfl⟩ (fun r1 => ?_)
  refine p_getI C dX7_degradedFrames_5 fl7_191 rfl ?_
  exact p_iret C Z1 Z2 dX7_degradedFrames_8
def q_X7_degradedNow (h : zH) (a_0 : Nat) : Option Int := zbp (q_X4_callsIn h (h.2 a_0 0) 1) (fun x1 => zbp (q_X4_degradedAmong h (h.2 a_0 0) x1) (fun x2 => some x2))
theorem cq_X7_degradedNow (w : zW) (l : Launch) (h : zH) (a_0 : Nat) : zCp w l yX7_degradedNow cX7_degradedNow 1 (some .int) 5 114 [.inr (7, a_0)] h qI (q_X7_degradedNow h a_0) := by
  refine zCp.of (own := RX7) (loc := [some (.inr (7, a_0))]) (by decide) rfl (Nat.le_of_ble_eq_true rfl) (fun k v hk => ?_) ?_
  · exact zloc_ok 0 rfl hk
  intro p e s m args below meth c C Z1 Z2
  unfold q_X7_degradedNow
  refine p_aload_n C dX7_degradedNow_0 rfl ?_
  refine p_getR C dX7_degradedNow_1 fl7_10 rfl ?_
  refine p_aload_n C dX7_degradedNow_4 rfl ?_
  refine p_getR C dX7_degradedNow_5 fl7_10 rfl ?_
  refine p_iconst C dX7_degradedNow_8 rfl ?_
  refine p_pcallVI C dX7_degradedNow_9 mv7_194 (cq_X4_callsIn w l h _ _) rfl ⟨by decide, by decide⟩ ⟨rfl, Nat.le_of_ble_eq_true rfl⟩ (fun x1 => ?_)
  refine p_pcallVI C dX7_degradedNow_12 mv7_197 (cq_X4_degradedAmong w l h _ _) rfl ⟨by decide, by decide⟩ ⟨rfl, Nat.le_of_ble_eq_true rfl⟩ (fun x2 => ?_)
  exact p_iret C Z1 Z2 dX7_degradedNow_15
def q_X7_conflicts_L21 (h : zH) (a0 : Nat) (i1 : Int) (a2 : Nat) (k : Int → Int → Option Int) : Nat → Int → Int → Option Int
  | 0, _, _ => none
  | n + 1, i3, i4 => if h.1 (h.2 a0 0) 7 ≤ i4 then (k i3 i4) else (zgi 16 i4 (zlet (h.2 (h.2 (h.2 a0 0) 8) i4.toNat) (fun r2 => if i4 = i1 then (zlet (zw (i4 + 1)) (fun x3 => q_X7_conflicts_L21 h a0 i1 a2 k n i3 x3)) else (if h.1 r2 5 = 1 then (zbp (q_X0_conflictsWith h r2 a2 (h.1 a2 6)) (fun x5 => if x5 = 0 then (zlet (zw (i4 + 1)) (fun x6 => q_X7_conflicts_L21 h a0 i1 a2 k n i3 x6)) else (zlet (zor i3 (zshl 1 i4)) (fun x7 => zlet (zw (i4 + 1)) (fun x8 => q_X7_conflicts_L21 h a0 i1 a2 k n x7 x8))))) else (zlet (zw (i4 + 1)) (fun x4 => q_X7_conflicts_L21 h a0 i1 a2 k n i3 x4))))))
def q_X7_conflicts (h : zH) (a_0 : Nat) (x_1 : Int) : Option Int := zbp (q_X7_checkedCall h a_0 x_1) (fun r1 => if h.1 r1 5 = 1 then (q_X7_conflicts_L21 h a_0 x_1 r1 (fun x9 x10 => some x9) zF 0 0) else (some 0))
theorem cq_X7_conflicts (w : zW) (l : Launch) (h : zH) (a_0 : Nat) (x_1 : Int) : zCp w l yX7_conflicts cX7_conflicts 6 (some .int) 2 43 [.inr (7, a_0), .inl x_1] h qI (q_X7_conflicts h a_0 x_1) := by
  refine zCp.of (own := RX7) (loc := [some (.inr (7, a_0)), some (.inl x_1), none, none, none, none]) (by decide) rfl (Nat.le_of_ble_eq_true rfl) (fun k v hk => ?_) ?_
  · exact zloc_ok 4 rfl hk
  intro p e s m args below meth c C Z1 Z2
  have L21 : ∀ (a0 : Nat) (i1 : Int) (a2 : Nat) (k : Int → Int → Option Int) (hk : ∀ (u5 : Option zv) (i3 : Int) (i4 : Int), zQP w p l e (zRm 2 43) s m args below meth c 6 qI (k i3 i4) 86 [some (.inr (7, a0)), some (.inl i1), some (.inr (0, a2)), some (.inl i3), some (.inl i4), u5] [] h) (n : Nat) (u5 : Option zv) (i3 : Int) (i4 : Int), zQP w p l e (zRm 2 43) s m args below meth c 6 qI (q_X7_conflicts_L21 h a0 i1 a2 k n i3 i4) 21 [some (.inr (7, a0)), some (.inl i1), some (.inr (0, a2)), some (.inl i3), some (.inl i4), u5] [] h := by
    intro a0 i1 a2 k hk n
    induction n with
    | zero =>
      intro u5 i3 i4
      exact p_none
    | succ n ih =>
      intro u5 i3 i4
      rw [q_X7_conflicts_L21]
      refine p_iload C dX7_conflicts_21 rfl ?_
      refine p_aload_n C dX7_conflicts_23 rfl ?_
      refine p_getR C dX7_conflicts_24 fl7_10 rfl ?_
      refine p_getI C dX7_conflicts_27 fl7_74 rfl ?_
      refine p_icmp_ge C dX7_conflicts_30 (tgt := 86) (by decide) ?_ ?_
      · exact hk _ i3 i4
      · refine p_aload_n C dX7_conflicts_33 rfl ?_
        refine p_getR C dX7_conflicts_34 fl7_10 rfl ?_
        refine p_getR C dX7_conflicts_37 fl7_118 rfl ?_
        refine p_iload C dX7_conflicts_40 rfl ?_
        refine p_aald C dX7_conflicts_42 ⟨by decide, by decide, _, rfl⟩ ?_
        refine p_astoreL C dX7_conflicts_43 (by decide) (fun r2 => ?_)
        refine p_iload C dX7_conflicts_45 rfl ?_
        refine p_iload_n C dX7_conflicts_47 rfl ?_
        refine p_icmp_eq C dX7_conflicts_48 (tgt := 80) (by decide) ?_ ?_
        · refine p_iincL C dX7_conflicts_80 rfl (by decide) (fun x3 => ?_)
          refine p_goto C dX7_conflicts_83 (tgt := 21) (by decide) ?_
          exact ih _ i3 x3
        · refine p_aload C dX7_conflicts_51 rfl ?_
          refine p_getI C dX7_conflicts_53 fl7_122 rfl ?_
          refine p_iconst C dX7_conflicts_56 rfl ?_
          refine p_icmp_ne C dX7_conflicts_57 (tgt := 80) (by decide) ?_ ?_
          · refine p_iincL C dX7_conflicts_80 rfl (by decide) (fun x4 => ?_)
            refine p_goto C dX7_conflicts_83 (tgt := 21) (by decide) ?_
            exact ih _ i3 x4
          · refine p_aload C dX7_conflicts_60 rfl ?_
            refine p_aload_n C dX7_conflicts_62 rfl ?_
            refine p_aload_n C dX7_conflicts_63 rfl ?_
            refine p_getI C dX7_conflicts_64 fl7_159 rfl ?_
            refine p_pcallVI C dX7_conflicts_67 mv7_200 (cq_X0_conflictsWith w l h _ _ _) rfl ⟨by decide, by decide⟩ ⟨rfl, Nat.le_of_ble_eq_true rfl⟩ (fun x5 => ?_)
            refine p_if_eq C dX7_conflicts_70 (tgt := 80) (by decide) ?_ ?_
            · refine p_iincL C dX7_conflicts_80 rfl (by decide) (fun x6 => ?_)
              refine p_goto C dX7_conflicts_83 (tgt := 21) (by decide) ?_
              exact ih _ i3 x6
            · refine p_iload_n C dX7_conflicts_73 rfl ?_
              refine p_iconst C dX7_conflicts_74 rfl ?_
              refine p_iload C dX7_conflicts_75 rfl ?_
              refine p_ishl C dX7_conflicts_77 ?_
              refine p_ior C dX7_conflicts_78 ?_
              refine p_istore_nL C dX7_conflicts_79 (by decide) (fun x7 => ?_)
              refine p_iincL C dX7_conflicts_80 rfl (by decide) (fun x8 => ?_)
              refine p_goto C dX7_conflicts_83 (tgt := 21) (by decide) ?_
              exact ih _ x7 x8
  unfold q_X7_conflicts
  refine p_aload_n C dX7_conflicts_0 rfl ?_
  refine p_iload_n C dX7_conflicts_1 rfl ?_
  refine p_pcallVR C dX7_conflicts_2 mv7_149 (cq_X7_checkedCall w l h _ _) rfl ⟨by decide, by decide⟩ ⟨rfl, Nat.le_of_ble_eq_true rfl⟩ (fun r1 => ?_)
  refine p_astore_n C dX7_conflicts_5 (by decide) ?_
  refine p_aload_n C dX7_conflicts_6 rfl ?_
  refine p_getI C dX7_conflicts_7 fl7_122 rfl ?_
  refine p_iconst C dX7_conflicts_10 rfl ?_
  refine p_icmp_eq C dX7_conflicts_11 (tgt := 16) (by decide) ?_ ?_
  · refine p_iconst C dX7_conflicts_16 rfl ?_
    refine p_istore_n C dX7_conflicts_17 (by decide) ?_
    refine p_iconst C dX7_conflicts_18 rfl ?_
    refine p_istore C dX7_conflicts_19 (by decide) ?_
    refine L21 a_0 x_1 r1 _ ?_ zF _ 0 0
    intro u11 x9 x10
    refine p_iload_n C dX7_conflicts_86 rfl ?_
    exact p_iret C Z1 Z2 dX7_conflicts_87
  · refine p_iconst C dX7_conflicts_14 rfl ?_
    exact p_iret C Z1 Z2 dX7_conflicts_15
def q_X7_clearFrame_L50 (h : zH) (a0 : Nat) (a2 : Nat) (i3 : Int) (k : Int → Int → Option Int) : Nat → Int → Int → Option Int
  | 0, _, _ => none
  | n + 1, i4, i5 => if i3 < i5 then (k i4 i5) else (if i5 ≤ h.1 (h.2 a0 0) 0 then (zbp (q_X4_marginWith h (h.2 a0 0) a2 i4 i5) (fun x5 => if x5 < 0 then (zlet (zw (i5 + 1)) (fun x6 => q_X7_clearFrame_L50 h a0 a2 i3 k n i4 x6)) else (some i5))) else (zbp (q_X4_nextPower h (h.2 a0 0) (h.1 a2 0) i4 i5) (fun x7 => zbp (q_X4_marginWith h (h.2 a0 0) a2 x7 i5) (fun x8 => if x8 < 0 then (zlet (zw (i5 + 1)) (fun x9 => q_X7_clearFrame_L50 h a0 a2 i3 k n x7 x9)) else (some i5)))))
def q_X7_clearFrame (h : zH) (a_0 : Nat) (x_1 : Int) : Option Int := zbp (q_X7_checkedCall h a_0 x_1) (fun r1 => zlet (zmin (zw (h.1 (h.2 a_0 0) 0 + 200)) 9999) (fun x2 => zgi 6 (h.1 r1 0) (zlet (h.1 (h.2 (h.2 (h.2 a_0 0) 4) (h.1 r1 0).toNat) 5) (fun x3 => zlet (h.1 (h.2 a_0 0) 0) (fun x4 => q_X7_clearFrame_L50 h a_0 r1 x2 (fun x10 x11 => some ((-1))) zF x3 x4)))))
theorem cq_X7_clearFrame (w : zW) (l : Launch) (h : zH) (a_0 : Nat) (x_1 : Int) : zCp w l yX7_clearFrame cX7_clearFrame 6 (some .int) 3 97 [.inr (7, a_0), .inl x_1] h qI (q_X7_clearFrame h a_0 x_1) := by
  refine zCp.of (own := RX7) (loc := [some (.inr (7, a_0)), some (.inl x_1), none, none, none, none]) (by decide) rfl (Nat.le_of_ble_eq_true rfl) (fun k v hk => ?_) ?_
  · exact zloc_ok 4 rfl hk
  intro p e s m args below meth c C Z1 Z2
  have L50 : ∀ (a0 : Nat) (a2 : Nat) (i3 : Int) (k : Int → Int → Option Int) (hk : ∀ (u1 : Option zv) (i4 : Int) (i5 : Int), zQP w p l e (zRm 3 97) s m args below meth c 6 qI (k i4 i5) 109 [some (.inr (7, a0)), u1, some (.inr (0, a2)), some (.inl i3), some (.inl i4), some (.inl i5)] [] h) (n : Nat) (u1 : Option zv) (i4 : Int) (i5 : Int), zQP w p l e (zRm 3 97) s m args below meth c 6 qI (q_X7_clearFrame_L50 h a0 a2 i3 k n i4 i5) 50 [some (.inr (7, a0)), u1, some (.inr (0, a2)), some (.inl i3), some (.inl i4), some (.inl i5)] [] h := by
    intro a0 a2 i3 k hk n
    induction n with
    | zero =>
      intro u1 i4 i5
      exact p_none
    | succ n ih =>
      intro u1 i4 i5
      rw [q_X7_clearFrame_L50]
      refine p_iload C dX7_clearFrame_50 rfl ?_
      refine p_iload_n C dX7_clearFrame_52 rfl ?_
      refine p_icmp_gt C dX7_clearFrame_53 (tgt := 109) (by decide) ?_ ?_
      · exact hk _ i4 i5
      · refine p_iload C dX7_clearFrame_56 rfl ?_
        refine p_aload_n C dX7_clearFrame_58 rfl ?_
        refine p_getR C dX7_clearFrame_59 fl7_10 rfl ?_
        refine p_getI C dX7_clearFrame_62 fl7_83 rfl ?_
        refine p_icmp_le C dX7_clearFrame_65 (tgt := 85) (by decide) ?_ ?_
        · refine p_aload_n C dX7_clearFrame_85 rfl ?_
          refine p_getR C dX7_clearFrame_86 fl7_10 rfl ?_
          refine p_aload_n C dX7_clearFrame_89 rfl ?_
          refine p_iload C dX7_clearFrame_90 rfl ?_
          refine p_iload C dX7_clearFrame_92 rfl ?_
          refine p_pcallVI C dX7_clearFrame_94 mv7_207 (cq_X4_marginWith w l h _ _ _ _) rfl ⟨by decide, by decide⟩ ⟨rfl, Nat.le_of_ble_eq_true rfl⟩ (fun x5 => ?_)
          refine p_if_lt C dX7_clearFrame_97 (tgt := 103) (by decide) ?_ ?_
          · refine p_iincL C dX7_clearFrame_103 rfl (by decide) (fun x6 => ?_)
            refine p_goto C dX7_clearFrame_106 (tgt := 50) (by decide) ?_
            exact ih _ i4 x6
          · refine p_iload C dX7_clearFrame_100 rfl ?_
            exact p_iret C Z1 Z2 dX7_clearFrame_102
        · refine p_aload_n C dX7_clearFrame_68 rfl ?_
          refine p_getR C dX7_clearFrame_69 fl7_10 rfl ?_
          refine p_aload_n C dX7_clearFrame_72 rfl ?_
          refine p_getI C dX7_clearFrame_73 fl7_127 rfl ?_
          refine p_iload C dX7_clearFrame_76 rfl ?_
          refine p_iload C dX7_clearFrame_78 rfl ?_
          refine p_pcallVI C dX7_clearFrame_80 mv7_141 (cq_X4_nextPower w l h _ _ _ _) rfl ⟨by decide, by decide⟩ ⟨rfl, Nat.le_of_ble_eq_true rfl⟩ (fun x7 => ?_)
          refine p_istore C dX7_clearFrame_83 (by decide) ?_
          refine p_aload_n C dX7_clearFrame_85 rfl ?_
          refine p_getR C dX7_clearFrame_86 fl7_10 rfl ?_
          refine p_aload_n C dX7_clearFrame_89 rfl ?_
          refine p_iload C dX7_clearFrame_90 rfl ?_
          refine p_iload C dX7_clearFrame_92 rfl ?_
          refine p_pcallVI C dX7_clearFrame_94 mv7_207 (cq_X4_marginWith w l h _ _ _ _) rfl ⟨by decide, by decide⟩ ⟨rfl, Nat.le_of_ble_eq_true rfl⟩ (fun x8 => ?_)
          refine p_if_lt C dX7_clearFrame_97 (tgt := 103) (by decide) ?_ ?_
          · refine p_iincL C dX7_clearFrame_103 rfl (by decide) (fun x9 => ?_)
            refine p_goto C dX7_clearFrame_106 (tgt := 50) (by decide) ?_
            exact ih _ x7 x9
          · refine p_iload C dX7_clearFrame_100 rfl ?_
            exact p_iret C Z1 Z2 dX7_clearFrame_102
  unfold q_X7_clearFrame
  refine p_aload_n C dX7_clearFrame_0 rfl ?_
  refine p_iload_n C dX7_clearFrame_1 rfl ?_
  refine p_pcallVR C dX7_clearFrame_2 mv7_149 (cq_X7_checkedCall w l h _ _) rfl ⟨by decide, by decide⟩ ⟨rfl, Nat.le_of_ble_eq_true rfl⟩ (fun r1 => ?_)
  refine p_astore_n C dX7_clearFrame_5 (by decide) ?_
  refine p_aload_n C dX7_clearFrame_6 rfl ?_
  refine p_getR C dX7_clearFrame_7 fl7_10 rfl ?_
  refine p_getI C dX7_clearFrame_10 fl7_83 rfl ?_
  refine p_sipush C dX7_clearFrame_13 (by decide) rfl ?_
  refine p_iadd C dX7_clearFrame_16 ?_
  refine p_sipush C dX7_clearFrame_17 (by decide) rfl ?_
  refine p_mmin C dX7_clearFrame_20 (zmem 1110 (by decide +kernel)) ⟨by decide, Nat.le_of_ble_eq_true rfl⟩ ?_
  refine p_istore_nL C dX7_clearFrame_23 (by decide) (fun x2 => ?_)
  refine p_aload_n C dX7_clearFrame_24 rfl ?_
  refine p_getR C dX7_clearFrame_25 fl7_10 rfl ?_
  refine p_getR C dX7_clearFrame_28 fl7_165 rfl ?_
  refine p_aload_n C dX7_clearFrame_31 rfl ?_
  refine p_getI C dX7_clearFrame_32 fl7_127 rfl ?_
  refine p_aald C dX7_clearFrame_35 ⟨by decide, by decide, _, rfl⟩ ?_
  refine p_getI C dX7_clearFrame_36 fl7_102 rfl ?_
  refine p_istoreL C dX7_clearFrame_39 (by decide) (fun x3 => ?_)
  refine p_aload_n C dX7_clearFrame_41 rfl ?_
  refine p_getR C dX7_clearFrame_42 fl7_10 rfl ?_
  refine p_getI C dX7_clearFrame_45 fl7_83 rfl ?_
  refine p_istoreL C dX7_clearFrame_48 (by decide) (fun x4 => ?_)
  refine L50 a_0 r1 x2 _ ?_ zF _ x3 x4
  intro u12 x10 x11
  refine p_iconst C dX7_clearFrame_109 rfl ?_
  exact p_iret C Z1 Z2 dX7_clearFrame_110
def q_X7_queuedAt_L25 (h : zH) (a0 : Nat) (i1 : Int) (k : Int → Int → Option Int) : Nat → Int → Int → Option Int
  | 0, _, _ => none
  | n + 1, i2, i3 => if i1 ≤ i3 then (k i2 i3) else (zbp (q_X4_firstInOrder h (h.2 a0 0) i2) (fun x3 => zlet (zand i2 (zxor (zshl 1 x3) ((-1)))) (fun x4 => zlet (zw (i3 + 1)) (fun x5 => q_X7_queuedAt_L25 h a0 i1 k n x4 x5))))
def q_X7_queuedAt (h : zH) (a_0 : Nat) (x_1 : Int) : Option Int := zbp (q_X4_callsIn h (h.2 a_0 0) 0) (fun x1 => if x_1 < 0 then (some ((-1))) else (zbp (q_J6_bitCount x1) (fun x2 => if x_1 < x2 then (q_X7_queuedAt_L25 h a_0 x_1 (fun x6 x7 => zbp (q_X4_firstInOrder h (h.2 a_0 0) x6) (fun x8 => some x8)) zF x1 0) else (some ((-1))))))
theorem cq_X7_queuedAt (w : zW) (l : Launch) (h : zH) (a_0 : Nat) (x_1 : Int) : zCp w l yX7_queuedAt cX7_queuedAt 4 (some .int) 2 72 [.inr (7, a_0), .inl x_1] h qI (q_X7_queuedAt h a_0 x_1) := by
  refine zCp.of (own := RX7) (loc := [some (.inr (7, a_0)), some (.inl x_1), none, none]) (by decide) rfl (Nat.le_of_ble_eq_true rfl) (fun k v hk => ?_) ?_
  · exact zloc_ok 2 rfl hk
  intro p e s m args below meth c C Z1 Z2
  have L25 : ∀ (a0 : Nat) (i1 : Int) (k : Int → Int → Option Int) (hk : ∀ (i2 : Int) (i3 : Int), zQP w p l e (zRm 2 72) s m args below meth c 4 qI (k i2 i3) 51 [some (.inr (7, a0)), some (.inl i1), some (.inl i2), some (.inl i3)] [] h) (n : Nat) (i2 : Int) (i3 : Int), zQP w p l e (zRm 2 72) s m args below meth c 4 qI (q_X7_queuedAt_L25 h a0 i1 k n i2 i3) 25 [some (.inr (7, a0)), some (.inl i1), some (.inl i2), some (.inl i3)] [] h := by
    intro a0 i1 k hk n
    induction n with
    | zero =>
      intro i2 i3
      exact p_none
    | succ n ih =>
      intro i2 i3
      rw [q_X7_queuedAt_L25]
      refine p_iload_n C dX7_queuedAt_25 rfl ?_
      refine p_iload_n C dX7_queuedAt_26 rfl ?_
      refine p_icmp_ge C dX7_queuedAt_27 (tgt := 51) (by decide) ?_ ?_
      · exact hk i2 i3
      · refine p_iload_n C dX7_queuedAt_30 rfl ?_
        refine p_iconst C dX7_queuedAt_31 rfl ?_
        refine p_aload_n C dX7_queuedAt_32 rfl ?_
        refine p_getR C dX7_queuedAt_33 fl7_10 rfl ?_
        refine p_iload_n C dX7_queuedAt_36 rfl ?_
        refine p_pcallVI C dX7_queuedAt_37 mv7_216 (cq_X4_firstInOrder w l h _ _) rfl ⟨by decide, by decide⟩ ⟨rfl, Nat.le_of_ble_eq_true rfl⟩ (fun x3 => ?_)
        refine p_ishl C dX7_queuedAt_40 ?_
        refine p_iconst C dX7_queuedAt_41 rfl ?_
        refine p_ixor C dX7_queuedAt_42 ?_
        refine p_iand C dX7_queuedAt_43 ?_
        refine p_istore_nL C dX7_queuedAt_44 (by decide) (fun x4 => ?_)
        refine p_iincL C dX7_queuedAt_45 rfl (by decide) (fun x5 => ?_)
        refine p_goto C dX7_queuedAt_48 (tgt := 25) (by decide) ?_
        exact ih x4 x5
  unfold q_X7_queuedAt
  refine p_aload_n C dX7_queuedAt_0 rfl ?_
  refine p_getR C dX7_queuedAt_1 fl7_10 rfl ?_
  refine p_iconst C dX7_queuedAt_4 rfl ?_
  refine p_pcallVI C dX7_queuedAt_5 mv7_194 (cq_X4_callsIn w l h _ _) rfl ⟨by decide, by decide⟩ ⟨rfl, Nat.le_of_ble_eq_true rfl⟩ (fun x1 => ?_)
  refine p_istore_n C dX7_queuedAt_8 (by decide) ?_
  refine p_iload_n C dX7_queuedAt_9 rfl ?_
  refine p_if_lt C dX7_queuedAt_10 (tgt := 21) (by decide) ?_ ?_
  · refine p_iconst C dX7_queuedAt_21 rfl ?_
    exact p_iret C Z1 Z2 dX7_queuedAt_22
  · refine p_iload_n C dX7_queuedAt_13 rfl ?_
    refine p_iload_n C dX7_queuedAt_14 rfl ?_
    refine p_pcallSI (j := 1) C dX7_queuedAt_15 ⟨zmem 704 (by decide +kernel), zmem 705 (by decide +kernel), zmem 89 (by decide +kernel), zmem 706 (by decide +kernel), ⟨by decide, by decide⟩, by decide +kernel⟩ (cq_J6_bitCount w l h _) rfl ⟨by decide, by decide⟩ ⟨rfl, Nat.le_of_ble_eq_true rfl⟩ (fun x2 => ?_)
    refine p_icmp_lt C dX7_queuedAt_18 (tgt := 23) (by decide) ?_ ?_
    · refine p_iconst C dX7_queuedAt_23 rfl ?_
      refine p_istore_n C dX7_queuedAt_24 (by decide) ?_
      refine L25 a_0 x_1 _ ?_ zF x1 0
      intro x6 x7
      refine p_aload_n C dX7_queuedAt_51 rfl ?_
      refine p_getR C dX7_queuedAt_52 fl7_10 rfl ?_
      refine p_iload_n C dX7_queuedAt_55 rfl ?_
      refine p_pcallVI C dX7_queuedAt_56 mv7_216 (cq_X4_firstInOrder w l h _ _) rfl ⟨by decide, by decide⟩ ⟨rfl, Nat.le_of_ble_eq_true rfl⟩ (fun x8 => ?_)
      exact p_iret C Z1 Z2 dX7_queuedAt_59
    · refine p_iconst C dX7_queuedAt_21 rfl ?_
      exact p_iret C Z1 Z2 dX7_queuedAt_22
def q_X7_queueLength (h : zH) (a_0 : Nat) : Option Int := zbp (q_X4_callsIn h (h.2 a_0 0) 0) (fun x1 => zbp (q_J6_bitCount x1) (fun x2 => some x2))
theorem cq_X7_queueLength (w : zW) (l : Launch) (h : zH) (a_0 : Nat) : zCp w l yX7_queueLength cX7_queueLength 1 (some .int) 1 72 [.inr (7, a_0)] h qI (q_X7_queueLength h a_0) := by
  refine zCp.of (own := RX7) (loc := [some (.inr (7, a_0))]) (by decide) rfl (Nat.le_of_ble_eq_true rfl) (fun k v hk => ?_) ?_
  · exact zloc_ok 0 rfl hk
  intro p e s m args below meth c C Z1 Z2
  unfold q_X7_queueLength
  refine p_aload_n C dX7_queueLength_0 rfl ?_
  refine p_getR C dX7_queueLength_1 fl7_10 rfl ?_
  refine p_iconst C dX7_queueLength_4 rfl ?_
  refine p_pcallVI C dX7_queueLength_5 mv7_194 (cq_X4_callsIn w l h _ _) rfl ⟨by decide, by decide⟩ ⟨rfl, Nat.le_of_ble_eq_true rfl⟩ (fun x1 => ?_)
  refine p_pcallSI (j := 1) C dX7_queueLength_8 ⟨zmem 704 (by decide +kernel), zmem 705 (by decide +kernel), zmem 89 (by decide +kernel), zmem 706 (by decide +kernel), ⟨by decide, by decide⟩, by decide +kernel⟩ (cq_J6_bitCount w l h _) rfl ⟨by decide, by decide⟩ ⟨rfl, Nat.le_of_ble_eq_true rfl⟩ (fun x2 => ?_)
  exact p_iret C Z1 Z2 dX7_queueLength_11
def q_X7_fitsWithout_L18 (h : zH) (a0 : Nat) (i2 : Int) (a3 : Nat) (k : Int → Option Int) : Nat → Int → Option Int
  | 0, _ => none
  | n + 1, i4 => if h.1 (h.2 a0 0) 1 ≤ i4 then (k i4) else (zbp (q_X4_leastStart h (h.2 a0 0) a3 i4 i2) (fun x2 => if x2 = (-1) then (zlet (zw (i4 + 1)) (fun x3 => q_X7_fitsWithout_L18 h a0 i2 a3 k n x3)) else (some 1)))
def q_X7_fitsWithout (h : zH) (a_0 : Nat) (x_1 : Int) (x_2 : Int) : Option Int := zbp (q_X7_checkedCall h a_0 x_1) (fun r1 => if h.1 r1 5 = 0 then (q_X7_fitsWithout_L18 h a_0 x_2 r1 (fun x4 => some 0) zF 0) else (some 0))
theorem cq_X7_fitsWithout (w : zW) (l : Launch) (h : zH) (a_0 : Nat) (x_1 : Int) (x_2 : Int) : zCp w l yX7_fitsWithout cX7_fitsWithout 5 (some .boolean) 3 99 [.inr (7, a_0), .inl x_1, .inl x_2] h qI (q_X7_fitsWithout h a_0 x_1 x_2) := by
  refine zCp.of (own := RX7) (loc := [some (.inr (7, a_0)), some (.inl x_1), some (.inl x_2), none, none]) (by decide) rfl (Nat.le_of_ble_eq_true rfl) (fun k v hk => ?_) ?_
  · exact zloc_ok 2 rfl hk
  intro p e s m args below meth c C Z1 Z2
  have L18 : ∀ (a0 : Nat) (i2 : Int) (a3 : Nat) (k : Int → Option Int) (hk : ∀ (u1 : Option zv) (i4 : Int), zQP w p l e (zRm 3 99) s m args below meth c 5 qI (k i4) 53 [some (.inr (7, a0)), u1, some (.inl i2), some (.inr (0, a3)), some (.inl i4)] [] h) (n : Nat) (u1 : Option zv) (i4 : Int), zQP w p l e (zRm 3 99) s m args below meth c 5 qI (q_X7_fitsWithout_L18 h a0 i2 a3 k n i4) 18 [some (.inr (7, a0)), u1, some (.inl i2), some (.inr (0, a3)), some (.inl i4)] [] h := by
    intro a0 i2 a3 k hk n
    induction n with
    | zero =>
      intro u1 i4
      exact p_none
    | succ n ih =>
      intro u1 i4
      rw [q_X7_fitsWithout_L18]
      refine p_iload C dX7_fitsWithout_18 rfl ?_
      refine p_aload_n C dX7_fitsWithout_20 rfl ?_
      refine p_getR C dX7_fitsWithout_21 fl7_10 rfl ?_
      refine p_getI C dX7_fitsWithout_24 fl7_77 rfl ?_
      refine p_icmp_ge C dX7_fitsWithout_27 (tgt := 53) (by decide) ?_ ?_
      · exact hk _ i4
      · refine p_aload_n C dX7_fitsWithout_30 rfl ?_
        refine p_getR C dX7_fitsWithout_31 fl7_10 rfl ?_
        refine p_aload_n C dX7_fitsWithout_34 rfl ?_
        refine p_iload C dX7_fitsWithout_35 rfl ?_
        refine p_iload_n C dX7_fitsWithout_37 rfl ?_
        refine p_pcallVI C dX7_fitsWithout_38 mv7_219 (cq_X4_leastStart w l h _ _ _ _) rfl ⟨by decide, by decide⟩ ⟨rfl, Nat.le_of_ble_eq_true rfl⟩ (fun x2 => ?_)
        refine p_iconst C dX7_fitsWithout_41 rfl ?_
        refine p_icmp_eq C dX7_fitsWithout_42 (tgt := 47) (by decide) ?_ ?_
        · refine p_iincL C dX7_fitsWithout_47 rfl (by decide) (fun x3 => ?_)
          refine p_goto C dX7_fitsWithout_50 (tgt := 18) (by decide) ?_
          exact ih _ x3
        · refine p_iconst C dX7_fitsWithout_45 rfl ?_
          exact p_zret C Z1 Z2 (Or.inr rfl) dX7_fitsWithout_46
  unfold q_X7_fitsWithout
  refine p_aload_n C dX7_fitsWithout_0 rfl ?_
  refine p_iload_n C dX7_fitsWithout_1 rfl ?_
  refine p_pcallVR C dX7_fitsWithout_2 mv7_149 (cq_X7_checkedCall w l h _ _) rfl ⟨by decide, by decide⟩ ⟨rfl, Nat.le_of_ble_eq_true rfl⟩ (fun r1 => ?_)
  refine p_astore_n C dX7_fitsWithout_5 (by decide) ?_
  refine p_aload_n C dX7_fitsWithout_6 rfl ?_
  refine p_getI C dX7_fitsWithout_7 fl7_122 rfl ?_
  refine p_if_eq C dX7_fitsWithout_10 (tgt := 15) (by decide) ?_ ?_
  · refine p_iconst C dX7_fitsWithout_15 rfl ?_
    refine p_istore C dX7_fitsWithout_16 (by decide) ?_
    refine L18 a_0 x_2 r1 _ ?_ zF _ 0
    intro u5 x4
    refine p_iconst C dX7_fitsWithout_53 rfl ?_
    exact p_zret C Z1 Z2 (Or.inl rfl) dX7_fitsWithout_54
  · refine p_iconst C dX7_fitsWithout_13 rfl ?_
    exact p_zret C Z1 Z2 (Or.inl rfl) dX7_fitsWithout_14
def q_X7_callsToDrop (h : zH) (a_0 : Nat) (x_1 : Int) : Option Int := zbp (q_X7_checkedCall h a_0 x_1) (fun r1 => if h.1 r1 5 = 0 then (zbp (q_X4_fewestInTheWay h (h.2 a_0 0) r1) (fun x2 => some x2)) else (some ((-1))))
theorem cq_X7_callsToDrop (w : zW) (l : Launch) (h : zH) (a_0 : Nat) (x_1 : Int) : zCp w l yX7_callsToDrop cX7_callsToDrop 3 (some .int) 4 143 [.inr (7, a_0), .inl x_1] h qI (q_X7_callsToDrop h a_0 x_1) := by
  refine zCp.of (own := RX7) (loc := [some (.inr (7, a_0)), some (.inl x_1), none]) (by decide) rfl (Nat.le_of_ble_eq_true rfl) (fun k v hk => ?_) ?_
  · exact zloc_ok 1 rfl hk
  intro p e s m args below meth c C Z1 Z2
  unfold q_X7_callsToDrop
  refine p_aload_n C dX7_callsToDrop_0 rfl ?_
  refine p_iload_n C dX7_callsToDrop_1 rfl ?_
  refine p_pcallVR C dX7_callsToDrop_2 mv7_149 (cq_X7_checkedCall w l h _ _) rfl ⟨by decide, by decide⟩ ⟨rfl, Nat.le_of_ble_eq_true rfl⟩ (fun r1 => ?_)
  refine p_astore_n C dX7_callsToDrop_5 (by decide) ?_
  refine p_aload_n C dX7_callsToDrop_6 rfl ?_
  refine p_getI C dX7_callsToDrop_7 fl7_122 rfl ?_
  refine p_if_ne C dX7_callsToDrop_10 (tgt := 24) (by decide) ?_ ?_
  · refine p_iconst C dX7_callsToDrop_24 rfl ?_
    exact p_iret C Z1 Z2 dX7_callsToDrop_25
  · refine p_aload_n C dX7_callsToDrop_13 rfl ?_
    refine p_getR C dX7_callsToDrop_14 fl7_10 rfl ?_
    refine p_aload_n C dX7_callsToDrop_17 rfl ?_
    refine p_pcallVI C dX7_callsToDrop_18 mv7_222 (cq_X4_fewestInTheWay w l h _ _) rfl ⟨by decide, by decide⟩ ⟨rfl, Nat.le_of_ble_eq_true rfl⟩ (fun x2 => ?_)
    refine p_goto C dX7_callsToDrop_21 (tgt := 25) (by decide) ?_
    exact p_iret C Z1 Z2 dX7_callsToDrop_25
def q_X7_checkCarrier (h : zH) (a_0 : Nat) (x_1 : Int) : Option Unit := zbp (q_X7_inRange h x_1 0 (zw (h.1 (h.2 a_0 0) 1 - 1))) (fun x1 => if x1 = 0 then (none) else (some (())))
theorem cq_X7_checkCarrier (w : zW) (l : Launch) (h : zH) (a_0 : Nat) (x_1 : Int) : zCp w l yX7_checkCarrier cX7_checkCarrier 2 none 1 22 [.inr (7, a_0), .inl x_1] h qU (q_X7_checkCarrier h a_0 x_1) := by
  refine zCp.of (own := RX7) (loc := [some (.inr (7, a_0)), some (.inl x_1)]) (by decide) rfl (Nat.le_of_ble_eq_true rfl) (fun k v hk => ?_) ?_
  · exact zloc_ok 0 rfl hk
  intro p e s m args below meth c C Z1 Z2
  unfold q_X7_checkCarrier
  refine p_iload_n C dX7_checkCarrier_0 rfl ?_
  refine p_iconst C dX7_checkCarrier_1 rfl ?_
  refine p_aload_n C dX7_checkCarrier_2 rfl ?_
  refine p_getR C dX7_checkCarrier_3 fl7_10 rfl ?_
  refine p_getI C dX7_checkCarrier_6 fl7_77 rfl ?_
  refine p_iconst C dX7_checkCarrier_9 rfl ?_
  refine p_isub C dX7_checkCarrier_10 ?_
  refine p_pcallSI C dX7_checkCarrier_11 ms7_86 (cq_X7_inRange w l h _ _ _) rfl ⟨by decide, by decide⟩ ⟨rfl, Nat.le_of_ble_eq_true rfl⟩ (fun x1 => ?_)
  refine p_if_ne C dX7_checkCarrier_14 (tgt := 28) (by decide) ?_ ?_
  · exact p_vret C Z1 Z2 dX7_checkCarrier_28
  · exact p_none
def q_X7_earliestStart (h : zH) (a_0 : Nat) (x_1 : Int) (x_2 : Int) : Option Int := zbp (q_X7_checkedCall h a_0 x_1) (fun r1 => zbp (q_X7_checkCarrier h a_0 x_2) (fun _ => if h.1 r1 5 = 0 then (zbp (q_X4_leastStart h (h.2 a_0 0) r1 x_2 0) (fun x2 => some x2)) else (some ((-1)))))
theorem cq_X7_earliestStart (w : zW) (l : Launch) (h : zH) (a_0 : Nat) (x_1 : Int) (x_2 : Int) : zCp w l yX7_earliestStart cX7_earliestStart 4 (some .int) 3 99 [.inr (7, a_0), .inl x_1, .inl x_2] h qI (q_X7_earliestStart h a_0 x_1 x_2) := by
  refine zCp.of (own := RX7) (loc := [some (.inr (7, a_0)), some (.inl x_1), some (.inl x_2), none]) (by decide) rfl (Nat.le_of_ble_eq_true rfl) (fun k v hk => ?_) ?_
  · exact zloc_ok 1 rfl hk
  intro p e s m args below meth c C Z1 Z2
  unfold q_X7_earliestStart
  refine p_aload_n C dX7_earliestStart_0 rfl ?_
  refine p_iload_n C dX7_earliestStart_1 rfl ?_
  refine p_pcallVR C dX7_earliestStart_2 mv7_149 (cq_X7_checkedCall w l h _ _) rfl ⟨by decide, by decide⟩ ⟨rfl, Nat.le_of_ble_eq_true rfl⟩ (fun r1 => ?_)
  refine p_astore_n C dX7_earliestStart_5 (by decide) ?_
  refine p_aload_n C dX7_earliestStart_6 rfl ?_
  refine p_iload_n C dX7_earliestStart_7 rfl ?_
  refine p_pcallVU C dX7_earliestStart_8 mv7_225 (cq_X7_checkCarrier w l h _ _) rfl ⟨by decide, by decide⟩ ⟨rfl, Nat.le_of_ble_eq_true rfl⟩ (fun _ => ?_)
  refine p_aload_n C dX7_earliestStart_11 rfl ?_
  refine p_getI C dX7_earliestStart_12 fl7_122 rfl ?_
  refine p_if_ne C dX7_earliestStart_15 (tgt := 31) (by decide) ?_ ?_
  · refine p_iconst C dX7_earliestStart_31 rfl ?_
    exact p_iret C Z1 Z2 dX7_earliestStart_32
  · refine p_aload_n C dX7_earliestStart_18 rfl ?_
    refine p_getR C dX7_earliestStart_19 fl7_10 rfl ?_
    refine p_aload_n C dX7_earliestStart_22 rfl ?_
    refine p_iload_n C dX7_earliestStart_23 rfl ?_
    refine p_iconst C dX7_earliestStart_24 rfl ?_
    refine p_pcallVI C dX7_earliestStart_25 mv7_219 (cq_X4_leastStart w l h _ _ _ _) rfl ⟨by decide, by decide⟩ ⟨rfl, Nat.le_of_ble_eq_true rfl⟩ (fun x2 => ?_)
    refine p_goto C dX7_earliestStart_28 (tgt := 32) (by decide) ?_
    exact p_iret C Z1 Z2 dX7_earliestStart_32
def q_X7_framesToWait_L26 (a0 : Nat) (i1 : Int) (k : Int → zH → Option (Int × zH)) : Nat → Int → zH → Option (Int × zH)
  | 0, _, _ => none
  | n + 1, i2, h => if 200 < i2 then (k i2 h) else (if 9999 ≤ h.1 (h.2 a0 1) 0 then (k i2 h) else (zlet (zput h (h.2 a0 1) 0 (zw (h.1 (h.2 a0 1) 0 + 1))) (fun h3 => zbd (q_X4_endAndServe h3 (h3.2 a0 1)) (fun _ h4 => zgi 16 i1 (if h4.1 (h4.2 (h4.2 (h4.2 a0 1) 8) i1.toNat) 5 = 1 then (some (i2, h4)) else (zlet (zw (i2 + 1)) (fun x5 => q_X7_framesToWait_L26 a0 i1 k n x5 h4)))))))
def q_X7_framesToWait (h : zH) (a_0 : Nat) (x_1 : Int) : Option (Int × zH) := zbp (q_X7_checkedCall h a_0 x_1) (fun r1 => if h.1 r1 5 = 0 then (zbd (q_X4_copyFrom h (h.2 a_0 1) (h.2 a_0 0)) (fun _ h2 => q_X7_framesToWait_L26 a_0 x_1 (fun x6 h7 => some ((-1), h7)) zF 1 h2)) else (some ((-1), h)))
theorem cq_X7_framesToWait (w : zW) (l : Launch) (h : zH) (a_0 : Nat) (x_1 : Int) : zCq w l yX7_framesToWait cX7_framesToWait 3 (some .int) 6 170 [.inr (7, a_0), .inl x_1] h qI (q_X7_framesToWait h a_0 x_1) := by
  refine zCq.of (own := RX7) (loc := [some (.inr (7, a_0)), some (.inl x_1), none]) (by decide) rfl (Nat.le_of_ble_eq_true rfl) (fun k v hk => ?_) ?_
  · exact zloc_ok 1 rfl hk
  intro p e s m args below meth c C Z1 Z2
  have L26 : ∀ (a0 : Nat) (i1 : Int) (k : Int → zH → Option (Int × zH)) (hk : ∀ (i2 : Int) (h : zH), zQV w p l e (zRm 6 170) s m args below meth c 3 qI (k i2 h) 90 [some (.inr (7, a0)), some (.inl i1), some (.inl i2)] [] h) (n : Nat) (i2 : Int) (h : zH), zQV w p l e (zRm 6 170) s m args below meth c 3 qI (q_X7_framesToWait_L26 a0 i1 k n i2 h) 26 [some (.inr (7, a0)), some (.inl i1), some (.inl i2)] [] h := by
    intro a0 i1 k hk n
    induction n with
    | zero =>
      intro i2 h
      exact q_none
    | succ n ih =>
      intro i2 h
      rw [q_X7_framesToWait_L26]
      refine q_iload_n C dX7_framesToWait_26 rfl ?_
      refine q_sipush C dX7_framesToWait_27 (by decide) rfl ?_
      refine q_icmp_gt C dX7_framesToWait_30 (tgt := 90) (by decide) ?_ ?_
      · exact hk i2 h
      · refine q_aload_n C dX7_framesToWait_33 rfl ?_
        refine q_getR C dX7_framesToWait_34 fl7_16 rfl ?_
        refine q_getI C dX7_framesToWait_37 fl7_83 rfl ?_
        refine q_sipush C dX7_framesToWait_40 (by decide) rfl ?_
        refine q_icmp_ge C dX7_framesToWait_43 (tgt := 90) (by decide) ?_ ?_
        · exact hk i2 h
        · refine q_aload_n C dX7_framesToWait_46 rfl ?_
          refine q_getR C dX7_framesToWait_47 fl7_16 rfl ?_
          refine q_dup C dX7_framesToWait_50 ?_
          refine q_getI C dX7_framesToWait_51 fl7_83 rfl ?_
          refine q_iconst C dX7_framesToWait_54 rfl ?_
          refine q_iadd C dX7_framesToWait_55 ?_
          refine q_putI C dX7_framesToWait_56 pl7_83 rfl (fun h3 => ?_)
          refine q_aload_n C dX7_framesToWait_59 rfl ?_
          refine q_getR C dX7_framesToWait_60 fl7_16 rfl ?_
          refine q_callVU C dX7_framesToWait_63 mv7_229 (cq_X4_endAndServe w l h3 _) rfl ⟨by decide, by decide⟩ ⟨rfl, Nat.le_of_ble_eq_true rfl⟩ (fun _ h4 => ?_)
          refine q_aload_n C dX7_framesToWait_66 rfl ?_
          refine q_getR C dX7_framesToWait_67 fl7_16 rfl ?_
          refine q_getR C dX7_framesToWait_70 fl7_118 rfl ?_
          refine q_iload_n C dX7_framesToWait_73 rfl ?_
          refine q_aald C dX7_framesToWait_74 ⟨by decide, by decide, _, rfl⟩ ?_
          refine q_getI C dX7_framesToWait_75 fl7_122 rfl ?_
          refine q_iconst C dX7_framesToWait_78 rfl ?_
          refine q_icmp_ne C dX7_framesToWait_79 (tgt := 84) (by decide) ?_ ?_
          · refine q_iincL C dX7_framesToWait_84 rfl (by decide) (fun x5 => ?_)
            refine q_goto C dX7_framesToWait_87 (tgt := 26) (by decide) ?_
            exact ih x5 h4
          · refine q_iload_n C dX7_framesToWait_82 rfl ?_
            exact q_iret C Z1 Z2 dX7_framesToWait_83
  unfold q_X7_framesToWait
  refine q_aload_n C dX7_framesToWait_0 rfl ?_
  refine q_iload_n C dX7_framesToWait_1 rfl ?_
  refine q_pcallVR C dX7_framesToWait_2 mv7_149 (cq_X7_checkedCall w l h _ _) rfl ⟨by decide, by decide⟩ ⟨rfl, Nat.le_of_ble_eq_true rfl⟩ (fun r1 => ?_)
  refine q_getI C dX7_framesToWait_5 fl7_122 rfl ?_
  refine q_if_eq C dX7_framesToWait_8 (tgt := 13) (by decide) ?_ ?_
  · refine q_aload_n C dX7_framesToWait_13 rfl ?_
    refine q_getR C dX7_framesToWait_14 fl7_16 rfl ?_
    refine q_aload_n C dX7_framesToWait_17 rfl ?_
    refine q_getR C dX7_framesToWait_18 fl7_10 rfl ?_
    refine q_callVU C dX7_framesToWait_21 mv7_61 (cq_X4_copyFrom w l h _ _) rfl ⟨by decide, by decide⟩ ⟨rfl, Nat.le_of_ble_eq_true rfl⟩ (fun _ h2 => ?_)
    refine q_iconst C dX7_framesToWait_24 rfl ?_
    refine q_istore_n C dX7_framesToWait_25 (by decide) ?_
    refine L26 a_0 x_1 _ ?_ zF 1 h2
    intro x6 h7
    refine q_iconst C dX7_framesToWait_90 rfl ?_
    exact q_iret C Z1 Z2 dX7_framesToWait_91
  · refine q_iconst C dX7_framesToWait_11 rfl ?_
    exact q_iret C Z1 Z2 dX7_framesToWait_12
def q_X7_callsOn_L9 (h : zH) (a0 : Nat) (i1 : Int) (k : Int → Int → Option Int) : Nat → Int → Int → Option Int
  | 0, _, _ => none
  | n + 1, i2, i3 => if h.1 (h.2 a0 0) 7 ≤ i3 then (k i2 i3) else (zgi 16 i3 (zbp (q_X0_isOn h (h.2 (h.2 (h.2 a0 0) 8) i3.toNat) i1) (fun x1 => if x1 = 0 then (zlet (zw (i3 + 1)) (fun x2 => q_X7_callsOn_L9 h a0 i1 k n i2 x2)) else (zlet (zw (i2 + 1)) (fun x3 => zlet (zw (i3 + 1)) (fun x4 => q_X7_callsOn_L9 h a0 i1 k n x3 x4))))))
def q_X7_callsOn (h : zH) (a_0 : Nat) (x_1 : Int) : Option Int := zbp (q_X7_checkCarrier h a_0 x_1) (fun _ => q_X7_callsOn_L9 h a_0 x_1 (fun x5 x6 => some x5) zF 0 0)
theorem cq_X7_callsOn (w : zW) (l : Launch) (h : zH) (a_0 : Nat) (x_1 : Int) : zCp w l yX7_callsOn cX7_callsOn 4 (some .int) 2 43 [.inr (7, a_0), .inl x_1] h qI (q_X7_callsOn h a_0 x_1) := by
  refine zCp.of (own := RX7) (loc := [some (.inr (7, a_0)), some (.inl x_1), none, none]) (by decide) rfl (Nat.le_of_ble_eq_true rfl) (fun k v hk => ?_) ?_
  · exact zloc_ok 2 rfl hk
  intro p e s m args below meth c C Z1 Z2
  have L9 : ∀ (a0 : Nat) (i1 : Int) (k : Int → Int → Option Int) (hk : ∀ (i2 : Int) (i3 : Int), zQP w p l e (zRm 2 43) s m args below meth c 4 qI (k i2 i3) 45 [some (.inr (7, a0)), some (.inl i1), some (.inl i2), some (.inl i3)] [] h) (n : Nat) (i2 : Int) (i3 : Int), zQP w p l e (zRm 2 43) s m args below meth c 4 qI (q_X7_callsOn_L9 h a0 i1 k n i2 i3) 9 [some (.inr (7, a0)), some (.inl i1), some (.inl i2), some (.inl i3)] [] h := by
    intro a0 i1 k hk n
    induction n with
    | zero =>
      intro i2 i3
      exact p_none
    | succ n ih =>
      intro i2 i3
      rw [q_X7_callsOn_L9]
      refine p_iload_n C dX7_callsOn_9 rfl ?_
      refine p_aload_n C dX7_callsOn_10 rfl ?_
      refine p_getR C dX7_callsOn_11 fl7_10 rfl ?_
      refine p_getI C dX7_callsOn_14 fl7_74 rfl ?_
      refine p_icmp_ge C dX7_callsOn_17 (tgt := 45) (by decide) ?_ ?_
      · exact hk i2 i3
      · refine p_aload_n C dX7_callsOn_20 rfl ?_
        refine p_getR C dX7_callsOn_21 fl7_10 rfl ?_
        refine p_getR C dX7_callsOn_24 fl7_118 rfl ?_
        refine p_iload_n C dX7_callsOn_27 rfl ?_
        refine p_aald C dX7_callsOn_28 ⟨by decide, by decide, _, rfl⟩ ?_
        refine p_iload_n C dX7_callsOn_29 rfl ?_
        refine p_pcallVI C dX7_callsOn_30 mv7_232 (cq_X0_isOn w l h _ _) rfl ⟨by decide, by decide⟩ ⟨rfl, Nat.le_of_ble_eq_true rfl⟩ (fun x1 => ?_)
        refine p_if_eq C dX7_callsOn_33 (tgt := 39) (by decide) ?_ ?_
        · refine p_iincL C dX7_callsOn_39 rfl (by decide) (fun x2 => ?_)
          refine p_goto C dX7_callsOn_42 (tgt := 9) (by decide) ?_
          exact ih i2 x2
        · refine p_iincL C dX7_callsOn_36 rfl (by decide) (fun x3 => ?_)
          refine p_iincL C dX7_callsOn_39 rfl (by decide) (fun x4 => ?_)
          refine p_goto C dX7_callsOn_42 (tgt := 9) (by decide) ?_
          exact ih x3 x4
  unfold q_X7_callsOn
  refine p_aload_n C dX7_callsOn_0 rfl ?_
  refine p_iload_n C dX7_callsOn_1 rfl ?_
  refine p_pcallVU C dX7_callsOn_2 mv7_225 (cq_X7_checkCarrier w l h _ _) rfl ⟨by decide, by decide⟩ ⟨rfl, Nat.le_of_ble_eq_true rfl⟩ (fun _ => ?_)
  refine p_iconst C dX7_callsOn_5 rfl ?_
  refine p_istore_n C dX7_callsOn_6 (by decide) ?_
  refine p_iconst C dX7_callsOn_7 rfl ?_
  refine p_istore_n C dX7_callsOn_8 (by decide) ?_
  refine L9 a_0 x_1 _ ?_ zF 0 0
  intro x5 x6
  refine p_iload_n C dX7_callsOn_45 rfl ?_
  exact p_iret C Z1 Z2 dX7_callsOn_46
def q_X7_usedSymbols_L9 (h : zH) (a0 : Nat) (i1 : Int) (k : Int → Int → Option Int) : Nat → Int → Int → Option Int
  | 0, _, _ => none
  | n + 1, i2, i3 => if h.1 (h.2 a0 0) 7 ≤ i3 then (k i2 i3) else (zgi 16 i3 (zbp (q_X0_isOn h (h.2 (h.2 (h.2 a0 0) 8) i3.toNat) i1) (fun x1 => if x1 = 0 then (zlet (zw (i3 + 1)) (fun x2 => q_X7_usedSymbols_L9 h a0 i1 k n i2 x2)) else (zgi 16 i3 (zlet (zw (i2 + h.1 (h.2 (h.2 (h.2 a0 0) 8) i3.toNat) 3)) (fun x3 => zlet (zw (i3 + 1)) (fun x4 => q_X7_usedSymbols_L9 h a0 i1 k n x3 x4)))))))
def q_X7_usedSymbols (h : zH) (a_0 : Nat) (x_1 : Int) : Option Int := zbp (q_X7_checkCarrier h a_0 x_1) (fun _ => q_X7_usedSymbols_L9 h a_0 x_1 (fun x5 x6 => some x5) zF 0 0)
theorem cq_X7_usedSymbols (w : zW) (l : Launch) (h : zH) (a_0 : Nat) (x_1 : Int) : zCp w l yX7_usedSymbols cX7_usedSymbols 4 (some .int) 2 43 [.inr (7, a_0), .inl x_1] h qI (q_X7_usedSymbols h a_0 x_1) := by
  refine zCp.of (own := RX7) (loc := [some (.inr (7, a_0)), some (.inl x_1), none, none]) (by decide) rfl (Nat.le_of_ble_eq_true rfl) (fun k v hk => ?_) ?_
  · exact zloc_ok 2 rfl hk
  intro p e s m args below meth c C Z1 Z2
  have L9 : ∀ (a0 : Nat) (i1 : Int) (k : Int → Int → Option Int) (hk : ∀ (i2 : Int) (i3 : Int), zQP w p l e (zRm 2 43) s m args below meth c 4 qI (k i2 i3) 57 [some (.inr (7, a0)), some (.inl i1), some (.inl i2), some (.inl i3)] [] h) (n : Nat) (i2 : Int) (i3 : Int), zQP w p l e (zRm 2 43) s m args below meth c 4 qI (q_X7_usedSymbols_L9 h a0 i1 k n i2 i3) 9 [some (.inr (7, a0)), some (.inl i1), some (.inl i2), some (.inl i3)] [] h := by
    intro a0 i1 k hk n
    induction n with
    | zero =>
      intro i2 i3
      exact p_none
    | succ n ih =>
      intro i2 i3
      rw [q_X7_usedSymbols_L9]
      refine p_iload_n C dX7_usedSymbols_9 rfl ?_
      refine p_aload_n C dX7_usedSymbols_10 rfl ?_
      refine p_getR C dX7_usedSymbols_11 fl7_10 rfl ?_
      refine p_getI C dX7_usedSymbols_14 fl7_74 rfl ?_
      refine p_icmp_ge C dX7_usedSymbols_17 (tgt := 57) (by decide) ?_ ?_
      · exact hk i2 i3
      · refine p_aload_n C dX7_usedSymbols_20 rfl ?_
        refine p_getR C dX7_usedSymbols_21 fl7_10 rfl ?_
        refine p_getR C dX7_usedSymbols_24 fl7_118 rfl ?_
        refine p_iload_n C dX7_usedSymbols_27 rfl ?_
        refine p_aald C dX7_usedSymbols_28 ⟨by decide, by decide, _, rfl⟩ ?_
        refine p_iload_n C dX7_usedSymbols_29 rfl ?_
        refine p_pcallVI C dX7_usedSymbols_30 mv7_232 (cq_X0_isOn w l h _ _) rfl ⟨by decide, by decide⟩ ⟨rfl, Nat.le_of_ble_eq_true rfl⟩ (fun x1 => ?_)
        refine p_if_eq C dX7_usedSymbols_33 (tgt := 51) (by decide) ?_ ?_
        · refine p_iincL C dX7_usedSymbols_51 rfl (by decide) (fun x2 => ?_)
          refine p_goto C dX7_usedSymbols_54 (tgt := 9) (by decide) ?_
          exact ih i2 x2
        · refine p_iload_n C dX7_usedSymbols_36 rfl ?_
          refine p_aload_n C dX7_usedSymbols_37 rfl ?_
          refine p_getR C dX7_usedSymbols_38 fl7_10 rfl ?_
          refine p_getR C dX7_usedSymbols_41 fl7_118 rfl ?_
          refine p_iload_n C dX7_usedSymbols_44 rfl ?_
          refine p_aald C dX7_usedSymbols_45 ⟨by decide, by decide, _, rfl⟩ ?_
          refine p_getI C dX7_usedSymbols_46 fl7_130 rfl ?_
          refine p_iadd C dX7_usedSymbols_49 ?_
          refine p_istore_nL C dX7_usedSymbols_50 (by decide) (fun x3 => ?_)
          refine p_iincL C dX7_usedSymbols_51 rfl (by decide) (fun x4 => ?_)
          refine p_goto C dX7_usedSymbols_54 (tgt := 9) (by decide) ?_
          exact ih x3 x4
  unfold q_X7_usedSymbols
  refine p_aload_n C dX7_usedSymbols_0 rfl ?_
  refine p_iload_n C dX7_usedSymbols_1 rfl ?_
  refine p_pcallVU C dX7_usedSymbols_2 mv7_225 (cq_X7_checkCarrier w l h _ _) rfl ⟨by decide, by decide⟩ ⟨rfl, Nat.le_of_ble_eq_true rfl⟩ (fun _ => ?_)
  refine p_iconst C dX7_usedSymbols_5 rfl ?_
  refine p_istore_n C dX7_usedSymbols_6 (by decide) ?_
  refine p_iconst C dX7_usedSymbols_7 rfl ?_
  refine p_istore_n C dX7_usedSymbols_8 (by decide) ?_
  refine L9 a_0 x_1 _ ?_ zF 0 0
  intro x5 x6
  refine p_iload_n C dX7_usedSymbols_57 rfl ?_
  exact p_iret C Z1 Z2 dX7_usedSymbols_58
def q_X7_callAt_L7 (h : zH) (a0 : Nat) (i1 : Int) (i2 : Int) (k : Int → Option Int) : Nat → Int → Option Int
  | 0, _ => none
  | n + 1, i3 => if h.1 (h.2 a0 0) 7 ≤ i3 then (k i3) else (zgi 16 i3 (zbp (q_X0_isOn h (h.2 (h.2 (h.2 a0 0) 8) i3.toNat) i1) (fun x1 => if x1 = 0 then (zlet (zw (i3 + 1)) (fun x2 => q_X7_callAt_L7 h a0 i1 i2 k n x2)) else (zgi 16 i3 (zbp (q_X4_burstsBefore h (h.2 a0 0) i1 (h.1 (h.2 (h.2 (h.2 a0 0) 8) i3.toNat) 7)) (fun x3 => if x3 = i2 then (some i3) else (zlet (zw (i3 + 1)) (fun x4 => q_X7_callAt_L7 h a0 i1 i2 k n x4))))))))
def q_X7_callAt (h : zH) (a_0 : Nat) (x_1 : Int) (x_2 : Int) : Option Int := zbp (q_X7_checkCarrier h a_0 x_1) (fun _ => q_X7_callAt_L7 h a_0 x_1 x_2 (fun x5 => some ((-1))) zF 0)
theorem cq_X7_callAt (w : zW) (l : Launch) (h : zH) (a_0 : Nat) (x_1 : Int) (x_2 : Int) : zCp w l yX7_callAt cX7_callAt 4 (some .int) 2 45 [.inr (7, a_0), .inl x_1, .inl x_2] h qI (q_X7_callAt h a_0 x_1 x_2) := by
  refine zCp.of (own := RX7) (loc := [some (.inr (7, a_0)), some (.inl x_1), some (.inl x_2), none]) (by decide) rfl (Nat.le_of_ble_eq_true rfl) (fun k v hk => ?_) ?_
  · exact zloc_ok 1 rfl hk
  intro p e s m args below meth c C Z1 Z2
  have L7 : ∀ (a0 : Nat) (i1 : Int) (i2 : Int) (k : Int → Option Int) (hk : ∀ (i3 : Int), zQP w p l e (zRm 2 45) s m args below meth c 4 qI (k i3) 66 [some (.inr (7, a0)), some (.inl i1), some (.inl i2), some (.inl i3)] [] h) (n : Nat) (i3 : Int), zQP w p l e (zRm 2 45) s m args below meth c 4 qI (q_X7_callAt_L7 h a0 i1 i2 k n i3) 7 [some (.inr (7, a0)), some (.inl i1), some (.inl i2), some (.inl i3)] [] h := by
    intro a0 i1 i2 k hk n
    induction n with
    | zero =>
      intro i3
      exact p_none
    | succ n ih =>
      intro i3
      rw [q_X7_callAt_L7]
      refine p_iload_n C dX7_callAt_7 rfl ?_
      refine p_aload_n C dX7_callAt_8 rfl ?_
      refine p_getR C dX7_callAt_9 fl7_10 rfl ?_
      refine p_getI C dX7_callAt_12 fl7_74 rfl ?_
      refine p_icmp_ge C dX7_callAt_15 (tgt := 66) (by decide) ?_ ?_
      · exact hk i3
      · refine p_aload_n C dX7_callAt_18 rfl ?_
        refine p_getR C dX7_callAt_19 fl7_10 rfl ?_
        refine p_getR C dX7_callAt_22 fl7_118 rfl ?_
        refine p_iload_n C dX7_callAt_25 rfl ?_
        refine p_aald C dX7_callAt_26 ⟨by decide, by decide, _, rfl⟩ ?_
        refine p_iload_n C dX7_callAt_27 rfl ?_
        refine p_pcallVI C dX7_callAt_28 mv7_232 (cq_X0_isOn w l h _ _) rfl ⟨by decide, by decide⟩ ⟨rfl, Nat.le_of_ble_eq_true rfl⟩ (fun x1 => ?_)
        refine p_if_eq C dX7_callAt_31 (tgt := 60) (by decide) ?_ ?_
        · refine p_iincL C dX7_callAt_60 rfl (by decide) (fun x2 => ?_)
          refine p_goto C dX7_callAt_63 (tgt := 7) (by decide) ?_
          exact ih x2
        · refine p_aload_n C dX7_callAt_34 rfl ?_
          refine p_getR C dX7_callAt_35 fl7_10 rfl ?_
          refine p_iload_n C dX7_callAt_38 rfl ?_
          refine p_aload_n C dX7_callAt_39 rfl ?_
          refine p_getR C dX7_callAt_40 fl7_10 rfl ?_
          refine p_getR C dX7_callAt_43 fl7_118 rfl ?_
          refine p_iload_n C dX7_callAt_46 rfl ?_
          refine p_aald C dX7_callAt_47 ⟨by decide, by decide, _, rfl⟩ ?_
          refine p_getI C dX7_callAt_48 fl7_162 rfl ?_
          refine p_pcallVI C dX7_callAt_51 mv7_236 (cq_X4_burstsBefore w l h _ _ _) rfl ⟨by decide, by decide⟩ ⟨rfl, Nat.le_of_ble_eq_true rfl⟩ (fun x3 => ?_)
          refine p_iload_n C dX7_callAt_54 rfl ?_
          refine p_icmp_ne C dX7_callAt_55 (tgt := 60) (by decide) ?_ ?_
          · refine p_iincL C dX7_callAt_60 rfl (by decide) (fun x4 => ?_)
            refine p_goto C dX7_callAt_63 (tgt := 7) (by decide) ?_
            exact ih x4
          · refine p_iload_n C dX7_callAt_58 rfl ?_
            exact p_iret C Z1 Z2 dX7_callAt_59
  unfold q_X7_callAt
  refine p_aload_n C dX7_callAt_0 rfl ?_
  refine p_iload_n C dX7_callAt_1 rfl ?_
  refine p_pcallVU C dX7_callAt_2 mv7_225 (cq_X7_checkCarrier w l h _ _) rfl ⟨by decide, by decide⟩ ⟨rfl, Nat.le_of_ble_eq_true rfl⟩ (fun _ => ?_)
  refine p_iconst C dX7_callAt_5 rfl ?_
  refine p_istore_n C dX7_callAt_6 (by decide) ?_
  refine L7 a_0 x_1 x_2 _ ?_ zF 0
  intro x5
  refine p_iconst C dX7_callAt_66 rfl ?_
  exact p_iret C Z1 Z2 dX7_callAt_67
def q_X7_callOver_L7 (h : zH) (a0 : Nat) (i1 : Int) (i2 : Int) (k : Int → Option Int) : Nat → Int → Option Int
  | 0, _ => none
  | n + 1, i3 => if h.1 (h.2 a0 0) 7 ≤ i3 then (k i3) else (zgi 16 i3 (zlet (h.2 (h.2 (h.2 a0 0) 8) i3.toNat) (fun r1 => zbp (q_X0_isOn h r1 i1) (fun x2 => if x2 = 0 then (zlet (zw (i3 + 1)) (fun x3 => q_X7_callOver_L7 h a0 i1 i2 k n x3)) else (if i2 < h.1 r1 7 then (zlet (zw (i3 + 1)) (fun x4 => q_X7_callOver_L7 h a0 i1 i2 k n x4)) else (if zw (h.1 r1 7 + h.1 r1 3) ≤ i2 then (zlet (zw (i3 + 1)) (fun x5 => q_X7_callOver_L7 h a0 i1 i2 k n x5)) else (some i3)))))))
def q_X7_callOver (h : zH) (a_0 : Nat) (x_1 : Int) (x_2 : Int) : Option Int := zbp (q_X7_checkCarrier h a_0 x_1) (fun _ => q_X7_callOver_L7 h a_0 x_1 x_2 (fun x6 => some ((-1))) zF 0)
theorem cq_X7_callOver (w : zW) (l : Launch) (h : zH) (a_0 : Nat) (x_1 : Int) (x_2 : Int) : zCp w l yX7_callOver cX7_callOver 5 (some .int) 2 43 [.inr (7, a_0), .inl x_1, .inl x_2] h qI (q_X7_callOver h a_0 x_1 x_2) := by
  refine zCp.of (own := RX7) (loc := [some (.inr (7, a_0)), some (.inl x_1), some (.inl x_2), none, none]) (by decide) rfl (Nat.le_of_ble_eq_true rfl) (fun k v hk => ?_) ?_
  · exact zloc_ok 2 rfl hk
  intro p e s m args below meth c C Z1 Z2
  have L7 : ∀ (a0 : Nat) (i1 : Int) (i2 : Int) (k : Int → Option Int) (hk : ∀ (u4 : Option zv) (i3 : Int), zQP w p l e (zRm 2 43) s m args below meth c 5 qI (k i3) 70 [some (.inr (7, a0)), some (.inl i1), some (.inl i2), some (.inl i3), u4] [] h) (n : Nat) (u4 : Option zv) (i3 : Int), zQP w p l e (zRm 2 43) s m args below meth c 5 qI (q_X7_callOver_L7 h a0 i1 i2 k n i3) 7 [some (.inr (7, a0)), some (.inl i1), some (.inl i2), some (.inl i3), u4] [] h := by
    intro a0 i1 i2 k hk n
    induction n with
    | zero =>
      intro u4 i3
      exact p_none
    | succ n ih =>
      intro u4 i3
      rw [q_X7_callOver_L7]
      refine p_iload_n C dX7_callOver_7 rfl ?_
      refine p_aload_n C dX7_callOver_8 rfl ?_
      refine p_getR C dX7_callOver_9 fl7_10 rfl ?_
      refine p_getI C dX7_callOver_12 fl7_74 rfl ?_
      refine p_icmp_ge C dX7_callOver_15 (tgt := 70) (by decide) ?_ ?_
      · exact hk _ i3
      · refine p_aload_n C dX7_callOver_18 rfl ?_
        refine p_getR C dX7_callOver_19 fl7_10 rfl ?_
        refine p_getR C dX7_callOver_22 fl7_118 rfl ?_
        refine p_iload_n C dX7_callOver_25 rfl ?_
        refine p_aald C dX7_callOver_26 ⟨by decide, by decide, _, rfl⟩ ?_
        refine p_astoreL C dX7_callOver_27 (by decide) (fun r1 => ?_)
        refine p_aload C dX7_callOver_29 rfl ?_
        refine p_iload_n C dX7_callOver_31 rfl ?_
        refine p_pcallVI C dX7_callOver_32 mv7_232 (cq_X0_isOn w l h _ _) rfl ⟨by decide, by decide⟩ ⟨rfl, Nat.le_of_ble_eq_true rfl⟩ (fun x2 => ?_)
        refine p_if_eq C dX7_callOver_35 (tgt := 64) (by decide) ?_ ?_
        · refine p_iincL C dX7_callOver_64 rfl (by decide) (fun x3 => ?_)
          refine p_goto C dX7_callOver_67 (tgt := 7) (by decide) ?_
          exact ih _ x3
        · refine p_aload C dX7_callOver_38 rfl ?_
          refine p_getI C dX7_callOver_40 fl7_162 rfl ?_
          refine p_iload_n C dX7_callOver_43 rfl ?_
          refine p_icmp_gt C dX7_callOver_44 (tgt := 64) (by decide) ?_ ?_
          · refine p_iincL C dX7_callOver_64 rfl (by decide) (fun x4 => ?_)
            refine p_goto C dX7_callOver_67 (tgt := 7) (by decide) ?_
            exact ih _ x4
          · refine p_iload_n C dX7_callOver_47 rfl ?_
            refine p_aload C dX7_callOver_48 rfl ?_
            refine p_getI C dX7_callOver_50 fl7_162 rfl ?_
            refine p_aload C dX7_callOver_53 rfl ?_
            refine p_getI C dX7_callOver_55 fl7_130 rfl ?_
            refine p_iadd C dX7_callOver_58 ?_
            refine p_icmp_ge C dX7_callOver_59 (tgt := 64) (by decide) ?_ ?_
            · refine p_iincL C dX7_callOver_64 rfl (by decide) (fun x5 => ?_)
              refine p_goto C dX7_callOver_67 (tgt := 7) (by decide) ?_
              exact ih _ x5
            · refine p_iload_n C dX7_callOver_62 rfl ?_
              exact p_iret C Z1 Z2 dX7_callOver_63
  unfold q_X7_callOver
  refine p_aload_n C dX7_callOver_0 rfl ?_
  refine p_iload_n C dX7_callOver_1 rfl ?_
  refine p_pcallVU C dX7_callOver_2 mv7_225 (cq_X7_checkCarrier w l h _ _) rfl ⟨by decide, by decide⟩ ⟨rfl, Nat.le_of_ble_eq_true rfl⟩ (fun _ => ?_)
  refine p_iconst C dX7_callOver_5 rfl ?_
  refine p_istore_n C dX7_callOver_6 (by decide) ?_
  refine L7 a_0 x_1 x_2 _ ?_ zF _ 0
  intro u7 x6
  refine p_iconst C dX7_callOver_70 rfl ?_
  exact p_iret C Z1 Z2 dX7_callOver_71
def q_X7_longestFit (h : zH) (a_0 : Nat) (x_1 : Int) : Option Int := zbp (q_X7_checkCarrier h a_0 x_1) (fun _ => zbp (q_X4_widestRoom h (h.2 a_0 0) x_1) (fun x1 => some x1))
theorem cq_X7_longestFit (w : zW) (l : Launch) (h : zH) (a_0 : Nat) (x_1 : Int) : zCp w l yX7_longestFit cX7_longestFit 2 (some .int) 3 119 [.inr (7, a_0), .inl x_1] h qI (q_X7_longestFit h a_0 x_1) := by
  refine zCp.of (own := RX7) (loc := [some (.inr (7, a_0)), some (.inl x_1)]) (by decide) rfl (Nat.le_of_ble_eq_true rfl) (fun k v hk => ?_) ?_
  · exact zloc_ok 0 rfl hk
  intro p e s m args below meth c C Z1 Z2
  unfold q_X7_longestFit
  refine p_aload_n C dX7_longestFit_0 rfl ?_
  refine p_iload_n C dX7_longestFit_1 rfl ?_
  refine p_pcallVU C dX7_longestFit_2 mv7_225 (cq_X7_checkCarrier w l h _ _) rfl ⟨by decide, by decide⟩ ⟨rfl, Nat.le_of_ble_eq_true rfl⟩ (fun _ => ?_)
  refine p_aload_n C dX7_longestFit_5 rfl ?_
  refine p_getR C dX7_longestFit_6 fl7_10 rfl ?_
  refine p_iload_n C dX7_longestFit_9 rfl ?_
  refine p_pcallVI C dX7_longestFit_10 mv7_239 (cq_X4_widestRoom w l h _ _) rfl ⟨by decide, by decide⟩ ⟨rfl, Nat.le_of_ble_eq_true rfl⟩ (fun x1 => ?_)
  exact p_iret C Z1 Z2 dX7_longestFit_13
def q_X7_nextEnd_L4 (h : zH) (a0 : Nat) (k : Int → Int → Option Int) : Nat → Int → Int → Option Int
  | 0, _, _ => none
  | n + 1, i1, i2 => if h.1 (h.2 a0 0) 7 ≤ i2 then (k i1 i2) else (zgi 16 i2 (zlet (h.2 (h.2 (h.2 a0 0) 8) i2.toNat) (fun r1 => if h.1 r1 5 = 1 then (if i1 = (-1) then (zbp (q_X0_endFrame h r1) (fun x3 => zlet (zw (i2 + 1)) (fun x4 => q_X7_nextEnd_L4 h a0 k n x3 x4))) else (zbp (q_X0_endFrame h r1) (fun x5 => if i1 ≤ x5 then (zlet (zw (i2 + 1)) (fun x6 => q_X7_nextEnd_L4 h a0 k n i1 x6)) else (zbp (q_X0_endFrame h r1) (fun x7 => zlet (zw (i2 + 1)) (fun x8 => q_X7_nextEnd_L4 h a0 k n x7 x8)))))) else (zlet (zw (i2 + 1)) (fun x2 => q_X7_nextEnd_L4 h a0 k n i1 x2)))))
def q_X7_nextEnd (h : zH) (a_0 : Nat) : Option Int := q_X7_nextEnd_L4 h a_0 (fun x9 x10 => some x9) zF ((-1)) 0
theorem cq_X7_nextEnd (w : zW) (l : Launch) (h : zH) (a_0 : Nat) : zCp w l yX7_nextEnd cX7_nextEnd 4 (some .int) 1 20 [.inr (7, a_0)] h qI (q_X7_nextEnd h a_0) := by
  refine zCp.of (own := RX7) (loc := [some (.inr (7, a_0)), none, none, none]) (by decide) rfl (Nat.le_of_ble_eq_true rfl) (fun k v hk => ?_) ?_
  · exact zloc_ok 3 rfl hk
  intro p e s m args below meth c C Z1 Z2
  have L4 : ∀ (a0 : Nat) (k : Int → Int → Option Int) (hk : ∀ (u3 : Option zv) (i1 : Int) (i2 : Int), zQP w p l e (zRm 1 20) s m args below meth c 4 qI (k i1 i2) 57 [some (.inr (7, a0)), some (.inl i1), some (.inl i2), u3] [] h) (n : Nat) (u3 : Option zv) (i1 : Int) (i2 : Int), zQP w p l e (zRm 1 20) s m args below meth c 4 qI (q_X7_nextEnd_L4 h a0 k n i1 i2) 4 [some (.inr (7, a0)), some (.inl i1), some (.inl i2), u3] [] h := by
    intro a0 k hk n
    induction n with
    | zero =>
      intro u3 i1 i2
      exact p_none
    | succ n ih =>
      intro u3 i1 i2
      rw [q_X7_nextEnd_L4]
      refine p_iload_n C dX7_nextEnd_4 rfl ?_
      refine p_aload_n C dX7_nextEnd_5 rfl ?_
      refine p_getR C dX7_nextEnd_6 fl7_10 rfl ?_
      refine p_getI C dX7_nextEnd_9 fl7_74 rfl ?_
      refine p_icmp_ge C dX7_nextEnd_12 (tgt := 57) (by decide) ?_ ?_
      · exact hk _ i1 i2
      · refine p_aload_n C dX7_nextEnd_15 rfl ?_
        refine p_getR C dX7_nextEnd_16 fl7_10 rfl ?_
        refine p_getR C dX7_nextEnd_19 fl7_118 rfl ?_
        refine p_iload_n C dX7_nextEnd_22 rfl ?_
        refine p_aald C dX7_nextEnd_23 ⟨by decide, by decide, _, rfl⟩ ?_
        refine p_astore_nL C dX7_nextEnd_24 (by decide) (fun r1 => ?_)
        refine p_aload_n C dX7_nextEnd_25 rfl ?_
        refine p_getI C dX7_nextEnd_26 fl7_122 rfl ?_
        refine p_iconst C dX7_nextEnd_29 rfl ?_
        refine p_icmp_ne C dX7_nextEnd_30 (tgt := 51) (by decide) ?_ ?_
        · refine p_iincL C dX7_nextEnd_51 rfl (by decide) (fun x2 => ?_)
          refine p_goto C dX7_nextEnd_54 (tgt := 4) (by decide) ?_
          exact ih _ i1 x2
        · refine p_iload_n C dX7_nextEnd_33 rfl ?_
          refine p_iconst C dX7_nextEnd_34 rfl ?_
          refine p_icmp_eq C dX7_nextEnd_35 (tgt := 46) (by decide) ?_ ?_
          · refine p_aload_n C dX7_nextEnd_46 rfl ?_
            refine p_pcallVI C dX7_nextEnd_47 mv7_177 (cq_X0_endFrame w l h _) rfl ⟨by decide, by decide⟩ ⟨rfl, Nat.le_of_ble_eq_true rfl⟩ (fun x3 => ?_)
            refine p_istore_n C dX7_nextEnd_50 (by decide) ?_
            refine p_iincL C dX7_nextEnd_51 rfl (by decide) (fun x4 => ?_)
            refine p_goto C dX7_nextEnd_54 (tgt := 4) (by decide) ?_
            exact ih _ x3 x4
          · refine p_aload_n C dX7_nextEnd_38 rfl ?_
            refine p_pcallVI C dX7_nextEnd_39 mv7_177 (cq_X0_endFrame w l h _) rfl ⟨by decide, by decide⟩ ⟨rfl, Nat.le_of_ble_eq_true rfl⟩ (fun x5 => ?_)
            refine p_iload_n C dX7_nextEnd_42 rfl ?_
            refine p_icmp_ge C dX7_nextEnd_43 (tgt := 51) (by decide) ?_ ?_
            · refine p_iincL C dX7_nextEnd_51 rfl (by decide) (fun x6 => ?_)
              refine p_goto C dX7_nextEnd_54 (tgt := 4) (by decide) ?_
              exact ih _ i1 x6
            · refine p_aload_n C dX7_nextEnd_46 rfl ?_
              refine p_pcallVI C dX7_nextEnd_47 mv7_177 (cq_X0_endFrame w l h _) rfl ⟨by decide, by decide⟩ ⟨rfl, Nat.le_of_ble_eq_true rfl⟩ (fun x7 => ?_)
              refine p_istore_n C dX7_nextEnd_50 (by decide) ?_
              refine p_iincL C dX7_nextEnd_51 rfl (by decide) (fun x8 => ?_)
              refine p_goto C dX7_nextEnd_54 (tgt := 4) (by decide) ?_
              exact ih _ x7 x8
  unfold q_X7_nextEnd
  refine p_iconst C dX7_nextEnd_0 rfl ?_
  refine p_istore_n C dX7_nextEnd_1 (by decide) ?_
  refine p_iconst C dX7_nextEnd_2 rfl ?_
  refine p_istore_n C dX7_nextEnd_3 (by decide) ?_
  refine L4 a_0 _ ?_ zF _ ((-1)) 0
  intro u11 x9 x10
  refine p_iload_n C dX7_nextEnd_57 rfl ?_
  exact p_iret C Z1 Z2 dX7_nextEnd_58
def q_X7_carriersNeeded_L31 (a0 : Nat) (i1 : Int) (k : Int → zH → Option (Int × zH)) : Nat → Int → zH → Option (Int × zH)
  | 0, _, _ => none
  | n + 1, i2, h => if 4 < i2 then (k i2 h) else (zlet (zput h (h.2 a0 1) 1 i2) (fun h5 => zbd (q_X4_assignAnew h5 (h5.2 a0 1) i1) (fun x6 h7 => if x6 = 0 then (zlet (zw (i2 + 1)) (fun x8 => q_X7_carriersNeeded_L31 a0 i1 k n x8 h7)) else (some (i2, h7)))))
def q_X7_carriersNeeded (h : zH) (a_0 : Nat) : Option (Int × zH) := zbp (q_X4_callsIn h (h.2 a_0 0) 0) (fun x1 => zbp (q_X4_callsIn h (h.2 a_0 0) 1) (fun x2 => zlet (zor x1 x2) (fun x3 => zbd (q_X4_copyFrom h (h.2 a_0 1) (h.2 a_0 0)) (fun _ h4 => q_X7_carriersNeeded_L31 a_0 x3 (fun x9 h10 => some ((-1), h10)) zF 1 h4))))
theorem cq_X7_carriersNeeded (w : zW) (l : Launch) (h : zH) (a_0 : Nat) : zCq w l yX7_carriersNeeded cX7_carriersNeeded 3 (some .int) 6 170 [.inr (7, a_0)] h qI (q_X7_carriersNeeded h a_0) := by
  refine zCq.of (own := RX7) (loc := [some (.inr (7, a_0)), none, none]) (by decide) rfl (Nat.le_of_ble_eq_true rfl) (fun k v hk => ?_) ?_
  · exact zloc_ok 2 rfl hk
  intro p e s m args below meth c C Z1 Z2
  have L31 : ∀ (a0 : Nat) (i1 : Int) (k : Int → zH → Option (Int × zH)) (hk : ∀ (i2 : Int) (h : zH), zQV w p l e (zRm 6 170) s m args below meth c 3 qI (k i2 h) 63 [some (.inr (7, a0)), some (.inl i1), some (.inl i2)] [] h) (n : Nat) (i2 : Int) (h : zH), zQV w p l e (zRm 6 170) s m args below meth c 3 qI (q_X7_carriersNeeded_L31 a0 i1 k n i2 h) 31 [some (.inr (7, a0)), some (.inl i1), some (.inl i2)] [] h := by
    intro a0 i1 k hk n
    induction n with
    | zero =>
      intro i2 h
      exact q_none
    | succ n ih =>
      intro i2 h
      rw [q_X7_carriersNeeded_L31]
      refine q_iload_n C dX7_carriersNeeded_31 rfl ?_
      refine q_iconst C dX7_carriersNeeded_32 rfl ?_
      refine q_icmp_gt C dX7_carriersNeeded_33 (tgt := 63) (by decide) ?_ ?_
      · exact hk i2 h
      · refine q_aload_n C dX7_carriersNeeded_36 rfl ?_
        refine q_getR C dX7_carriersNeeded_37 fl7_16 rfl ?_
        refine q_iload_n C dX7_carriersNeeded_40 rfl ?_
        refine q_putI C dX7_carriersNeeded_41 pl7_77 rfl (fun h5 => ?_)
        refine q_aload_n C dX7_carriersNeeded_44 rfl ?_
        refine q_getR C dX7_carriersNeeded_45 fl7_16 rfl ?_
        refine q_iload_n C dX7_carriersNeeded_48 rfl ?_
        refine q_callVI C dX7_carriersNeeded_49 mv7_242 (cq_X4_assignAnew w l h5 _ _) rfl ⟨by decide, by decide⟩ ⟨rfl, Nat.le_of_ble_eq_true rfl⟩ (fun x6 h7 => ?_)
        refine q_if_eq C dX7_carriersNeeded_52 (tgt := 57) (by decide) ?_ ?_
        · refine q_iincL C dX7_carriersNeeded_57 rfl (by decide) (fun x8 => ?_)
          refine q_goto C dX7_carriersNeeded_60 (tgt := 31) (by decide) ?_
          exact ih x8 h7
        · refine q_iload_n C dX7_carriersNeeded_55 rfl ?_
          exact q_iret C Z1 Z2 dX7_carriersNeeded_56
  unfold q_X7_carriersNeeded
  refine q_aload_n C dX7_carriersNeeded_0 rfl ?_
  refine q_getR C dX7_carriersNeeded_1 fl7_10 rfl ?_
  refine q_iconst C dX7_carriersNeeded_4 rfl ?_
  refine q_pcallVI C dX7_carriersNeeded_5 mv7_194 (cq_X4_callsIn w l h _ _) rfl ⟨by decide, by decide⟩ ⟨rfl, Nat.le_of_ble_eq_true rfl⟩ (fun x1 => ?_)
  refine q_aload_n C dX7_carriersNeeded_8 rfl ?_
  refine q_getR C dX7_carriersNeeded_9 fl7_10 rfl ?_
  refine q_iconst C dX7_carriersNeeded_12 rfl ?_
  refine q_pcallVI C dX7_carriersNeeded_13 mv7_194 (cq_X4_callsIn w l h _ _) rfl ⟨by decide, by decide⟩ ⟨rfl, Nat.le_of_ble_eq_true rfl⟩ (fun x2 => ?_)
  refine q_ior C dX7_carriersNeeded_16 ?_
  refine q_istore_nL C dX7_carriersNeeded_17 (by decide) (fun x3 => ?_)
  refine q_aload_n C dX7_carriersNeeded_18 rfl ?_
  refine q_getR C dX7_carriersNeeded_19 fl7_16 rfl ?_
  refine q_aload_n C dX7_carriersNeeded_22 rfl ?_
  refine q_getR C dX7_carriersNeeded_23 fl7_10 rfl ?_
  refine q_callVU C dX7_carriersNeeded_26 mv7_61 (cq_X4_copyFrom w l h _ _) rfl ⟨by decide, by decide⟩ ⟨rfl, Nat.le_of_ble_eq_true rfl⟩ (fun _ h4 => ?_)
  refine q_iconst C dX7_carriersNeeded_29 rfl ?_
  refine q_istore_n C dX7_carriersNeeded_30 (by decide) ?_
  refine L31 a_0 x3 _ ?_ zF 1 h4
  intro x9 h10
  refine q_iconst C dX7_carriersNeeded_63 rfl ?_
  exact q_iret C Z1 Z2 dX7_carriersNeeded_64
def q_X7_undo (h : zH) (a_0 : Nat) : Option (Int × zH) := zbd (q_X1_restore h (h.2 a_0 3) (h.2 a_0 0)) (fun x1 h2 => if x1 = 0 then (some ((-1), h2)) else (some (h2.1 (h2.2 a_0 3) 0, h2)))
theorem cq_X7_undo (w : zW) (l : Launch) (h : zH) (a_0 : Nat) : zCq w l yX7_undo cX7_undo 1 (some .int) 4 136 [.inr (7, a_0)] h qI (q_X7_undo h a_0) := by
  refine zCq.of (own := RX7) (loc := [some (.inr (7, a_0))]) (by decide) rfl (Nat.le_of_ble_eq_true rfl) (fun k v hk => ?_) ?_
  · exact zloc_ok 0 rfl hk
  intro p e s m args below meth c C Z1 Z2
  unfold q_X7_undo
  refine q_aload_n C dX7_undo_0 rfl ?_
  refine q_getR C dX7_undo_1 fl7_29 rfl ?_
  refine q_aload_n C dX7_undo_4 rfl ?_
  refine q_getR C dX7_undo_5 fl7_10 rfl ?_
  refine q_callVI C dX7_undo_8 mv7_271 (cq_X1_restore w l h _ _) rfl ⟨by decide, by decide⟩ ⟨rfl, Nat.le_of_ble_eq_true rfl⟩ (fun x1 h2 => ?_)
  refine q_if_eq C dX7_undo_11 (tgt := 24) (by decide) ?_ ?_
  · refine q_iconst C dX7_undo_24 rfl ?_
    exact q_iret C Z1 Z2 dX7_undo_25
  · refine q_aload_n C dX7_undo_14 rfl ?_
    refine q_getR C dX7_undo_15 fl7_29 rfl ?_
    refine q_getI C dX7_undo_18 fl7_65 rfl ?_
    refine q_goto C dX7_undo_21 (tgt := 25) (by decide) ?_
    exact q_iret C Z1 Z2 dX7_undo_25
