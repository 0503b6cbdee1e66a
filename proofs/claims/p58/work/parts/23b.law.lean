/-! The law's own methods that make nothing new, as terms, and that they do: by wip/p58/law58.py. -/
section QV
variable {α : Type} {w : zW} {p : Program} {l : Launch} {e : Env} {R : Room} {s : State} {m : MethodId} {args : Array Value} {below : List Frame} {meth : Method} {c : Code} {nL : Nat} {f : α → Option zv} {E : Option (α × zH)}
variable {cc : ByteArray} {own : String} {pc : Nat} {loc : List (Option zv)} {stk : List zv} {h : zH}
theorem q_tsw7 (C : zC w p s m args c nL cc own) {A0 A1 A2 A3 A4 A5 A6 D : Option (α × zH)} {x dflt o0 o1 o2 o3 o4 o5 o6 : Int} {len t0 t1 t2 t3 t4 t5 t6 td : Nat} (hd : decode cc pc = .ok (.tableswitch dflt 0 6 #[o0, o1, o2, o3, o4, o5, o6], len)) (ht : (pc : Int) + o0 = (t0 : Int) ∧ (pc : Int) + o1 = (t1 : Int) ∧ (pc : Int) + o2 = (t2 : Int) ∧ (pc : Int) + o3 = (t3 : Int) ∧ (pc : Int) + o4 = (t4 : Int) ∧ (pc : Int) + o5 = (t5 : Int) ∧ (pc : Int) + o6 = (t6 : Int) ∧ (pc : Int) + dflt = (td : Int)) (k0 : zQV w p l e R s m args below meth c nL f A0 t0 loc stk h) (k1 : zQV w p l e R s m args below meth c nL f A1 t1 loc stk h) (k2 : zQV w p l e R s m args below meth c nL f A2 t2 loc stk h) (k3 : zQV w p l e R s m args below meth c nL f A3 t3 loc stk h) (k4 : zQV w p l e R s m args below meth c nL f A4 t4 loc stk h) (k5 : zQV w p l e R s m args below meth c nL f A5 t5 loc stk h) (k6 : zQV w p l e R s m args below meth c nL f A6 t6 loc stk h) (kd : zQV w p l e R s m args below meth c nL f D td loc stk h) : zQV w p l e R s m args below meth c nL f (if x = 0 then A0 else if x = 1 then A1 else if x = 2 then A2 else if x = 3 then A3 else if x = 4 then A4 else if x = 5 then A5 else if x = 6 then A6 else D) pc loc (.inl x :: stk) h := by
  intro r h' z
  obtain ⟨g0, g1, g2, g3, g4, g5, g6, gd⟩ := ht
  by_cases e0 : x = 0
  · rw [if_pos e0] at z
    exact v_tabIn C (k := 0) hd (by omega) (by decide) rfl g0 (k0 r h' z)
  by_cases e1 : x = 1
  · rw [if_neg e0, if_pos e1] at z
    exact v_tabIn C (k := 1) hd (by omega) (by decide) rfl g1 (k1 r h' z)
  by_cases e2 : x = 2
  · rw [if_neg e0, if_neg e1, if_pos e2] at z
    exact v_tabIn C (k := 2) hd (by omega) (by decide) rfl g2 (k2 r h' z)
  by_cases e3 : x = 3
  · rw [if_neg e0, if_neg e1, if_neg e2, if_pos e3] at z
    exact v_tabIn C (k := 3) hd (by omega) (by decide) rfl g3 (k3 r h' z)
  by_cases e4 : x = 4
  · rw [if_neg e0, if_neg e1, if_neg e2, if_neg e3, if_pos e4] at z
    exact v_tabIn C (k := 4) hd (by omega) (by decide) rfl g4 (k4 r h' z)
  by_cases e5 : x = 5
  · rw [if_neg e0, if_neg e1, if_neg e2, if_neg e3, if_neg e4, if_pos e5] at z
    exact v_tabIn C (k := 5) hd (by omega) (by decide) rfl g5 (k5 r h' z)
  by_cases e6 : x = 6
  · rw [if_neg e0, if_neg e1, if_neg e2, if_neg e3, if_neg e4, if_neg e5, if_pos e6] at z
    exact v_tabIn C (k := 6) hd (by omega) (by decide) rfl g6 (k6 r h' z)
  rw [if_neg e0, if_neg e1, if_neg e2, if_neg e3, if_neg e4, if_neg e5, if_neg e6] at z
  exact v_tabOut C hd (by omega) gd (kd r h' z)
end QV
def q_L_cell (w : zW) (h : zH) (x_1 : Int) : Option Int := if ((zwN w : Nat) : Int) ≤ x_1 then (some 0) else (zgi (zwN w) x_1 (some (zwX w x_1.toNat)))
theorem cq_L_cell (w : zW) (l : Launch) (h : zH) (x_1 : Int) : zCp w l yL_cell cL_cell 2 (some .int) 0 0 [.inr (30, zwS w 30), .inl x_1] h qI (q_L_cell w h x_1) := by
  refine zCp.of (own := RL) (loc := [some (.inr (30, zwS w 30)), some (.inl x_1)]) (by decide) rfl (Nat.le_of_ble_eq_true rfl) (fun k v hk => ?_) ?_
  · exact zloc_ok 0 rfl hk
  intro p e s m args below meth c C Z1 Z2
  unfold q_L_cell
  refine p_iload_n C dL_cell_0 rfl ?_
  refine p_aload_n C dL_cell_1 rfl ?_
  refine p_xlen C dL_cell_2 ?_
  refine p_icmp_ge C dL_cell_3 (tgt := 12) (by decide) ?_ ?_
  · refine p_iconst C dL_cell_12 rfl ?_
    exact p_iret C Z1 Z2 dL_cell_13
  · refine p_aload_n C dL_cell_6 rfl ?_
    refine p_iload_n C dL_cell_7 rfl ?_
    refine p_xald C dL_cell_8 ?_
    refine p_goto C dL_cell_9 (tgt := 13) (by decide) ?_
    exact p_iret C Z1 Z2 dL_cell_13
def q_L_in (w : zW) (h : zH) (x_0 : Int) (x_1 : Int) : Option Int := zgz x_1 (some ((zand x_0 2147483647).tmod x_1))
theorem cq_L_in (w : zW) (l : Launch) (h : zH) (x_0 : Int) (x_1 : Int) : zCp w l yL_in cL_in 2 (some .int) 0 0 [.inl x_0, .inl x_1] h qI (q_L_in w h x_0 x_1) := by
  refine zCp.of (own := RL) (loc := [some (.inl x_0), some (.inl x_1)]) (by decide) rfl (Nat.le_of_ble_eq_true rfl) (fun k v hk => ?_) ?_
  · exact zloc_ok 0 rfl hk
  intro p e s m args below meth c C Z1 Z2
  unfold q_L_in
  refine p_iload_n C dL_in_0 rfl ?_
  refine p_ldc (n := 2147483647) C dL_in_1 (zmem 167 (by decide +kernel)) rfl ?_
  refine p_iand C dL_in_3 ?_
  refine p_iload_n C dL_in_4 rfl ?_
  refine p_irem C dL_in_5 ?_
  exact p_iret C Z1 Z2 dL_in_6
def q_L_stations (w : zW) (h : zH) : Option Int := zbp (q_L_cell w h 0) (fun x1 => zbp (q_L_in w h x1 4) (fun x2 => some (zw (2 + x2))))
theorem cq_L_stations (w : zW) (l : Launch) (h : zH) : zCp w l yL_stations cL_stations 1 (some .int) 1 21 [.inr (30, zwS w 30)] h qI (q_L_stations w h) := by
  refine zCp.of (own := RL) (loc := [some (.inr (30, zwS w 30))]) (by decide) rfl (Nat.le_of_ble_eq_true rfl) (fun k v hk => ?_) ?_
  · exact zloc_ok 0 rfl hk
  intro p e s m args below meth c C Z1 Z2
  unfold q_L_stations
  refine p_iconst C dL_stations_0 rfl ?_
  refine p_aload_n C dL_stations_1 rfl ?_
  refine p_iconst C dL_stations_2 rfl ?_
  refine p_pcallSI C dL_stations_3 msL_37 (cq_L_cell w l h _) rfl ⟨by decide, by decide⟩ ⟨rfl, Nat.le_of_ble_eq_true rfl⟩ (fun x1 => ?_)
  refine p_iconst C dL_stations_6 rfl ?_
  refine p_pcallSI C dL_stations_7 msL_43 (cq_L_in w l h _ _) rfl ⟨by decide, by decide⟩ ⟨rfl, Nat.le_of_ble_eq_true rfl⟩ (fun x2 => ?_)
  refine p_iadd C dL_stations_10 ?_
  exact p_iret C Z1 Z2 dL_stations_11
def q_L_carriers (w : zW) (h : zH) : Option Int := zbp (q_L_cell w h 0) (fun x1 => zgz 4 (zbp (q_L_in w h (zw (x1.tdiv 4)) 3) (fun x2 => some (zw (1 + x2)))))
theorem cq_L_carriers (w : zW) (l : Launch) (h : zH) : zCp w l yL_carriers cL_carriers 1 (some .int) 1 21 [.inr (30, zwS w 30)] h qI (q_L_carriers w h) := by
  refine zCp.of (own := RL) (loc := [some (.inr (30, zwS w 30))]) (by decide) rfl (Nat.le_of_ble_eq_true rfl) (fun k v hk => ?_) ?_
  · exact zloc_ok 0 rfl hk
  intro p e s m args below meth c C Z1 Z2
  unfold q_L_carriers
  refine p_iconst C dL_carriers_0 rfl ?_
  refine p_aload_n C dL_carriers_1 rfl ?_
  refine p_iconst C dL_carriers_2 rfl ?_
  refine p_pcallSI C dL_carriers_3 msL_37 (cq_L_cell w l h _) rfl ⟨by decide, by decide⟩ ⟨rfl, Nat.le_of_ble_eq_true rfl⟩ (fun x1 => ?_)
  refine p_iconst C dL_carriers_6 rfl ?_
  refine p_idiv C dL_carriers_7 ?_
  refine p_iconst C dL_carriers_8 rfl ?_
  refine p_pcallSI C dL_carriers_9 msL_43 (cq_L_in w l h _ _) rfl ⟨by decide, by decide⟩ ⟨rfl, Nat.le_of_ble_eq_true rfl⟩ (fun x2 => ?_)
  refine p_iadd C dL_carriers_12 ?_
  exact p_iret C Z1 Z2 dL_carriers_13
def q_L_length (w : zW) (h : zH) : Option Int := zbp (q_L_cell w h 0) (fun x1 => zgz 16 (zbp (q_L_in w h (zw (x1.tdiv 16)) 700) (fun x2 => some (zw (300 + x2)))))
theorem cq_L_length (w : zW) (l : Launch) (h : zH) : zCp w l yL_length cL_length 1 (some .int) 1 21 [.inr (30, zwS w 30)] h qI (q_L_length w h) := by
  refine zCp.of (own := RL) (loc := [some (.inr (30, zwS w 30))]) (by decide) rfl (Nat.le_of_ble_eq_true rfl) (fun k v hk => ?_) ?_
  · exact zloc_ok 0 rfl hk
  intro p e s m args below meth c C Z1 Z2
  unfold q_L_length
  refine p_sipush C dL_length_0 (by decide) rfl ?_
  refine p_aload_n C dL_length_3 rfl ?_
  refine p_iconst C dL_length_4 rfl ?_
  refine p_pcallSI C dL_length_5 msL_37 (cq_L_cell w l h _) rfl ⟨by decide, by decide⟩ ⟨rfl, Nat.le_of_ble_eq_true rfl⟩ (fun x1 => ?_)
  refine p_bipush C dL_length_8 (by decide) rfl ?_
  refine p_idiv C dL_length_10 ?_
  refine p_sipush C dL_length_11 (by decide) rfl ?_
  refine p_pcallSI C dL_length_14 msL_43 (cq_L_in w l h _ _) rfl ⟨by decide, by decide⟩ ⟨rfl, Nat.le_of_ble_eq_true rfl⟩ (fun x2 => ?_)
  refine p_iadd C dL_length_17 ?_
  exact p_iret C Z1 Z2 dL_length_18
def q_L_guard (w : zW) (h : zH) : Option Int := zbp (q_L_cell w h 0) (fun x1 => zgz 16384 (zbp (q_L_in w h (zw (x1.tdiv 16384)) 30) (fun x2 => some x2)))
theorem cq_L_guard (w : zW) (l : Launch) (h : zH) : zCp w l yL_guard cL_guard 1 (some .int) 1 21 [.inr (30, zwS w 30)] h qI (q_L_guard w h) := by
  refine zCp.of (own := RL) (loc := [some (.inr (30, zwS w 30))]) (by decide) rfl (Nat.le_of_ble_eq_true rfl) (fun k v hk => ?_) ?_
  · exact zloc_ok 0 rfl hk
  intro p e s m args below meth c C Z1 Z2
  unfold q_L_guard
  refine p_aload_n C dL_guard_0 rfl ?_
  refine p_iconst C dL_guard_1 rfl ?_
  refine p_pcallSI C dL_guard_2 msL_37 (cq_L_cell w l h _) rfl ⟨by decide, by decide⟩ ⟨rfl, Nat.le_of_ble_eq_true rfl⟩ (fun x1 => ?_)
  refine p_sipush C dL_guard_5 (by decide) rfl ?_
  refine p_idiv C dL_guard_8 ?_
  refine p_bipush C dL_guard_9 (by decide) rfl ?_
  refine p_pcallSI C dL_guard_11 msL_43 (cq_L_in w l h _ _) rfl ⟨by decide, by decide⟩ ⟨rfl, Nat.le_of_ble_eq_true rfl⟩ (fun x2 => ?_)
  exact p_iret C Z1 Z2 dL_guard_14
def q_L_delay (w : zW) (h : zH) (x_1 : Int) : Option Int := zbp (q_L_cell w h (zw (1 + x_1))) (fun x1 => zbp (q_L_in w h x1 2000) (fun x2 => some x2))
theorem cq_L_delay (w : zW) (l : Launch) (h : zH) (x_1 : Int) : zCp w l yL_delay cL_delay 2 (some .int) 1 21 [.inr (30, zwS w 30), .inl x_1] h qI (q_L_delay w h x_1) := by
  refine zCp.of (own := RL) (loc := [some (.inr (30, zwS w 30)), some (.inl x_1)]) (by decide) rfl (Nat.le_of_ble_eq_true rfl) (fun k v hk => ?_) ?_
  · exact zloc_ok 0 rfl hk
  intro p e s m args below meth c C Z1 Z2
  unfold q_L_delay
  refine p_aload_n C dL_delay_0 rfl ?_
  refine p_iconst C dL_delay_1 rfl ?_
  refine p_iload_n C dL_delay_2 rfl ?_
  refine p_iadd C dL_delay_3 ?_
  refine p_pcallSI C dL_delay_4 msL_37 (cq_L_cell w l h _) rfl ⟨by decide, by decide⟩ ⟨rfl, Nat.le_of_ble_eq_true rfl⟩ (fun x1 => ?_)
  refine p_sipush C dL_delay_7 (by decide) rfl ?_
  refine p_pcallSI C dL_delay_10 msL_43 (cq_L_in w l h _ _) rfl ⟨by decide, by decide⟩ ⟨rfl, Nat.le_of_ble_eq_true rfl⟩ (fun x2 => ?_)
  exact p_iret C Z1 Z2 dL_delay_13
def q_L_drift (w : zW) (h : zH) (x_1 : Int) : Option Int := zbp (q_L_cell w h (zw (1 + x_1))) (fun x1 => zgz 2048 (zbp (q_L_in w h (zw (x1.tdiv 2048)) 21) (fun x2 => some (zw (x2 - 10)))))
theorem cq_L_drift (w : zW) (l : Launch) (h : zH) (x_1 : Int) : zCp w l yL_drift cL_drift 2 (some .int) 1 21 [.inr (30, zwS w 30), .inl x_1] h qI (q_L_drift w h x_1) := by
  refine zCp.of (own := RL) (loc := [some (.inr (30, zwS w 30)), some (.inl x_1)]) (by decide) rfl (Nat.le_of_ble_eq_true rfl) (fun k v hk => ?_) ?_
  · exact zloc_ok 0 rfl hk
  intro p e s m args below meth c C Z1 Z2
  unfold q_L_drift
  refine p_aload_n C dL_drift_0 rfl ?_
  refine p_iconst C dL_drift_1 rfl ?_
  refine p_iload_n C dL_drift_2 rfl ?_
  refine p_iadd C dL_drift_3 ?_
  refine p_pcallSI C dL_drift_4 msL_37 (cq_L_cell w l h _) rfl ⟨by decide, by decide⟩ ⟨rfl, Nat.le_of_ble_eq_true rfl⟩ (fun x1 => ?_)
  refine p_sipush C dL_drift_7 (by decide) rfl ?_
  refine p_idiv C dL_drift_10 ?_
  refine p_bipush C dL_drift_11 (by decide) rfl ?_
  refine p_pcallSI C dL_drift_13 msL_43 (cq_L_in w l h _ _) rfl ⟨by decide, by decide⟩ ⟨rfl, Nat.le_of_ble_eq_true rfl⟩ (fun x2 => ?_)
  refine p_bipush C dL_drift_16 (by decide) rfl ?_
  refine p_isub C dL_drift_18 ?_
  exact p_iret C Z1 Z2 dL_drift_19
def q_L_nominal (w : zW) (h : zH) (x_1 : Int) : Option Int := zbp (q_L_cell w h (zw (1 + x_1))) (fun x1 => zgz 65536 (zbp (q_L_in w h (zw (x1.tdiv 65536)) 300) (fun x2 => some (zw (100 + x2)))))
theorem cq_L_nominal (w : zW) (l : Launch) (h : zH) (x_1 : Int) : zCp w l yL_nominal cL_nominal 2 (some .int) 1 21 [.inr (30, zwS w 30), .inl x_1] h qI (q_L_nominal w h x_1) := by
  refine zCp.of (own := RL) (loc := [some (.inr (30, zwS w 30)), some (.inl x_1)]) (by decide) rfl (Nat.le_of_ble_eq_true rfl) (fun k v hk => ?_) ?_
  · exact zloc_ok 0 rfl hk
  intro p e s m args below meth c C Z1 Z2
  unfold q_L_nominal
  refine p_bipush C dL_nominal_0 (by decide) rfl ?_
  refine p_aload_n C dL_nominal_2 rfl ?_
  refine p_iconst C dL_nominal_3 rfl ?_
  refine p_iload_n C dL_nominal_4 rfl ?_
  refine p_iadd C dL_nominal_5 ?_
  refine p_pcallSI C dL_nominal_6 msL_37 (cq_L_cell w l h _) rfl ⟨by decide, by decide⟩ ⟨rfl, Nat.le_of_ble_eq_true rfl⟩ (fun x1 => ?_)
  refine p_ldc (n := 65536) C dL_nominal_9 (zmem 177 (by decide +kernel)) rfl ?_
  refine p_idiv C dL_nominal_11 ?_
  refine p_sipush C dL_nominal_12 (by decide) rfl ?_
  refine p_pcallSI C dL_nominal_15 msL_43 (cq_L_in w l h _ _) rfl ⟨by decide, by decide⟩ ⟨rfl, Nat.le_of_ble_eq_true rfl⟩ (fun x2 => ?_)
  refine p_iadd C dL_nominal_18 ?_
  exact p_iret C Z1 Z2 dL_nominal_19
def q_L_greatest (w : zW) (h : zH) (x_1 : Int) : Option Int := zbp (q_L_nominal w h x_1) (fun x1 => zbp (q_L_cell w h (zw (1 + x_1))) (fun x2 => zbp (q_L_in w h (zshr x2 25) 60) (fun x3 => some (zw (x1 + x3)))))
theorem cq_L_greatest (w : zW) (l : Launch) (h : zH) (x_1 : Int) : zCp w l yL_greatest cL_greatest 2 (some .int) 2 42 [.inr (30, zwS w 30), .inl x_1] h qI (q_L_greatest w h x_1) := by
  refine zCp.of (own := RL) (loc := [some (.inr (30, zwS w 30)), some (.inl x_1)]) (by decide) rfl (Nat.le_of_ble_eq_true rfl) (fun k v hk => ?_) ?_
  · exact zloc_ok 0 rfl hk
  intro p e s m args below meth c C Z1 Z2
  unfold q_L_greatest
  refine p_aload_n C dL_greatest_0 rfl ?_
  refine p_iload_n C dL_greatest_1 rfl ?_
  refine p_pcallSI C dL_greatest_2 msL_48 (cq_L_nominal w l h _) rfl ⟨by decide, by decide⟩ ⟨rfl, Nat.le_of_ble_eq_true rfl⟩ (fun x1 => ?_)
  refine p_aload_n C dL_greatest_5 rfl ?_
  refine p_iconst C dL_greatest_6 rfl ?_
  refine p_iload_n C dL_greatest_7 rfl ?_
  refine p_iadd C dL_greatest_8 ?_
  refine p_pcallSI C dL_greatest_9 msL_37 (cq_L_cell w l h _) rfl ⟨by decide, by decide⟩ ⟨rfl, Nat.le_of_ble_eq_true rfl⟩ (fun x2 => ?_)
  refine p_bipush C dL_greatest_12 (by decide) rfl ?_
  refine p_ishr C dL_greatest_14 ?_
  refine p_bipush C dL_greatest_15 (by decide) rfl ?_
  refine p_pcallSI C dL_greatest_17 msL_43 (cq_L_in w l h _ _) rfl ⟨by decide, by decide⟩ ⟨rfl, Nat.le_of_ble_eq_true rfl⟩ (fun x3 => ?_)
  refine p_iadd C dL_greatest_20 ?_
  exact p_iret C Z1 Z2 dL_greatest_21
def q_L_rains (w : zW) (h : zH) : Option Int := zbp (q_L_cell w h 0) (fun x1 => zgz 1048576 (zbp (q_L_in w h (zw (x1.tdiv 1048576)) 4) (fun x2 => some x2)))
theorem cq_L_rains (w : zW) (l : Launch) (h : zH) : zCp w l yL_rains cL_rains 1 (some .int) 1 21 [.inr (30, zwS w 30)] h qI (q_L_rains w h) := by
  refine zCp.of (own := RL) (loc := [some (.inr (30, zwS w 30))]) (by decide) rfl (Nat.le_of_ble_eq_true rfl) (fun k v hk => ?_) ?_
  · exact zloc_ok 0 rfl hk
  intro p e s m args below meth c C Z1 Z2
  unfold q_L_rains
  refine p_aload_n C dL_rains_0 rfl ?_
  refine p_iconst C dL_rains_1 rfl ?_
  refine p_pcallSI C dL_rains_2 msL_37 (cq_L_cell w l h _) rfl ⟨by decide, by decide⟩ ⟨rfl, Nat.le_of_ble_eq_true rfl⟩ (fun x1 => ?_)
  refine p_ldc (n := 1048576) C dL_rains_5 (zmem 757 (by decide +kernel)) rfl ?_
  refine p_idiv C dL_rains_7 ?_
  refine p_iconst C dL_rains_8 rfl ?_
  refine p_pcallSI C dL_rains_9 msL_43 (cq_L_in w l h _ _) rfl ⟨by decide, by decide⟩ ⟨rfl, Nat.le_of_ble_eq_true rfl⟩ (fun x2 => ?_)
  exact p_iret C Z1 Z2 dL_rains_12
def q_L_rain1 (w : zW) (h : zH) (x_1 : Int) : Option Int := zbp (q_L_cell w h (zw (6 + x_1))) (fun x1 => if (1 : Int) = 0 then (none) else (if (1 : Int) = 1 then (zgz 8 (zbp (q_L_in w h (zw (x1.tdiv 8)) 15) (fun x2 => some x2))) else (none)))
theorem cq_L_rain1 (w : zW) (l : Launch) (h : zH) (x_1 : Int) : zCp w l yL_rain cL_rain 4 (some .int) 2 41 [.inr (30, zwS w 30), .inl x_1, .inl 1] h qI (q_L_rain1 w h x_1) := by
  refine zCp.of (own := RL) (loc := [some (.inr (30, zwS w 30)), some (.inl x_1), some (.inl 1), none]) (by decide) rfl (Nat.le_of_ble_eq_true rfl) (fun k v hk => ?_) ?_
  · exact zloc_ok 1 rfl hk
  intro p e s m args below meth c C Z1 Z2
  unfold q_L_rain1
  refine p_aload_n C dL_rain_0 rfl ?_
  refine p_bipush C dL_rain_1 (by decide) rfl ?_
  refine p_iload_n C dL_rain_3 rfl ?_
  refine p_iadd C dL_rain_4 ?_
  refine p_pcallSI C dL_rain_5 msL_37 (cq_L_cell w l h _) rfl ⟨by decide, by decide⟩ ⟨rfl, Nat.le_of_ble_eq_true rfl⟩ (fun x1 => ?_)
  refine p_istore_n C dL_rain_8 (by decide) ?_
  refine p_iload_n C dL_rain_9 rfl ?_
  refine p_if_ne C dL_rain_10 (tgt := 24) (by decide) ?_ ?_
  · refine p_iload_n C dL_rain_24 rfl ?_
    refine p_iconst C dL_rain_25 rfl ?_
    refine p_icmp_ne C dL_rain_26 (tgt := 41) (by decide) ?_ ?_
    · exact p_none
    · refine p_iload_n C dL_rain_29 rfl ?_
      refine p_bipush C dL_rain_30 (by decide) rfl ?_
      refine p_idiv C dL_rain_32 ?_
      refine p_bipush C dL_rain_33 (by decide) rfl ?_
      refine p_pcallSI C dL_rain_35 msL_43 (cq_L_in w l h _ _) rfl ⟨by decide, by decide⟩ ⟨rfl, Nat.le_of_ble_eq_true rfl⟩ (fun x2 => ?_)
      refine p_goto C dL_rain_38 (tgt := 79) (by decide) ?_
      exact p_iret C Z1 Z2 dL_rain_79
  · exact p_none
def q_L_rain (w : zW) (h : zH) (x_1 : Int) (x_2 : Int) : Option Int := zbp (q_L_cell w h (zw (6 + x_1))) (fun x1 => if x_2 = 0 then (zbp (q_L_stations w h) (fun x6 => zbp (q_L_in w h x1 x6) (fun x7 => some x7))) else (if x_2 = 1 then (zgz 8 (zbp (q_L_in w h (zw (x1.tdiv 8)) 15) (fun x5 => some x5))) else (if x_2 = 2 then (zbp (q_L_rain1 w h x_1) (fun x3 => zgz 128 (zbp (q_L_in w h (zw (x1.tdiv 128)) 15) (fun x4 => some (zw (x3 + x4)))))) else (zgz 2048 (zbp (q_L_in w h (zw (x1.tdiv 2048)) 150) (fun x2 => some (zw (1 + x2))))))))
theorem cq_L_rain (w : zW) (l : Launch) (h : zH) (x_1 : Int) (x_2 : Int) : zCp w l yL_rain cL_rain 4 (some .int) 3 64 [.inr (30, zwS w 30), .inl x_1, .inl x_2] h qI (q_L_rain w h x_1 x_2) := by
  refine zCp.of (own := RL) (loc := [some (.inr (30, zwS w 30)), some (.inl x_1), some (.inl x_2), none]) (by decide) rfl (Nat.le_of_ble_eq_true rfl) (fun k v hk => ?_) ?_
  · exact zloc_ok 1 rfl hk
  intro p e s m args below meth c C Z1 Z2
  unfold q_L_rain
  refine p_aload_n C dL_rain_0 rfl ?_
  refine p_bipush C dL_rain_1 (by decide) rfl ?_
  refine p_iload_n C dL_rain_3 rfl ?_
  refine p_iadd C dL_rain_4 ?_
  refine p_pcallSI C dL_rain_5 msL_37 (cq_L_cell w l h _) rfl ⟨by decide, by decide⟩ ⟨rfl, Nat.le_of_ble_eq_true rfl⟩ (fun x1 => ?_)
  refine p_istore_n C dL_rain_8 (by decide) ?_
  refine p_iload_n C dL_rain_9 rfl ?_
  refine p_if_ne C dL_rain_10 (tgt := 24) (by decide) ?_ ?_
  · refine p_iload_n C dL_rain_24 rfl ?_
    refine p_iconst C dL_rain_25 rfl ?_
    refine p_icmp_ne C dL_rain_26 (tgt := 41) (by decide) ?_ ?_
    · refine p_iload_n C dL_rain_41 rfl ?_
      refine p_iconst C dL_rain_42 rfl ?_
      refine p_icmp_ne C dL_rain_43 (tgt := 66) (by decide) ?_ ?_
      · refine p_iconst C dL_rain_66 rfl ?_
        refine p_iload_n C dL_rain_67 rfl ?_
        refine p_sipush C dL_rain_68 (by decide) rfl ?_
        refine p_idiv C dL_rain_71 ?_
        refine p_sipush C dL_rain_72 (by decide) rfl ?_
        refine p_pcallSI C dL_rain_75 msL_43 (cq_L_in w l h _ _) rfl ⟨by decide, by decide⟩ ⟨rfl, Nat.le_of_ble_eq_true rfl⟩ (fun x2 => ?_)
        refine p_iadd C dL_rain_78 ?_
        exact p_iret C Z1 Z2 dL_rain_79
      · refine p_aload_n C dL_rain_46 rfl ?_
        refine p_iload_n C dL_rain_47 rfl ?_
        refine p_iconst C dL_rain_48 rfl ?_
        refine p_pcallSI C dL_rain_49 msL_56 (cq_L_rain1 w l h _) rfl ⟨by decide, by decide⟩ ⟨rfl, Nat.le_of_ble_eq_true rfl⟩ (fun x3 => ?_)
        refine p_iload_n C dL_rain_52 rfl ?_
        refine p_sipush C dL_rain_53 (by decide) rfl ?_
        refine p_idiv C dL_rain_56 ?_
        refine p_bipush C dL_rain_57 (by decide) rfl ?_
        refine p_pcallSI C dL_rain_59 msL_43 (cq_L_in w l h _ _) rfl ⟨by decide, by decide⟩ ⟨rfl, Nat.le_of_ble_eq_true rfl⟩ (fun x4 => ?_)
        refine p_iadd C dL_rain_62 ?_
        refine p_goto C dL_rain_63 (tgt := 79) (by decide) ?_
        exact p_iret C Z1 Z2 dL_rain_79
    · refine p_iload_n C dL_rain_29 rfl ?_
      refine p_bipush C dL_rain_30 (by decide) rfl ?_
      refine p_idiv C dL_rain_32 ?_
      refine p_bipush C dL_rain_33 (by decide) rfl ?_
      refine p_pcallSI C dL_rain_35 msL_43 (cq_L_in w l h _ _) rfl ⟨by decide, by decide⟩ ⟨rfl, Nat.le_of_ble_eq_true rfl⟩ (fun x5 => ?_)
      refine p_goto C dL_rain_38 (tgt := 79) (by decide) ?_
      exact p_iret C Z1 Z2 dL_rain_79
  · refine p_iload_n C dL_rain_13 rfl ?_
    refine p_aload_n C dL_rain_14 rfl ?_
    refine p_pcallSI C dL_rain_15 msL_52 (cq_L_stations w l h) rfl ⟨by decide, by decide⟩ ⟨rfl, Nat.le_of_ble_eq_true rfl⟩ (fun x6 => ?_)
    refine p_pcallSI C dL_rain_18 msL_43 (cq_L_in w l h _ _) rfl ⟨by decide, by decide⟩ ⟨rfl, Nat.le_of_ble_eq_true rfl⟩ (fun x7 => ?_)
    refine p_goto C dL_rain_21 (tgt := 79) (by decide) ?_
    exact p_iret C Z1 Z2 dL_rain_79
def q_L_calls (w : zW) (h : zH) : Option Int := zbp (q_L_cell w h 9) (fun x1 => zbp (q_L_in w h x1 5) (fun x2 => some x2))
theorem cq_L_calls (w : zW) (l : Launch) (h : zH) : zCp w l yL_calls cL_calls 1 (some .int) 1 21 [.inr (30, zwS w 30)] h qI (q_L_calls w h) := by
  refine zCp.of (own := RL) (loc := [some (.inr (30, zwS w 30))]) (by decide) rfl (Nat.le_of_ble_eq_true rfl) (fun k v hk => ?_) ?_
  · exact zloc_ok 0 rfl hk
  intro p e s m args below meth c C Z1 Z2
  unfold q_L_calls
  refine p_aload_n C dL_calls_0 rfl ?_
  refine p_bipush C dL_calls_1 (by decide) rfl ?_
  refine p_pcallSI C dL_calls_3 msL_37 (cq_L_cell w l h _) rfl ⟨by decide, by decide⟩ ⟨rfl, Nat.le_of_ble_eq_true rfl⟩ (fun x1 => ?_)
  refine p_iconst C dL_calls_6 rfl ?_
  refine p_pcallSI C dL_calls_7 msL_43 (cq_L_in w l h _ _) rfl ⟨by decide, by decide⟩ ⟨rfl, Nat.le_of_ble_eq_true rfl⟩ (fun x2 => ?_)
  exact p_iret C Z1 Z2 dL_calls_10
def q_L_call (w : zW) (h : zH) (x_1 : Int) (x_2 : Int) : Option Int := zbp (q_L_cell w h (zw (10 + x_1))) (fun x1 => zbp (q_L_stations w h) (fun x2 => zbp (q_L_in w h x1 x2) (fun x3 => if x_2 = 0 then (some x3) else (if x_2 = 1 then (zgz 8 (zbp (q_L_stations w h) (fun x7 => zbp (q_L_in w h (zw (x1.tdiv 8)) (zw (x7 - 1))) (fun x8 => zbp (q_L_stations w h) (fun x9 => zgz x9 (some ((zw (zw (x3 + 1) + x8)).tmod x9))))))) else (if x_2 = 2 then (zgz 64 (zbp (q_L_in w h (zw (x1.tdiv 64)) 4) (fun x6 => some x6))) else (if x_2 = 3 then (zgz 256 (zbp (q_L_in w h (zw (x1.tdiv 256)) 250) (fun x5 => some (zw (1 + x5))))) else (zgz 65536 (zbp (q_L_in w h (zw (x1.tdiv 65536)) 20) (fun x4 => some (zw (1 + x4)))))))))))
theorem cq_L_call (w : zW) (l : Launch) (h : zH) (x_1 : Int) (x_2 : Int) : zCp w l yL_call cL_call 5 (some .int) 2 41 [.inr (30, zwS w 30), .inl x_1, .inl x_2] h qI (q_L_call w h x_1 x_2) := by
  refine zCp.of (own := RL) (loc := [some (.inr (30, zwS w 30)), some (.inl x_1), some (.inl x_2), none, none]) (by decide) rfl (Nat.le_of_ble_eq_true rfl) (fun k v hk => ?_) ?_
  · exact zloc_ok 2 rfl hk
  intro p e s m args below meth c C Z1 Z2
  unfold q_L_call
  refine p_aload_n C dL_call_0 rfl ?_
  refine p_bipush C dL_call_1 (by decide) rfl ?_
  refine p_iload_n C dL_call_3 rfl ?_
  refine p_iadd C dL_call_4 ?_
  refine p_pcallSI C dL_call_5 msL_37 (cq_L_cell w l h _) rfl ⟨by decide, by decide⟩ ⟨rfl, Nat.le_of_ble_eq_true rfl⟩ (fun x1 => ?_)
  refine p_istore_n C dL_call_8 (by decide) ?_
  refine p_iload_n C dL_call_9 rfl ?_
  refine p_aload_n C dL_call_10 rfl ?_
  refine p_pcallSI C dL_call_11 msL_52 (cq_L_stations w l h) rfl ⟨by decide, by decide⟩ ⟨rfl, Nat.le_of_ble_eq_true rfl⟩ (fun x2 => ?_)
  refine p_pcallSI C dL_call_14 msL_43 (cq_L_in w l h _ _) rfl ⟨by decide, by decide⟩ ⟨rfl, Nat.le_of_ble_eq_true rfl⟩ (fun x3 => ?_)
  refine p_istore C dL_call_17 (by decide) ?_
  refine p_iload_n C dL_call_19 rfl ?_
  refine p_if_ne C dL_call_20 (tgt := 28) (by decide) ?_ ?_
  · refine p_iload_n C dL_call_28 rfl ?_
    refine p_iconst C dL_call_29 rfl ?_
    refine p_icmp_ne C dL_call_30 (tgt := 59) (by decide) ?_ ?_
    · refine p_iload_n C dL_call_59 rfl ?_
      refine p_iconst C dL_call_60 rfl ?_
      refine p_icmp_ne C dL_call_61 (tgt := 75) (by decide) ?_ ?_
      · refine p_iload_n C dL_call_75 rfl ?_
        refine p_iconst C dL_call_76 rfl ?_
        refine p_icmp_ne C dL_call_77 (tgt := 96) (by decide) ?_ ?_
        · refine p_iconst C dL_call_96 rfl ?_
          refine p_iload_n C dL_call_97 rfl ?_
          refine p_ldc (n := 65536) C dL_call_98 (zmem 177 (by decide +kernel)) rfl ?_
          refine p_idiv C dL_call_100 ?_
          refine p_bipush C dL_call_101 (by decide) rfl ?_
          refine p_pcallSI C dL_call_103 msL_43 (cq_L_in w l h _ _) rfl ⟨by decide, by decide⟩ ⟨rfl, Nat.le_of_ble_eq_true rfl⟩ (fun x4 => ?_)
          refine p_iadd C dL_call_106 ?_
          exact p_iret C Z1 Z2 dL_call_107
        · refine p_iconst C dL_call_80 rfl ?_
          refine p_iload_n C dL_call_81 rfl ?_
          refine p_sipush C dL_call_82 (by decide) rfl ?_
          refine p_idiv C dL_call_85 ?_
          refine p_sipush C dL_call_86 (by decide) rfl ?_
          refine p_pcallSI C dL_call_89 msL_43 (cq_L_in w l h _ _) rfl ⟨by decide, by decide⟩ ⟨rfl, Nat.le_of_ble_eq_true rfl⟩ (fun x5 => ?_)
          refine p_iadd C dL_call_92 ?_
          refine p_goto C dL_call_93 (tgt := 107) (by decide) ?_
          exact p_iret C Z1 Z2 dL_call_107
      · refine p_iload_n C dL_call_64 rfl ?_
        refine p_bipush C dL_call_65 (by decide) rfl ?_
        refine p_idiv C dL_call_67 ?_
        refine p_iconst C dL_call_68 rfl ?_
        refine p_pcallSI C dL_call_69 msL_43 (cq_L_in w l h _ _) rfl ⟨by decide, by decide⟩ ⟨rfl, Nat.le_of_ble_eq_true rfl⟩ (fun x6 => ?_)
        refine p_goto C dL_call_72 (tgt := 107) (by decide) ?_
        exact p_iret C Z1 Z2 dL_call_107
    · refine p_iload C dL_call_33 rfl ?_
      refine p_iconst C dL_call_35 rfl ?_
      refine p_iadd C dL_call_36 ?_
      refine p_iload_n C dL_call_37 rfl ?_
      refine p_bipush C dL_call_38 (by decide) rfl ?_
      refine p_idiv C dL_call_40 ?_
      refine p_aload_n C dL_call_41 rfl ?_
      refine p_pcallSI C dL_call_42 msL_52 (cq_L_stations w l h) rfl ⟨by decide, by decide⟩ ⟨rfl, Nat.le_of_ble_eq_true rfl⟩ (fun x7 => ?_)
      refine p_iconst C dL_call_45 rfl ?_
      refine p_isub C dL_call_46 ?_
      refine p_pcallSI C dL_call_47 msL_43 (cq_L_in w l h _ _) rfl ⟨by decide, by decide⟩ ⟨rfl, Nat.le_of_ble_eq_true rfl⟩ (fun x8 => ?_)
      refine p_iadd C dL_call_50 ?_
      refine p_aload_n C dL_call_51 rfl ?_
      refine p_pcallSI C dL_call_52 msL_52 (cq_L_stations w l h) rfl ⟨by decide, by decide⟩ ⟨rfl, Nat.le_of_ble_eq_true rfl⟩ (fun x9 => ?_)
      refine p_irem C dL_call_55 ?_
      refine p_goto C dL_call_56 (tgt := 107) (by decide) ?_
      exact p_iret C Z1 Z2 dL_call_107
  · refine p_iload C dL_call_23 rfl ?_
    refine p_goto C dL_call_25 (tgt := 107) (by decide) ?_
    exact p_iret C Z1 Z2 dL_call_107
def q_L_fade_L5 (w : zW) (h : zH) (i1 : Int) (i2 : Int) (k : Int → Int → Option Int) : Nat → Int → Int → Option Int
  | 0, _, _ => none
  | n + 1, i3, i4 => zbp (q_L_rains w h) (fun x1 => if x1 ≤ i4 then (k i3 i4) else (zbp (q_L_rain w h i4 0) (fun x2 => if x2 = i1 then (zbp (q_L_rain w h i4 1) (fun x5 => if i2 < x5 then (zlet (zw (i3 + 0)) (fun x6 => zlet (zw (i4 + 1)) (fun x7 => q_L_fade_L5 w h i1 i2 k n x6 x7))) else (zbp (q_L_rain w h i4 2) (fun x8 => if x8 < i2 then (zlet (zw (i3 + 0)) (fun x9 => zlet (zw (i4 + 1)) (fun x10 => q_L_fade_L5 w h i1 i2 k n x9 x10))) else (zbp (q_L_rain w h i4 3) (fun x11 => zlet (zw (i3 + x11)) (fun x12 => zlet (zw (i4 + 1)) (fun x13 => q_L_fade_L5 w h i1 i2 k n x12 x13)))))))) else (zlet (zw (i3 + 0)) (fun x3 => zlet (zw (i4 + 1)) (fun x4 => q_L_fade_L5 w h i1 i2 k n x3 x4))))))
def q_L_fade (w : zW) (h : zH) (x_1 : Int) (x_2 : Int) : Option Int := q_L_fade_L5 w h x_1 x_2 (fun x14 x15 => some x14) zF 0 0
theorem cq_L_fade (w : zW) (l : Launch) (h : zH) (x_1 : Int) (x_2 : Int) : zCp w l yL_fade cL_fade 5 (some .int) 4 87 [.inr (30, zwS w 30), .inl x_1, .inl x_2] h qI (q_L_fade w h x_1 x_2) := by
  refine zCp.of (own := RL) (loc := [some (.inr (30, zwS w 30)), some (.inl x_1), some (.inl x_2), none, none]) (by decide) rfl (Nat.le_of_ble_eq_true rfl) (fun k v hk => ?_) ?_
  · exact zloc_ok 2 rfl hk
  intro p e s m args below meth c C Z1 Z2
  have L5 : ∀ (i1 : Int) (i2 : Int) (k : Int → Int → Option Int) (hk : ∀ (i3 : Int) (i4 : Int), zQP w p l e (zRm 4 87) s m args below meth c 5 qI (k i3 i4) 67 [some (.inr (30, zwS w 30)), some (.inl i1), some (.inl i2), some (.inl i3), some (.inl i4)] [] h) (n : Nat) (i3 : Int) (i4 : Int), zQP w p l e (zRm 4 87) s m args below meth c 5 qI (q_L_fade_L5 w h i1 i2 k n i3 i4) 5 [some (.inr (30, zwS w 30)), some (.inl i1), some (.inl i2), some (.inl i3), some (.inl i4)] [] h := by
    intro i1 i2 k hk n
    induction n with
    | zero =>
      intro i3 i4
      exact p_none
    | succ n ih =>
      intro i3 i4
      rw [q_L_fade_L5]
      refine p_iload C dL_fade_5 rfl ?_
      refine p_aload_n C dL_fade_7 rfl ?_
      refine p_pcallSI C dL_fade_8 msL_111 (cq_L_rains w l h) rfl ⟨by decide, by decide⟩ ⟨rfl, Nat.le_of_ble_eq_true rfl⟩ (fun x1 => ?_)
      refine p_icmp_ge C dL_fade_11 (tgt := 67) (by decide) ?_ ?_
      · exact hk i3 i4
      · refine p_iload_n C dL_fade_14 rfl ?_
        refine p_aload_n C dL_fade_15 rfl ?_
        refine p_iload C dL_fade_16 rfl ?_
        refine p_iconst C dL_fade_18 rfl ?_
        refine p_pcallSI C dL_fade_19 msL_56 (cq_L_rain w l h _ _) rfl ⟨by decide, by decide⟩ ⟨rfl, Nat.le_of_ble_eq_true rfl⟩ (fun x2 => ?_)
        refine p_iload_n C dL_fade_22 rfl ?_
        refine p_icmp_ne C dL_fade_23 (tgt := 58) (by decide) ?_ ?_
        · refine p_iconst C dL_fade_58 rfl ?_
          refine p_iadd C dL_fade_59 ?_
          refine p_istore_nL C dL_fade_60 (by decide) (fun x3 => ?_)
          refine p_iincL C dL_fade_61 rfl (by decide) (fun x4 => ?_)
          refine p_goto C dL_fade_64 (tgt := 5) (by decide) ?_
          exact ih x3 x4
        · refine p_iload_n C dL_fade_26 rfl ?_
          refine p_aload_n C dL_fade_27 rfl ?_
          refine p_iload C dL_fade_28 rfl ?_
          refine p_iconst C dL_fade_30 rfl ?_
          refine p_pcallSI C dL_fade_31 msL_56 (cq_L_rain w l h _ _) rfl ⟨by decide, by decide⟩ ⟨rfl, Nat.le_of_ble_eq_true rfl⟩ (fun x5 => ?_)
          refine p_icmp_lt C dL_fade_34 (tgt := 58) (by decide) ?_ ?_
          · refine p_iconst C dL_fade_58 rfl ?_
            refine p_iadd C dL_fade_59 ?_
            refine p_istore_nL C dL_fade_60 (by decide) (fun x6 => ?_)
            refine p_iincL C dL_fade_61 rfl (by decide) (fun x7 => ?_)
            refine p_goto C dL_fade_64 (tgt := 5) (by decide) ?_
            exact ih x6 x7
          · refine p_iload_n C dL_fade_37 rfl ?_
            refine p_aload_n C dL_fade_38 rfl ?_
            refine p_iload C dL_fade_39 rfl ?_
            refine p_iconst C dL_fade_41 rfl ?_
            refine p_pcallSI C dL_fade_42 msL_56 (cq_L_rain w l h _ _) rfl ⟨by decide, by decide⟩ ⟨rfl, Nat.le_of_ble_eq_true rfl⟩ (fun x8 => ?_)
            refine p_icmp_gt C dL_fade_45 (tgt := 58) (by decide) ?_ ?_
            · refine p_iconst C dL_fade_58 rfl ?_
              refine p_iadd C dL_fade_59 ?_
              refine p_istore_nL C dL_fade_60 (by decide) (fun x9 => ?_)
              refine p_iincL C dL_fade_61 rfl (by decide) (fun x10 => ?_)
              refine p_goto C dL_fade_64 (tgt := 5) (by decide) ?_
              exact ih x9 x10
            · refine p_aload_n C dL_fade_48 rfl ?_
              refine p_iload C dL_fade_49 rfl ?_
              refine p_iconst C dL_fade_51 rfl ?_
              refine p_pcallSI C dL_fade_52 msL_56 (cq_L_rain w l h _ _) rfl ⟨by decide, by decide⟩ ⟨rfl, Nat.le_of_ble_eq_true rfl⟩ (fun x11 => ?_)
              refine p_goto C dL_fade_55 (tgt := 59) (by decide) ?_
              refine p_iadd C dL_fade_59 ?_
              refine p_istore_nL C dL_fade_60 (by decide) (fun x12 => ?_)
              refine p_iincL C dL_fade_61 rfl (by decide) (fun x13 => ?_)
              refine p_goto C dL_fade_64 (tgt := 5) (by decide) ?_
              exact ih x12 x13
  unfold q_L_fade
  refine p_iconst C dL_fade_0 rfl ?_
  refine p_istore_n C dL_fade_1 (by decide) ?_
  refine p_iconst C dL_fade_2 rfl ?_
  refine p_istore C dL_fade_3 (by decide) ?_
  refine L5 x_1 x_2 _ ?_ zF 0 0
  intro x14 x15
  refine p_iload_n C dL_fade_67 rfl ?_
  exact p_iret C Z1 Z2 dL_fade_68
def q_L_changes (w : zW) (h : zH) (a_0 : Nat) (x_2 : Int) : Option (Unit × zH) := zgz 8 (zbp (q_L_stations w h) (fun x1 => zbp (q_L_in w h (zw (x_2.tdiv 8)) x1) (fun x2 => zbp (q_L_in w h x_2 8) (fun x3 => if x3 = 0 then (zgz 64 (zbp (q_L_stations w h) (fun x4 => zbp (q_L_in w h (zw (x_2.tdiv 64)) (zw (x4 - 1))) (fun x5 => zbp (q_L_stations w h) (fun x6 => zgz x6 (zgz 512 (zbp (q_L_in w h (zw (x_2.tdiv 512)) 4) (fun x7 => zgz 2048 (zbp (q_L_in w h (zw (x_2.tdiv 2048)) 250) (fun x8 => zgz 524288 (zbp (q_L_in w h (zw (x_2.tdiv 524288)) 20) (fun x9 => zbd (q_X7_request h a_0 x2 ((zw (zw (x2 + 1) + x5)).tmod x6) x7 (zw (1 + x8)) (zw (1 + x9))) (fun x10 h11 => some ((), h11)))))))))))))) else (if x3 = 1 then (zgz 64 (zbp (q_L_stations w h) (fun x12 => zbp (q_L_in w h (zw (x_2.tdiv 64)) (zw (x12 - 1))) (fun x13 => zbp (q_L_stations w h) (fun x14 => zgz x14 (zgz 512 (zbp (q_L_in w h (zw (x_2.tdiv 512)) 4) (fun x15 => zgz 2048 (zbp (q_L_in w h (zw (x_2.tdiv 2048)) 250) (fun x16 => zgz 524288 (zbp (q_L_in w h (zw (x_2.tdiv 524288)) 20) (fun x17 => zbd (q_X7_request h a_0 x2 ((zw (zw (x2 + 1) + x13)).tmod x14) x15 (zw (1 + x16)) (zw (1 + x17))) (fun x18 h19 => some ((), h19)))))))))))))) else (if x3 = 2 then (zgz 64 (zbp (q_L_stations w h) (fun x20 => zbp (q_L_in w h (zw (x_2.tdiv 64)) (zw (x20 - 1))) (fun x21 => zbp (q_L_stations w h) (fun x22 => zgz x22 (zgz 512 (zbp (q_L_in w h (zw (x_2.tdiv 512)) 4) (fun x23 => zgz 2048 (zbp (q_L_in w h (zw (x_2.tdiv 2048)) 250) (fun x24 => zgz 524288 (zbp (q_L_in w h (zw (x_2.tdiv 524288)) 20) (fun x25 => zbd (q_X7_request h a_0 x2 ((zw (zw (x2 + 1) + x21)).tmod x22) x23 (zw (1 + x24)) (zw (1 + x25))) (fun x26 h27 => some ((), h27)))))))))))))) else (if x3 = 3 then (zgz 64 (zbp (q_X7_callCount h a_0) (fun x28 => zbp (q_L_in w h (zw (x_2.tdiv 64)) (zmax 1 x28)) (fun x29 => zbd (q_X7_release h a_0 x29) (fun x30 h31 => some ((), h31)))))) else (if x3 = 4 then (zgz 64 (zbp (q_L_in w h (zw (x_2.tdiv 64)) 6) (fun x32 => zbd (q_X7_advance h a_0 (zw (1 + x32))) (fun x33 h34 => some ((), h34))))) else (if x3 = 5 then (zgz 64 (zbp (q_L_in w h (zw (x_2.tdiv 64)) 3) (fun x35 => zgz 256 (zbp (q_L_in w h (zw (x_2.tdiv 256)) 90) (fun x36 => zbd (q_X7_setSetting h a_0 (zw (4 + x35)) (zw (1 + x36))) (fun x37 h38 => some ((), h38))))))) else (if x3 = 6 then (zbd (q_X7_acquire h a_0 x2) (fun x39 h40 => some ((), h40))) else (zbd (q_X7_compact h a_0) (fun x41 h42 => some ((), h42)))))))))))))
theorem cq_L_changes (w : zW) (l : Launch) (h : zH) (a_0 : Nat) (x_2 : Int) : zCq w l yL_changes cL_changes 4 none 8 214 [.inr (7, a_0), .inr (30, zwS w 30), .inl x_2] h qU (q_L_changes w h a_0 x_2) := by
  refine zCq.of (own := RL) (loc := [some (.inr (7, a_0)), some (.inr (30, zwS w 30)), some (.inl x_2), none]) (by decide) rfl (Nat.le_of_ble_eq_true rfl) (fun k v hk => ?_) ?_
  · exact zloc_ok 1 rfl hk
  intro p e s m args below meth c C Z1 Z2
  unfold q_L_changes
  refine q_iload_n C dL_changes_0 rfl ?_
  refine q_bipush C dL_changes_1 (by decide) rfl ?_
  refine q_idiv C dL_changes_3 ?_
  refine q_aload_n C dL_changes_4 rfl ?_
  refine q_pcallSI C dL_changes_5 msL_52 (cq_L_stations w l h) rfl ⟨by decide, by decide⟩ ⟨rfl, Nat.le_of_ble_eq_true rfl⟩ (fun x1 => ?_)
  refine q_pcallSI C dL_changes_8 msL_43 (cq_L_in w l h _ _) rfl ⟨by decide, by decide⟩ ⟨rfl, Nat.le_of_ble_eq_true rfl⟩ (fun x2 => ?_)
  refine q_istore_n C dL_changes_11 (by decide) ?_
  refine q_iload_n C dL_changes_12 rfl ?_
  refine q_bipush C dL_changes_13 (by decide) rfl ?_
  refine q_pcallSI C dL_changes_15 msL_43 (cq_L_in w l h _ _) rfl ⟨by decide, by decide⟩ ⟨rfl, Nat.le_of_ble_eq_true rfl⟩ (fun x3 => ?_)
  refine q_tsw7 (t0 := 60) (t1 := 60) (t2 := 60) (t3 := 124) (t4 := 147) (t5 := 166) (t6 := 196) (td := 205) C dL_changes_18 ⟨by decide, by decide, by decide, by decide, by decide, by decide, by decide, by decide⟩ ?_ ?_ ?_ ?_ ?_ ?_ ?_ ?_
  · refine q_aload_n C dL_changes_60 rfl ?_
    refine q_iload_n C dL_changes_61 rfl ?_
    refine q_iload_n C dL_changes_62 rfl ?_
    refine q_iconst C dL_changes_63 rfl ?_
    refine q_iadd C dL_changes_64 ?_
    refine q_iload_n C dL_changes_65 rfl ?_
    refine q_bipush C dL_changes_66 (by decide) rfl ?_
    refine q_idiv C dL_changes_68 ?_
    refine q_aload_n C dL_changes_69 rfl ?_
    refine q_pcallSI C dL_changes_70 msL_52 (cq_L_stations w l h) rfl ⟨by decide, by decide⟩ ⟨rfl, Nat.le_of_ble_eq_true rfl⟩ (fun x4 => ?_)
    refine q_iconst C dL_changes_73 rfl ?_
    refine q_isub C dL_changes_74 ?_
    refine q_pcallSI C dL_changes_75 msL_43 (cq_L_in w l h _ _) rfl ⟨by decide, by decide⟩ ⟨rfl, Nat.le_of_ble_eq_true rfl⟩ (fun x5 => ?_)
    refine q_iadd C dL_changes_78 ?_
    refine q_aload_n C dL_changes_79 rfl ?_
    refine q_pcallSI C dL_changes_80 msL_52 (cq_L_stations w l h) rfl ⟨by decide, by decide⟩ ⟨rfl, Nat.le_of_ble_eq_true rfl⟩ (fun x6 => ?_)
    refine q_irem C dL_changes_83 ?_
    refine q_iload_n C dL_changes_84 rfl ?_
    refine q_sipush C dL_changes_85 (by decide) rfl ?_
    refine q_idiv C dL_changes_88 ?_
    refine q_iconst C dL_changes_89 rfl ?_
    refine q_pcallSI C dL_changes_90 msL_43 (cq_L_in w l h _ _) rfl ⟨by decide, by decide⟩ ⟨rfl, Nat.le_of_ble_eq_true rfl⟩ (fun x7 => ?_)
    refine q_iconst C dL_changes_93 rfl ?_
    refine q_iload_n C dL_changes_94 rfl ?_
    refine q_sipush C dL_changes_95 (by decide) rfl ?_
    refine q_idiv C dL_changes_98 ?_
    refine q_sipush C dL_changes_99 (by decide) rfl ?_
    refine q_pcallSI C dL_changes_102 msL_43 (cq_L_in w l h _ _) rfl ⟨by decide, by decide⟩ ⟨rfl, Nat.le_of_ble_eq_true rfl⟩ (fun x8 => ?_)
    refine q_iadd C dL_changes_105 ?_
    refine q_iconst C dL_changes_106 rfl ?_
    refine q_iload_n C dL_changes_107 rfl ?_
    refine q_ldc (n := 524288) C dL_changes_108 (zmem 992 (by decide +kernel)) rfl ?_
    refine q_idiv C dL_changes_110 ?_
    refine q_bipush C dL_changes_111 (by decide) rfl ?_
    refine q_pcallSI C dL_changes_113 msL_43 (cq_L_in w l h _ _) rfl ⟨by decide, by decide⟩ ⟨rfl, Nat.le_of_ble_eq_true rfl⟩ (fun x9 => ?_)
    refine q_iadd C dL_changes_116 ?_
    refine q_callVI C dL_changes_117 mvL_141 (cq_X7_request w l h _ _ _ _ _ _) rfl ⟨by decide, by decide⟩ ⟨rfl, Nat.le_of_ble_eq_true rfl⟩ (fun x10 h11 => ?_)
    refine q_pop C dL_changes_120 ?_
    refine q_goto C dL_changes_121 (tgt := 210) (by decide) ?_
    exact q_vret C Z1 Z2 dL_changes_210
  · refine q_aload_n C dL_changes_60 rfl ?_
    refine q_iload_n C dL_changes_61 rfl ?_
    refine q_iload_n C dL_changes_62 rfl ?_
    refine q_iconst C dL_changes_63 rfl ?_
    refine q_iadd C dL_changes_64 ?_
    refine q_iload_n C dL_changes_65 rfl ?_
    refine q_bipush C dL_changes_66 (by decide) rfl ?_
    refine q_idiv C dL_changes_68 ?_
    refine q_aload_n C dL_changes_69 rfl ?_
    refine q_pcallSI C dL_changes_70 msL_52 (cq_L_stations w l h) rfl ⟨by decide, by decide⟩ ⟨rfl, Nat.le_of_ble_eq_true rfl⟩ (fun x12 => ?_)
    refine q_iconst C dL_changes_73 rfl ?_
    refine q_isub C dL_changes_74 ?_
    refine q_pcallSI C dL_changes_75 msL_43 (cq_L_in w l h _ _) rfl ⟨by decide, by decide⟩ ⟨rfl, Nat.le_of_ble_eq_true rfl⟩ (fun x13 => ?_)
    refine q_iadd C dL_changes_78 ?_
    refine q_aload_n C dL_changes_79 rfl ?_
    refine q_pcallSI C dL_changes_80 msL_52 (cq_L_stations w l h) rfl ⟨by decide, by decide⟩ ⟨rfl, Nat.le_of_ble_eq_true rfl⟩ (fun x14 => ?_)
    refine q_irem C dL_changes_83 ?_
    refine q_iload_n C dL_changes_84 rfl ?_
    refine q_sipush C dL_changes_85 (by decide) rfl ?_
    refine q_idiv C dL_changes_88 ?_
    refine q_iconst C dL_changes_89 rfl ?_
    refine q_pcallSI C dL_changes_90 msL_43 (cq_L_in w l h _ _) rfl ⟨by decide, by decide⟩ ⟨rfl, Nat.le_of_ble_eq_true rfl⟩ (fun x15 => ?_)
    refine q_iconst C dL_changes_93 rfl ?_
    refine q_iload_n C dL_changes_94 rfl ?_
    refine q_sipush C dL_changes_95 (by decide) rfl ?_
    refine q_idiv C dL_changes_98 ?_
    refine q_sipush C dL_changes_99 (by decide) rfl ?_
    refine q_pcallSI C dL_changes_102 msL_43 (cq_L_in w l h _ _) rfl ⟨by decide, by decide⟩ ⟨rfl, Nat.le_of_ble_eq_true rfl⟩ (fun x16 => ?_)
    refine q_iadd C dL_changes_105 ?_
    refine q_iconst C dL_changes_106 rfl ?_
    refine q_iload_n C dL_changes_107 rfl ?_
    refine q_ldc (n := 524288) C dL_changes_108 (zmem 992 (by decide +kernel)) rfl ?_
    refine q_idiv C dL_changes_110 ?_
    refine q_bipush C dL_changes_111 (by decide) rfl ?_
    refine q_pcallSI C dL_changes_113 msL_43 (cq_L_in w l h _ _) rfl ⟨by decide, by decide⟩ ⟨rfl, Nat.le_of_ble_eq_true rfl⟩ (fun x17 => ?_)
    refine q_iadd C dL_changes_116 ?_
    refine q_callVI C dL_changes_117 mvL_141 (cq_X7_request w l h _ _ _ _ _ _) rfl ⟨by decide, by decide⟩ ⟨rfl, Nat.le_of_ble_eq_true rfl⟩ (fun x18 h19 => ?_)
    refine q_pop C dL_changes_120 ?_
    refine q_goto C dL_changes_121 (tgt := 210) (by decide) ?_
    exact q_vret C Z1 Z2 dL_changes_210
  · refine q_aload_n C dL_changes_60 rfl ?_
    refine q_iload_n C dL_changes_61 rfl ?_
    refine q_iload_n C dL_changes_62 rfl ?_
    refine q_iconst C dL_changes_63 rfl ?_
    refine q_iadd C dL_changes_64 ?_
    refine q_iload_n C dL_changes_65 rfl ?_
    refine q_bipush C dL_changes_66 (by decide) rfl ?_
    refine q_idiv C dL_changes_68 ?_
    refine q_aload_n C dL_changes_69 rfl ?_
    refine q_pcallSI C dL_changes_70 msL_52 (cq_L_stations w l h) rfl ⟨by decide, by decide⟩ ⟨rfl, Nat.le_of_ble_eq_true rfl⟩ (fun x20 => ?_)
    refine q_iconst C dL_changes_73 rfl ?_
    refine q_isub C dL_changes_74 ?_
    refine q_pcallSI C dL_changes_75 msL_43 (cq_L_in w l h _ _) rfl ⟨by decide, by decide⟩ ⟨rfl, Nat.le_of_ble_eq_true rfl⟩ (fun x21 => ?_)
    refine q_iadd C dL_changes_78 ?_
    refine q_aload_n C dL_changes_79 rfl ?_
    refine q_pcallSI C dL_changes_80 msL_52 (cq_L_stations w l h) rfl ⟨by decide, by decide⟩ ⟨rfl, Nat.le_of_ble_eq_true rfl⟩ (fun x22 => ?_)
    refine q_irem C dL_changes_83 ?_
    refine q_iload_n C dL_changes_84 rfl ?_
    refine q_sipush C dL_changes_85 (by decide) rfl ?_
    refine q_idiv C dL_changes_88 ?_
    refine q_iconst C dL_changes_89 rfl ?_
    refine q_pcallSI C dL_changes_90 msL_43 (cq_L_in w l h _ _) rfl ⟨by decide, by decide⟩ ⟨rfl, Nat.le_of_ble_eq_true rfl⟩ (fun x23 => ?_)
    refine q_iconst C dL_changes_93 rfl ?_
    refine q_iload_n C dL_changes_94 rfl ?_
    refine q_sipush C dL_changes_95 (by decide) rfl ?_
    refine q_idiv C dL_changes_98 ?_
    refine q_sipush C dL_changes_99 (by decide) rfl ?_
    refine q_pcallSI C dL_changes_102 msL_43 (cq_L_in w l h _ _) rfl ⟨by decide, by decide⟩ ⟨rfl, Nat.le_of_ble_eq_true rfl⟩ (fun x24 => ?_)
    refine q_iadd C dL_changes_105 ?_
    refine q_iconst C dL_changes_106 rfl ?_
    refine q_iload_n C dL_changes_107 rfl ?_
    refine q_ldc (n := 524288) C dL_changes_108 (zmem 992 (by decide +kernel)) rfl ?_
    refine q_idiv C dL_changes_110 ?_
    refine q_bipush C dL_changes_111 (by decide) rfl ?_
    refine q_pcallSI C dL_changes_113 msL_43 (cq_L_in w l h _ _) rfl ⟨by decide, by decide⟩ ⟨rfl, Nat.le_of_ble_eq_true rfl⟩ (fun x25 => ?_)
    refine q_iadd C dL_changes_116 ?_
    refine q_callVI C dL_changes_117 mvL_141 (cq_X7_request w l h _ _ _ _ _ _) rfl ⟨by decide, by decide⟩ ⟨rfl, Nat.le_of_ble_eq_true rfl⟩ (fun x26 h27 => ?_)
    refine q_pop C dL_changes_120 ?_
    refine q_goto C dL_changes_121 (tgt := 210) (by decide) ?_
    exact q_vret C Z1 Z2 dL_changes_210
  · refine q_aload_n C dL_changes_124 rfl ?_
    refine q_iload_n C dL_changes_125 rfl ?_
    refine q_bipush C dL_changes_126 (by decide) rfl ?_
    refine q_idiv C dL_changes_128 ?_
    refine q_iconst C dL_changes_129 rfl ?_
    refine q_aload_n C dL_changes_130 rfl ?_
    refine q_pcallVI C dL_changes_131 mvL_144 (cq_X7_callCount w l h _) rfl ⟨by decide, by decide⟩ ⟨rfl, Nat.le_of_ble_eq_true rfl⟩ (fun x28 => ?_)
    refine q_mmax C dL_changes_134 (zmem 1011 (by decide +kernel)) ⟨by decide, Nat.le_of_ble_eq_true rfl⟩ ?_
    refine q_pcallSI C dL_changes_137 msL_43 (cq_L_in w l h _ _) rfl ⟨by decide, by decide⟩ ⟨rfl, Nat.le_of_ble_eq_true rfl⟩ (fun x29 => ?_)
    refine q_callVI C dL_changes_140 mvL_150 (cq_X7_release w l h _ _) rfl ⟨by decide, by decide⟩ ⟨rfl, Nat.le_of_ble_eq_true rfl⟩ (fun x30 h31 => ?_)
    refine q_pop C dL_changes_143 ?_
    refine q_goto C dL_changes_144 (tgt := 210) (by decide) ?_
    exact q_vret C Z1 Z2 dL_changes_210
  · refine q_aload_n C dL_changes_147 rfl ?_
    refine q_iconst C dL_changes_148 rfl ?_
    refine q_iload_n C dL_changes_149 rfl ?_
    refine q_bipush C dL_changes_150 (by decide) rfl ?_
    refine q_idiv C dL_changes_152 ?_
    refine q_bipush C dL_changes_153 (by decide) rfl ?_
    refine q_pcallSI C dL_changes_155 msL_43 (cq_L_in w l h _ _) rfl ⟨by decide, by decide⟩ ⟨rfl, Nat.le_of_ble_eq_true rfl⟩ (fun x32 => ?_)
    refine q_iadd C dL_changes_158 ?_
    refine q_callVI C dL_changes_159 mvL_153 (cq_X7_advance w l h _ _) rfl ⟨by decide, by decide⟩ ⟨rfl, Nat.le_of_ble_eq_true rfl⟩ (fun x33 h34 => ?_)
    refine q_pop C dL_changes_162 ?_
    refine q_goto C dL_changes_163 (tgt := 210) (by decide) ?_
    exact q_vret C Z1 Z2 dL_changes_210
  · refine q_aload_n C dL_changes_166 rfl ?_
    refine q_iconst C dL_changes_167 rfl ?_
    refine q_iload_n C dL_changes_168 rfl ?_
    refine q_bipush C dL_changes_169 (by decide) rfl ?_
    refine q_idiv C dL_changes_171 ?_
    refine q_iconst C dL_changes_172 rfl ?_
    refine q_pcallSI C dL_changes_173 msL_43 (cq_L_in w l h _ _) rfl ⟨by decide, by decide⟩ ⟨rfl, Nat.le_of_ble_eq_true rfl⟩ (fun x35 => ?_)
    refine q_iadd C dL_changes_176 ?_
    refine q_iconst C dL_changes_177 rfl ?_
    refine q_iload_n C dL_changes_178 rfl ?_
    refine q_sipush C dL_changes_179 (by decide) rfl ?_
    refine q_idiv C dL_changes_182 ?_
    refine q_bipush C dL_changes_183 (by decide) rfl ?_
    refine q_pcallSI C dL_changes_185 msL_43 (cq_L_in w l h _ _) rfl ⟨by decide, by decide⟩ ⟨rfl, Nat.le_of_ble_eq_true rfl⟩ (fun x36 => ?_)
    refine q_iadd C dL_changes_188 ?_
    refine q_callVI C dL_changes_189 mvL_156 (cq_X7_setSetting w l h _ _ _) rfl ⟨by decide, by decide⟩ ⟨rfl, Nat.le_of_ble_eq_true rfl⟩ (fun x37 h38 => ?_)
    refine q_pop C dL_changes_192 ?_
    refine q_goto C dL_changes_193 (tgt := 210) (by decide) ?_
    exact q_vret C Z1 Z2 dL_changes_210
  · refine q_aload_n C dL_changes_196 rfl ?_
    refine q_iload_n C dL_changes_197 rfl ?_
    refine q_callVI C dL_changes_198 mvL_159 (cq_X7_acquire w l h _ _) rfl ⟨by decide, by decide⟩ ⟨rfl, Nat.le_of_ble_eq_true rfl⟩ (fun x39 h40 => ?_)
    refine q_pop C dL_changes_201 ?_
    refine q_goto C dL_changes_202 (tgt := 210) (by decide) ?_
    exact q_vret C Z1 Z2 dL_changes_210
  · refine q_aload_n C dL_changes_205 rfl ?_
    refine q_callVI C dL_changes_206 mvL_163 (cq_X7_compact w l h _) rfl ⟨by decide, by decide⟩ ⟨rfl, Nat.le_of_ble_eq_true rfl⟩ (fun x41 h42 => ?_)
    refine q_pop C dL_changes_209 ?_
    exact q_vret C Z1 Z2 dL_changes_210
def q_L_areBursts_L185 (w : zW) (h : zH) (a0 : Nat) (i1 : Int) (i2 : Int) (i3 : Int) (i4 : Int) (k : Int → Int → Option Int) : Nat → Int → Int → Option Int
  | 0, _, _ => none
  | n + 1, i5, i6 => zbp (q_X7_callCount h a0) (fun x16 => if x16 ≤ i6 then (k i5 i6) else (if i6 = i3 then (zlet (zw (i6 + 1)) (fun x17 => q_L_areBursts_L185 w h a0 i1 i2 i3 i4 k n i5 x17)) else (zbp (q_X7_stateOf h a0 i6) (fun x18 => if x18 = 1 then (zbp (q_X7_carrierOf h a0 i6) (fun x19 => zbp (q_X7_carrierOf h a0 i3) (fun x20 => if x19 = x20 then (if (1 : Int) = 0 then (none) else (zlet (zor i5 (zshl 1 i6)) (fun x21 => zbp (q_X7_startOf h a0 i6) (fun x22 => zbp (q_X7_burstOf h a0 i3) (fun x23 => if zw (zw (i4 + x23) + i1) ≤ x22 then (if (1 : Int) = 0 then (none) else (if (1 : Int) = 0 then (none) else (zlet (zw (i6 + 1)) (fun x24 => q_L_areBursts_L185 w h a0 i1 i2 i3 i4 k n x21 x24)))) else (zbp (q_X7_startOf h a0 i6) (fun x25 => zbp (q_X7_burstOf h a0 i6) (fun x26 => if i4 < zw (zw (x25 + x26) + i1) then (if (1 : Int) = 0 then (none) else (if (0 : Int) = 0 then (some 0) else (none))) else (if (1 : Int) = 0 then (none) else (if (1 : Int) = 0 then (none) else (zlet (zw (i6 + 1)) (fun x27 => q_L_areBursts_L185 w h a0 i1 i2 i3 i4 k n x21 x27)))))))))))) else (zbp (q_X7_senderOf h a0 i6) (fun x28 => zbp (q_X7_senderOf h a0 i3) (fun x29 => if x28 = x29 then (if (1 : Int) = 0 then (none) else (zlet (zor i5 (zshl 1 i6)) (fun x30 => zbp (q_X7_startOf h a0 i6) (fun x31 => zbp (q_X7_burstOf h a0 i3) (fun x32 => if zw (zw (i4 + x32) + i1) ≤ x31 then (if (1 : Int) = 0 then (none) else (if (1 : Int) = 0 then (none) else (zlet (zw (i6 + 1)) (fun x33 => q_L_areBursts_L185 w h a0 i1 i2 i3 i4 k n x30 x33)))) else (zbp (q_X7_startOf h a0 i6) (fun x34 => zbp (q_X7_burstOf h a0 i6) (fun x35 => if i4 < zw (zw (x34 + x35) + i1) then (if (1 : Int) = 0 then (none) else (if (0 : Int) = 0 then (some 0) else (none))) else (if (1 : Int) = 0 then (none) else (if (1 : Int) = 0 then (none) else (zlet (zw (i6 + 1)) (fun x36 => q_L_areBursts_L185 w h a0 i1 i2 i3 i4 k n x30 x36)))))))))))) else (zbp (q_X7_receiverOf h a0 i6) (fun x37 => zbp (q_X7_receiverOf h a0 i3) (fun x38 => if x37 = x38 then (if (1 : Int) = 0 then (none) else (zlet (zor i5 (zshl 1 i6)) (fun x47 => zbp (q_X7_startOf h a0 i6) (fun x48 => zbp (q_X7_burstOf h a0 i3) (fun x49 => if zw (zw (i4 + x49) + i1) ≤ x48 then (if (1 : Int) = 0 then (none) else (if (1 : Int) = 0 then (none) else (zlet (zw (i6 + 1)) (fun x50 => q_L_areBursts_L185 w h a0 i1 i2 i3 i4 k n x47 x50)))) else (zbp (q_X7_startOf h a0 i6) (fun x51 => zbp (q_X7_burstOf h a0 i6) (fun x52 => if i4 < zw (zw (x51 + x52) + i1) then (if (1 : Int) = 0 then (none) else (if (0 : Int) = 0 then (some 0) else (none))) else (if (1 : Int) = 0 then (none) else (if (1 : Int) = 0 then (none) else (zlet (zw (i6 + 1)) (fun x53 => q_L_areBursts_L185 w h a0 i1 i2 i3 i4 k n x47 x53)))))))))))) else (if (0 : Int) = 0 then (zlet (zor i5 0) (fun x39 => zbp (q_X7_startOf h a0 i6) (fun x40 => zbp (q_X7_burstOf h a0 i3) (fun x41 => if zw (zw (i4 + x41) + i1) ≤ x40 then (if (0 : Int) = 0 then (zlet (zw (i6 + 1)) (fun x42 => q_L_areBursts_L185 w h a0 i1 i2 i3 i4 k n x39 x42)) else (none)) else (zbp (q_X7_startOf h a0 i6) (fun x43 => zbp (q_X7_burstOf h a0 i6) (fun x44 => if i4 < zw (zw (x43 + x44) + i1) then (if (0 : Int) = 0 then (zlet (zw (i6 + 1)) (fun x45 => q_L_areBursts_L185 w h a0 i1 i2 i3 i4 k n x39 x45)) else (none)) else (if (0 : Int) = 0 then (zlet (zw (i6 + 1)) (fun x46 => q_L_areBursts_L185 w h a0 i1 i2 i3 i4 k n x39 x46)) else (none))))))))) else (none))))))))))) else (zlet (zw (i6 + 1)) (fun x54 => q_L_areBursts_L185 w h a0 i1 i2 i3 i4 k n i5 x54))))))
def q_L_areBursts_L10 (w : zW) (h : zH) (a0 : Nat) (i1 : Int) (k : Int → Int → Option Int) : Nat → Int → Int → Option Int
  | 0, _, _ => none
  | n + 1, i2, i3 => zbp (q_X7_callCount h a0) (fun x2 => if x2 ≤ i3 then (k i2 i3) else (zbp (q_X7_burstOf h a0 i3) (fun x3 => zbp (q_X7_getSetting h a0 3) (fun x4 => if x3 ≤ x4 then (some 0) else (zbp (q_X7_senderOf h a0 i3) (fun x5 => zbp (q_X7_receiverOf h a0 i3) (fun x6 => if x5 = x6 then (some 0) else (zbp (q_X7_stateOf h a0 i3) (fun x7 => if x7 = 1 then (zbp (q_X7_burstOf h a0 i3) (fun x8 => zlet (zw (i2 + x8)) (fun x9 => zbp (q_X7_startOf h a0 i3) (fun x10 => zbp (q_X7_getSetting h a0 2) (fun x11 => if x10 < zw (x11 + i1) then (some 0) else (zbp (q_X7_burstOf h a0 i3) (fun x12 => zbp (q_X7_getSetting h a0 0) (fun x13 => if x13 < zw (zw (x10 + x12) + i1) then (some 0) else (zbp (q_X7_endOf h a0 i3) (fun x14 => zbp (q_X7_now h a0) (fun x15 => if x15 < x14 then (q_L_areBursts_L185 w h a0 i1 x9 i3 x10 (fun x55 x56 => zbp (q_X7_conflicts h a0 i3) (fun x59 => if x59 = x55 then (zbp (q_X7_carrierOf h a0 i3) (fun x60 => zbp (q_X7_callOver h a0 x60 x10) (fun x61 => if x61 = i3 then (zbp (q_X7_carrierOf h a0 i3) (fun x62 => zbp (q_X7_burstOf h a0 i3) (fun x63 => zbp (q_X7_callOver h a0 x62 (zw (x10 + x63))) (fun x64 => if x64 = (-1) then (zlet (zw (i3 + 1)) (fun x65 => q_L_areBursts_L10 w h a0 i1 k n x9 x65)) else (if i1 ≤ 0 then (zlet (zw (i3 + 1)) (fun x66 => q_L_areBursts_L10 w h a0 i1 k n x9 x66)) else (some 0)))))) else (some 0)))) else (some 0))) zF 0 0) else (some 0)))))))))))) else (zbp (q_X7_carrierOf h a0 i3) (fun x67 => if x67 = (-1) then (zbp (q_X7_startOf h a0 i3) (fun x68 => if x68 = (-1) then (zbp (q_X7_endOf h a0 i3) (fun x69 => if x69 = (-1) then (zbp (q_X7_sendOffset h a0 i3) (fun x70 => if x70 = (-1) then (zbp (q_X7_conflicts h a0 i3) (fun x71 => if x71 = 0 then (zbp (q_X7_stateOf h a0 i3) (fun x72 => if x72 = 0 then (zbp (q_X7_fitsWithout h a0 i3 0) (fun x74 => if x74 = 0 then (zlet (zw (i3 + 1)) (fun x75 => q_L_areBursts_L10 w h a0 i1 k n i2 x75)) else (some 0))) else (zlet (zw (i3 + 1)) (fun x73 => q_L_areBursts_L10 w h a0 i1 k n i2 x73)))) else (some 0))) else (some 0))) else (some 0))) else (some 0))) else (some 0))))))))))))
def q_L_areBursts_L428 (w : zW) (h : zH) (a0 : Nat) (i2 : Int) (i4 : Int) (k : Int → Int → Option Int) : Nat → Int → Int → Option Int
  | 0, _, _ => none
  | n + 1, i3, i5 => zbp (q_X7_callsOn h a0 i4) (fun x86 => if x86 ≤ i5 then (k i3 i5) else (zbp (q_X7_callAt h a0 i4 i5) (fun x87 => if x87 < 0 then (some 0) else (zbp (q_X7_carrierOf h a0 x87) (fun x88 => if x88 = i4 then (if i5 ≤ 0 then (zlet (zw (i3 + 1)) (fun x89 => zlet (zw (i5 + 1)) (fun x90 => q_L_areBursts_L428 w h a0 i2 i4 k n x89 x90))) else (zbp (q_X7_startOf h a0 x87) (fun x91 => zbp (q_X7_callAt h a0 i4 (zw (i5 - 1))) (fun x92 => zbp (q_X7_startOf h a0 x92) (fun x93 => if x93 < x91 then (zlet (zw (i3 + 1)) (fun x94 => zlet (zw (i5 + 1)) (fun x95 => q_L_areBursts_L428 w h a0 i2 i4 k n x94 x95))) else (some 0)))))) else (some 0))))))
def q_L_areBursts_L407 (w : zW) (h : zH) (a0 : Nat) (k : Int → Int → Int → Option Int) : Nat → Int → Int → Int → Option Int
  | 0, _, _, _ => none
  | n + 1, i2, i3, i4 => zbp (q_X7_carrierCount h a0) (fun x83 => if x83 ≤ i4 then (k i2 i3 i4) else (zbp (q_X7_usedSymbols h a0 i4) (fun x84 => zlet (zw (i2 - x84)) (fun x85 => q_L_areBursts_L428 w h a0 x85 i4 (fun x96 x97 => zbp (q_X7_callsOn h a0 i4) (fun x102 => zbp (q_X7_callAt h a0 i4 x102) (fun x103 => if x103 = (-1) then (zlet (zw (i4 + 1)) (fun x104 => q_L_areBursts_L407 w h a0 k n x85 x96 x104)) else (some 0)))) zF i3 0))))
def q_L_areBursts_L531 (w : zW) (h : zH) (a0 : Nat) (i2 : Int) (k : Int → Int → Option Int) : Nat → Int → Int → Option Int
  | 0, _, _ => none
  | n + 1, i3, i4 => zbp (q_X7_callCount h a0) (fun x113 => if x113 ≤ i4 then (k i3 i4) else (zbp (q_X7_stateOf h a0 i4) (fun x114 => if x114 = 1 then (zlet (zw (i3 - 1)) (fun x117 => zlet (zw (i4 + 1)) (fun x118 => q_L_areBursts_L531 w h a0 i2 k n x117 x118))) else (zlet (zw (i3 - 0)) (fun x115 => zlet (zw (i4 + 1)) (fun x116 => q_L_areBursts_L531 w h a0 i2 k n x115 x116))))))
def q_L_areBursts (w : zW) (h : zH) (a_0 : Nat) : Option Int := zbp (q_X7_getSetting h a_0 1) (fun x1 => q_L_areBursts_L10 w h a_0 x1 (fun x76 x77 => q_L_areBursts_L407 w h a_0 (fun x105 x106 x107 => q_L_areBursts_L531 w h a_0 x105 (fun x119 x120 => if x119 = 0 then (if x105 = 0 then (some 1) else (some 0)) else (some 0)) zF x106 0) zF x76 0 0) zF 0 0)
theorem cq_L_areBursts (w : zW) (l : Launch) (h : zH) (a_0 : Nat) : zCp w l yL_areBursts cL_areBursts 9 (some .boolean) 4 123 [.inr (7, a_0)] h qI (q_L_areBursts w h a_0) := by
  refine zCp.of (own := RL) (loc := [some (.inr (7, a_0)), none, none, none, none, none, none, none, none]) (by decide) rfl (Nat.le_of_ble_eq_true rfl) (fun k v hk => ?_) ?_
  · exact zloc_ok 8 rfl hk
  intro p e s m args below meth c C Z1 Z2
  have L185 : ∀ (a0 : Nat) (i1 : Int) (i2 : Int) (i3 : Int) (i4 : Int) (k : Int → Int → Option Int) (hk : ∀ (u7 u8 : Option zv) (i5 : Int) (i6 : Int), zQP w p l e (zRm 4 123) s m args below meth c 9 qI (k i5 i6) 344 [some (.inr (7, a0)), some (.inl i1), some (.inl i2), some (.inl i3), some (.inl i4), some (.inl i5), some (.inl i6), u7, u8] [] h) (n : Nat) (u7 u8 : Option zv) (i5 : Int) (i6 : Int), zQP w p l e (zRm 4 123) s m args below meth c 9 qI (q_L_areBursts_L185 w h a0 i1 i2 i3 i4 k n i5 i6) 185 [some (.inr (7, a0)), some (.inl i1), some (.inl i2), some (.inl i3), some (.inl i4), some (.inl i5), some (.inl i6), u7, u8] [] h := by
    intro a0 i1 i2 i3 i4 k hk n
    induction n with
    | zero =>
      intro u7 u8 i5 i6
      exact p_none
    | succ n ih =>
      intro u7 u8 i5 i6
      rw [q_L_areBursts_L185]
      refine p_iload C dL_areBursts_185 rfl ?_
      refine p_aload_n C dL_areBursts_187 rfl ?_
      refine p_pcallVI C dL_areBursts_188 mvL_144 (cq_X7_callCount w l h _) rfl ⟨by decide, by decide⟩ ⟨rfl, Nat.le_of_ble_eq_true rfl⟩ (fun x16 => ?_)
      refine p_icmp_ge C dL_areBursts_191 (tgt := 344) (by decide) ?_ ?_
      · exact hk _ _ i5 i6
      · refine p_iload C dL_areBursts_194 rfl ?_
        refine p_iload_n C dL_areBursts_196 rfl ?_
        refine p_icmp_eq C dL_areBursts_197 (tgt := 338) (by decide) ?_ ?_
        · refine p_iincL C dL_areBursts_338 rfl (by decide) (fun x17 => ?_)
          refine p_goto C dL_areBursts_341 (tgt := 185) (by decide) ?_
          exact ih _ _ i5 x17
        · refine p_aload_n C dL_areBursts_200 rfl ?_
          refine p_iload C dL_areBursts_201 rfl ?_
          refine p_pcallVI C dL_areBursts_203 mvL_178 (cq_X7_stateOf w l h _ _) rfl ⟨by decide, by decide⟩ ⟨rfl, Nat.le_of_ble_eq_true rfl⟩ (fun x18 => ?_)
          refine p_iconst C dL_areBursts_206 rfl ?_
          refine p_icmp_eq C dL_areBursts_207 (tgt := 213) (by decide) ?_ ?_
          · refine p_aload_n C dL_areBursts_213 rfl ?_
            refine p_iload C dL_areBursts_214 rfl ?_
            refine p_pcallVI C dL_areBursts_216 mvL_181 (cq_X7_carrierOf w l h _ _) rfl ⟨by decide, by decide⟩ ⟨rfl, Nat.le_of_ble_eq_true rfl⟩ (fun x19 => ?_)
            refine p_aload_n C dL_areBursts_219 rfl ?_
            refine p_iload_n C dL_areBursts_220 rfl ?_
            refine p_pcallVI C dL_areBursts_221 mvL_181 (cq_X7_carrierOf w l h _ _) rfl ⟨by decide, by decide⟩ ⟨rfl, Nat.le_of_ble_eq_true rfl⟩ (fun x20 => ?_)
            refine p_icmp_eq C dL_areBursts_224 (tgt := 255) (by decide) ?_ ?_
            · refine p_iconst C dL_areBursts_255 rfl ?_
              refine p_goto C dL_areBursts_256 (tgt := 260) (by decide) ?_
              refine p_istore C dL_areBursts_260 (by decide) ?_
              refine p_iload C dL_areBursts_262 rfl ?_
              refine p_iload C dL_areBursts_264 rfl ?_
              refine p_if_eq C dL_areBursts_266 (tgt := 276) (by decide) ?_ ?_
              · exact p_none
              · refine p_iconst C dL_areBursts_269 rfl ?_
                refine p_iload C dL_areBursts_270 rfl ?_
                refine p_ishl C dL_areBursts_272 ?_
                refine p_goto C dL_areBursts_273 (tgt := 277) (by decide) ?_
                refine p_ior C dL_areBursts_277 ?_
                refine p_istoreL C dL_areBursts_278 (by decide) (fun x21 => ?_)
                refine p_aload_n C dL_areBursts_280 rfl ?_
                refine p_iload C dL_areBursts_281 rfl ?_
                refine p_pcallVI C dL_areBursts_283 mvL_184 (cq_X7_startOf w l h _ _) rfl ⟨by decide, by decide⟩ ⟨rfl, Nat.le_of_ble_eq_true rfl⟩ (fun x22 => ?_)
                refine p_iload C dL_areBursts_286 rfl ?_
                refine p_aload_n C dL_areBursts_288 rfl ?_
                refine p_iload_n C dL_areBursts_289 rfl ?_
                refine p_pcallVI C dL_areBursts_290 mvL_169 (cq_X7_burstOf w l h _ _) rfl ⟨by decide, by decide⟩ ⟨rfl, Nat.le_of_ble_eq_true rfl⟩ (fun x23 => ?_)
                refine p_iadd C dL_areBursts_293 ?_
                refine p_iload_n C dL_areBursts_294 rfl ?_
                refine p_iadd C dL_areBursts_295 ?_
                refine p_icmp_ge C dL_areBursts_296 (tgt := 319) (by decide) ?_ ?_
                · refine p_iconst C dL_areBursts_319 rfl ?_
                  refine p_goto C dL_areBursts_320 (tgt := 324) (by decide) ?_
                  refine p_istore C dL_areBursts_324 (by decide) ?_
                  refine p_iload C dL_areBursts_326 rfl ?_
                  refine p_if_eq C dL_areBursts_328 (tgt := 338) (by decide) ?_ ?_
                  · exact p_none
                  · refine p_iload C dL_areBursts_331 rfl ?_
                    refine p_if_ne C dL_areBursts_333 (tgt := 338) (by decide) ?_ ?_
                    · refine p_iincL C dL_areBursts_338 rfl (by decide) (fun x24 => ?_)
                      refine p_goto C dL_areBursts_341 (tgt := 185) (by decide) ?_
                      exact ih _ _ x21 x24
                    · exact p_none
                · refine p_iload C dL_areBursts_299 rfl ?_
                  refine p_aload_n C dL_areBursts_301 rfl ?_
                  refine p_iload C dL_areBursts_302 rfl ?_
                  refine p_pcallVI C dL_areBursts_304 mvL_184 (cq_X7_startOf w l h _ _) rfl ⟨by decide, by decide⟩ ⟨rfl, Nat.le_of_ble_eq_true rfl⟩ (fun x25 => ?_)
                  refine p_aload_n C dL_areBursts_307 rfl ?_
                  refine p_iload C dL_areBursts_308 rfl ?_
                  refine p_pcallVI C dL_areBursts_310 mvL_169 (cq_X7_burstOf w l h _ _) rfl ⟨by decide, by decide⟩ ⟨rfl, Nat.le_of_ble_eq_true rfl⟩ (fun x26 => ?_)
                  refine p_iadd C dL_areBursts_313 ?_
                  refine p_iload_n C dL_areBursts_314 rfl ?_
                  refine p_iadd C dL_areBursts_315 ?_
                  refine p_icmp_lt C dL_areBursts_316 (tgt := 323) (by decide) ?_ ?_
                  · refine p_iconst C dL_areBursts_323 rfl ?_
                    refine p_istore C dL_areBursts_324 (by decide) ?_
                    refine p_iload C dL_areBursts_326 rfl ?_
                    refine p_if_eq C dL_areBursts_328 (tgt := 338) (by decide) ?_ ?_
                    · exact p_none
                    · refine p_iload C dL_areBursts_331 rfl ?_
                      refine p_if_ne C dL_areBursts_333 (tgt := 338) (by decide) ?_ ?_
                      · exact p_none
                      · refine p_iconst C dL_areBursts_336 rfl ?_
                        exact p_zret C Z1 Z2 (Or.inl rfl) dL_areBursts_337
                  · refine p_iconst C dL_areBursts_319 rfl ?_
                    refine p_goto C dL_areBursts_320 (tgt := 324) (by decide) ?_
                    refine p_istore C dL_areBursts_324 (by decide) ?_
                    refine p_iload C dL_areBursts_326 rfl ?_
                    refine p_if_eq C dL_areBursts_328 (tgt := 338) (by decide) ?_ ?_
                    · exact p_none
                    · refine p_iload C dL_areBursts_331 rfl ?_
                      refine p_if_ne C dL_areBursts_333 (tgt := 338) (by decide) ?_ ?_
                      · refine p_iincL C dL_areBursts_338 rfl (by decide) (fun x27 => ?_)
                        refine p_goto C dL_areBursts_341 (tgt := 185) (by decide) ?_
                        exact ih _ _ x21 x27
                      · exact p_none
            · refine p_aload_n C dL_areBursts_227 rfl ?_
              refine p_iload C dL_areBursts_228 rfl ?_
              refine p_pcallVI C dL_areBursts_230 mvL_172 (cq_X7_senderOf w l h _ _) rfl ⟨by decide, by decide⟩ ⟨rfl, Nat.le_of_ble_eq_true rfl⟩ (fun x28 => ?_)
              refine p_aload_n C dL_areBursts_233 rfl ?_
              refine p_iload_n C dL_areBursts_234 rfl ?_
              refine p_pcallVI C dL_areBursts_235 mvL_172 (cq_X7_senderOf w l h _ _) rfl ⟨by decide, by decide⟩ ⟨rfl, Nat.le_of_ble_eq_true rfl⟩ (fun x29 => ?_)
              refine p_icmp_eq C dL_areBursts_238 (tgt := 255) (by decide) ?_ ?_
              · refine p_iconst C dL_areBursts_255 rfl ?_
                refine p_goto C dL_areBursts_256 (tgt := 260) (by decide) ?_
                refine p_istore C dL_areBursts_260 (by decide) ?_
                refine p_iload C dL_areBursts_262 rfl ?_
                refine p_iload C dL_areBursts_264 rfl ?_
                refine p_if_eq C dL_areBursts_266 (tgt := 276) (by decide) ?_ ?_
                · exact p_none
                · refine p_iconst C dL_areBursts_269 rfl ?_
                  refine p_iload C dL_areBursts_270 rfl ?_
                  refine p_ishl C dL_areBursts_272 ?_
                  refine p_goto C dL_areBursts_273 (tgt := 277) (by decide) ?_
                  refine p_ior C dL_areBursts_277 ?_
                  refine p_istoreL C dL_areBursts_278 (by decide) (fun x30 => ?_)
                  refine p_aload_n C dL_areBursts_280 rfl ?_
                  refine p_iload C dL_areBursts_281 rfl ?_
                  refine p_pcallVI C dL_areBursts_283 mvL_184 (cq_X7_startOf w l h _ _) rfl ⟨by decide, by decide⟩ ⟨rfl, Nat.le_of_ble_eq_true rfl⟩ (fun x31 => ?_)
                  refine p_iload C dL_areBursts_286 rfl ?_
                  refine p_aload_n C dL_areBursts_288 rfl ?_
                  refine p_iload_n C dL_areBursts_289 rfl ?_
                  refine p_pcallVI C dL_areBursts_290 mvL_169 (cq_X7_burstOf w l h _ _) rfl ⟨by decide, by decide⟩ ⟨rfl, Nat.le_of_ble_eq_true rfl⟩ (fun x32 => ?_)
                  refine p_iadd C dL_areBursts_293 ?_
                  refine p_iload_n C dL_areBursts_294 rfl ?_
                  refine p_iadd C dL_areBursts_295 ?_
                  refine p_icmp_ge C dL_areBursts_296 (tgt := 319) (by decide) ?_ ?_
                  · refine p_iconst C dL_areBursts_319 rfl ?_
                    refine p_goto C dL_areBursts_320 (tgt := 324) (by decide) ?_
                    refine p_istore C dL_areBursts_324 (by decide) ?_
                    refine p_iload C dL_areBursts_326 rfl ?_
                    refine p_if_eq C dL_areBursts_328 (tgt := 338) (by decide) ?_ ?_
                    · exact p_none
                    · refine p_iload C dL_areBursts_331 rfl ?_
                      refine p_if_ne C dL_areBursts_333 (tgt := 338) (by decide) ?_ ?_
                      · refine p_iincL C dL_areBursts_338 rfl (by decide) (fun x33 => ?_)
                        refine p_goto C dL_areBursts_341 (tgt := 185) (by decide) ?_
                        exact ih _ _ x30 x33
                      · exact p_none
                  · refine p_iload C dL_areBursts_299 rfl ?_
                    refine p_aload_n C dL_areBursts_301 rfl ?_
                    refine p_iload C dL_areBursts_302 rfl ?_
                    refine p_pcallVI C dL_areBursts_304 mvL_184 (cq_X7_startOf w l h _ _) rfl ⟨by decide, by decide⟩ ⟨rfl, Nat.le_of_ble_eq_true rfl⟩ (fun x34 => ?_)
                    refine p_aload_n C dL_areBursts_307 rfl ?_
                    refine p_iload C dL_areBursts_308 rfl ?_
                    refine p_pcallVI C dL_areBursts_310 mvL_169 (cq_X7_burstOf w l h _ _) rfl ⟨by decide, by decide⟩ ⟨rfl, Nat.le_of_ble_eq_true rfl⟩ (fun x35 => ?_)
                    refine p_iadd C dL_areBursts_313 ?_
                    refine p_iload_n C dL_areBursts_314 rfl ?_
                    refine p_iadd C dL_areBursts_315 ?_
                    refine p_icmp_lt C dL_areBursts_316 (tgt := 323) (by decide) ?_ ?_
                    · refine p_iconst C dL_areBursts_323 rfl ?_
                      refine p_istore C dL_areBursts_324 (by decide) ?_
                      refine p_iload C dL_areBursts_326 rfl ?_
                      refine p_if_eq C dL_areBursts_328 (tgt := 338) (by decide) ?_ ?_
                      · exact p_none
                      · refine p_iload C dL_areBursts_331 rfl ?_
                        refine p_if_ne C dL_areBursts_333 (tgt := 338) (by decide) ?_ ?_
                        · exact p_none
                        · refine p_iconst C dL_areBursts_336 rfl ?_
                          exact p_zret C Z1 Z2 (Or.inl rfl) dL_areBursts_337
                    · refine p_iconst C dL_areBursts_319 rfl ?_
                      refine p_goto C dL_areBursts_320 (tgt := 324) (by decide) ?_
                      refine p_istore C dL_areBursts_324 (by decide) ?_
                      refine p_iload C dL_areBursts_326 rfl ?_
                      refine p_if_eq C dL_areBursts_328 (tgt := 338) (by decide) ?_ ?_
                      · exact p_none
                      · refine p_iload C dL_areBursts_331 rfl ?_
                        refine p_if_ne C dL_areBursts_333 (tgt := 338) (by decide) ?_ ?_
                        · refine p_iincL C dL_areBursts_338 rfl (by decide) (fun x36 => ?_)
                          refine p_goto C dL_areBursts_341 (tgt := 185) (by decide) ?_
                          exact ih _ _ x30 x36
                        · exact p_none
              · refine p_aload_n C dL_areBursts_241 rfl ?_
                refine p_iload C dL_areBursts_242 rfl ?_
                refine p_pcallVI C dL_areBursts_244 mvL_175 (cq_X7_receiverOf w l h _ _) rfl ⟨by decide, by decide⟩ ⟨rfl, Nat.le_of_ble_eq_true rfl⟩ (fun x37 => ?_)
                refine p_aload_n C dL_areBursts_247 rfl ?_
                refine p_iload_n C dL_areBursts_248 rfl ?_
                refine p_pcallVI C dL_areBursts_249 mvL_175 (cq_X7_receiverOf w l h _ _) rfl ⟨by decide, by decide⟩ ⟨rfl, Nat.le_of_ble_eq_true rfl⟩ (fun x38 => ?_)
                refine p_icmp_ne C dL_areBursts_252 (tgt := 259) (by decide) ?_ ?_
                · refine p_iconst C dL_areBursts_259 rfl ?_
                  refine p_istore C dL_areBursts_260 (by decide) ?_
                  refine p_iload C dL_areBursts_262 rfl ?_
                  refine p_iload C dL_areBursts_264 rfl ?_
                  refine p_if_eq C dL_areBursts_266 (tgt := 276) (by decide) ?_ ?_
                  · refine p_iconst C dL_areBursts_276 rfl ?_
                    refine p_ior C dL_areBursts_277 ?_
                    refine p_istoreL C dL_areBursts_278 (by decide) (fun x39 => ?_)
                    refine p_aload_n C dL_areBursts_280 rfl ?_
                    refine p_iload C dL_areBursts_281 rfl ?_
                    refine p_pcallVI C dL_areBursts_283 mvL_184 (cq_X7_startOf w l h _ _) rfl ⟨by decide, by decide⟩ ⟨rfl, Nat.le_of_ble_eq_true rfl⟩ (fun x40 => ?_)
                    refine p_iload C dL_areBursts_286 rfl ?_
                    refine p_aload_n C dL_areBursts_288 rfl ?_
                    refine p_iload_n C dL_areBursts_289 rfl ?_
                    refine p_pcallVI C dL_areBursts_290 mvL_169 (cq_X7_burstOf w l h _ _) rfl ⟨by decide, by decide⟩ ⟨rfl, Nat.le_of_ble_eq_true rfl⟩ (fun x41 => ?_)
                    refine p_iadd C dL_areBursts_293 ?_
                    refine p_iload_n C dL_areBursts_294 rfl ?_
                    refine p_iadd C dL_areBursts_295 ?_
                    refine p_icmp_ge C dL_areBursts_296 (tgt := 319) (by decide) ?_ ?_
                    · refine p_iconst C dL_areBursts_319 rfl ?_
                      refine p_goto C dL_areBursts_320 (tgt := 324) (by decide) ?_
                      refine p_istore C dL_areBursts_324 (by decide) ?_
                      refine p_iload C dL_areBursts_326 rfl ?_
                      refine p_if_eq C dL_areBursts_328 (tgt := 338) (by decide) ?_ ?_
                      · refine p_iincL C dL_areBursts_338 rfl (by decide) (fun x42 => ?_)
                        refine p_goto C dL_areBursts_341 (tgt := 185) (by decide) ?_
                        exact ih _ _ x39 x42
                      · exact p_none
                    · refine p_iload C dL_areBursts_299 rfl ?_
                      refine p_aload_n C dL_areBursts_301 rfl ?_
                      refine p_iload C dL_areBursts_302 rfl ?_
                      refine p_pcallVI C dL_areBursts_304 mvL_184 (cq_X7_startOf w l h _ _) rfl ⟨by decide, by decide⟩ ⟨rfl, Nat.le_of_ble_eq_true rfl⟩ (fun x43 => ?_)
                      refine p_aload_n C dL_areBursts_307 rfl ?_
                      refine p_iload C dL_areBursts_308 rfl ?_
                      refine p_pcallVI C dL_areBursts_310 mvL_169 (cq_X7_burstOf w l h _ _) rfl ⟨by decide, by decide⟩ ⟨rfl, Nat.le_of_ble_eq_true rfl⟩ (fun x44 => ?_)
                      refine p_iadd C dL_areBursts_313 ?_
                      refine p_iload_n C dL_areBursts_314 rfl ?_
                      refine p_iadd C dL_areBursts_315 ?_
                      refine p_icmp_lt C dL_areBursts_316 (tgt := 323) (by decide) ?_ ?_
                      · refine p_iconst C dL_areBursts_323 rfl ?_
                        refine p_istore C dL_areBursts_324 (by decide) ?_
                        refine p_iload C dL_areBursts_326 rfl ?_
                        refine p_if_eq C dL_areBursts_328 (tgt := 338) (by decide) ?_ ?_
                        · refine p_iincL C dL_areBursts_338 rfl (by decide) (fun x45 => ?_)
                          refine p_goto C dL_areBursts_341 (tgt := 185) (by decide) ?_
                          exact ih _ _ x39 x45
                        · exact p_none
                      · refine p_iconst C dL_areBursts_319 rfl ?_
                        refine p_goto C dL_areBursts_320 (tgt := 324) (by decide) ?_
                        refine p_istore C dL_areBursts_324 (by decide) ?_
                        refine p_iload C dL_areBursts_326 rfl ?_
                        refine p_if_eq C dL_areBursts_328 (tgt := 338) (by decide) ?_ ?_
                        · refine p_iincL C dL_areBursts_338 rfl (by decide) (fun x46 => ?_)
                          refine p_goto C dL_areBursts_341 (tgt := 185) (by decide) ?_
                          exact ih _ _ x39 x46
                        · exact p_none
                  · exact p_none
                · refine p_iconst C dL_areBursts_255 rfl ?_
                  refine p_goto C dL_areBursts_256 (tgt := 260) (by decide) ?_
                  refine p_istore C dL_areBursts_260 (by decide) ?_
                  refine p_iload C dL_areBursts_262 rfl ?_
                  refine p_iload C dL_areBursts_264 rfl ?_
                  refine p_if_eq C dL_areBursts_266 (tgt := 276) (by decide) ?_ ?_
                  · exact p_none
                  · refine p_iconst C dL_areBursts_269 rfl ?_
                    refine p_iload C dL_areBursts_270 rfl ?_
                    refine p_ishl C dL_areBursts_272 ?_
                    refine p_goto C dL_areBursts_273 (tgt := 277) (by decide) ?_
                    refine p_ior C dL_areBursts_277 ?_
                    refine p_istoreL C dL_areBursts_278 (by decide) (fun x47 => ?_)
                    refine p_aload_n C dL_areBursts_280 rfl ?_
                    refine p_iload C dL_areBursts_281 rfl ?_
                    refine p_pcallVI C dL_areBursts_283 mvL_184 (cq_X7_startOf w l h _ _) rfl ⟨by decide, by decide⟩ ⟨rfl, Nat.le_of_ble_eq_true rfl⟩ (fun x48 => ?_)
                    refine p_iload C dL_areBursts_286 rfl ?_
                    refine p_aload_n C dL_areBursts_288 rfl ?_
                    refine p_iload_n C dL_areBursts_289 rfl ?_
                    refine p_pcallVI C dL_areBursts_290 mvL_169 (cq_X7_burstOf w l h _ _) rfl ⟨by decide, by decide⟩ ⟨rfl, Nat.le_of_ble_eq_true rfl⟩ (fun x49 => ?_)
                    refine p_iadd C dL_areBursts_293 ?_
                    refine p_iload_n C dL_areBursts_294 rfl ?_
                    refine p_iadd C dL_areBursts_295 ?_
                    refine p_icmp_ge C dL_areBursts_296 (tgt := 319) (by decide) ?_ ?_
                    · refine p_iconst C dL_areBursts_319 rfl ?_
                      refine p_goto C dL_areBursts_320 (tgt := 324) (by decide) ?_
                      refine p_istore C dL_areBursts_324 (by decide) ?_
                      refine p_iload C dL_areBursts_326 rfl ?_
                      refine p_if_eq C dL_areBursts_328 (tgt := 338) (by decide) ?_ ?_
                      · exact p_none
                      · refine p_iload C dL_areBursts_331 rfl ?_
                        refine p_if_ne C dL_areBursts_333 (tgt := 338) (by decide) ?_ ?_
                        · refine p_iincL C dL_areBursts_338 rfl (by decide) (fun x50 => ?_)
                          refine p_goto C dL_areBursts_341 (tgt := 185) (by decide) ?_
                          exact ih _ _ x47 x50
                        · exact p_none
                    · refine p_iload C dL_areBursts_299 rfl ?_
                      refine p_aload_n C dL_areBursts_301 rfl ?_
                      refine p_iload C dL_areBursts_302 rfl ?_
                      refine p_pcallVI C dL_areBursts_304 mvL_184 (cq_X7_startOf w l h _ _) rfl ⟨by decide, by decide⟩ ⟨rfl, Nat.le_of_ble_eq_true rfl⟩ (fun x51 => ?_)
                      refine p_aload_n C dL_areBursts_307 rfl ?_
                      refine p_iload C dL_areBursts_308 rfl ?_
                      refine p_pcallVI C dL_areBursts_310 mvL_169 (cq_X7_burstOf w l h _ _) rfl ⟨by decide, by decide⟩ ⟨rfl, Nat.le_of_ble_eq_true rfl⟩ (fun x52 => ?_)
                      refine p_iadd C dL_areBursts_313 ?_
                      refine p_iload_n C dL_areBursts_314 rfl ?_
                      refine p_iadd C dL_areBursts_315 ?_
                      refine p_icmp_lt C dL_areBursts_316 (tgt := 323) (by decide) ?_ ?_
                      · refine p_iconst C dL_areBursts_323 rfl ?_
                        refine p_istore C dL_areBursts_324 (by decide) ?_
                        refine p_iload C dL_areBursts_326 rfl ?_
                        refine p_if_eq C dL_areBursts_328 (tgt := 338) (by decide) ?_ ?_
                        · exact p_none
                        · refine p_iload C dL_areBursts_331 rfl ?_
                          refine p_if_ne C dL_areBursts_333 (tgt := 338) (by decide) ?_ ?_
                          · exact p_none
                          · refine p_iconst C dL_areBursts_336 rfl ?_
                            exact p_zret C Z1 Z2 (Or.inl rfl) dL_areBursts_337
                      · refine p_iconst C dL_areBursts_319 rfl ?_
                        refine p_goto C dL_areBursts_320 (tgt := 324) (by decide) ?_
                        refine p_istore C dL_areBursts_324 (by decide) ?_
                        refine p_iload C dL_areBursts_326 rfl ?_
                        refine p_if_eq C dL_areBursts_328 (tgt := 338) (by decide) ?_ ?_
                        · exact p_none
                        · refine p_iload C dL_areBursts_331 rfl ?_
                          refine p_if_ne C dL_areBursts_333 (tgt := 338) (by decide) ?_ ?_
                          · refine p_iincL C dL_areBursts_338 rfl (by decide) (fun x53 => ?_)
                            refine p_goto C dL_areBursts_341 (tgt := 185) (by decide) ?_
                            exact ih _ _ x47 x53
                          · exact p_none
          · refine p_goto C dL_areBursts_210 (tgt := 338) (by decide) ?_
            refine p_iincL C dL_areBursts_338 rfl (by decide) (fun x54 => ?_)
            refine p_goto C dL_areBursts_341 (tgt := 185) (by decide) ?_
            exact ih _ _ i5 x54
  have L10 : ∀ (a0 : Nat) (i1 : Int) (k : Int → Int → Option Int) (hk : ∀ (u4 u5 u6 u7 u8 : Option zv) (i2 : Int) (i3 : Int), zQP w p l e (zRm 4 123) s m args below meth c 9 qI (k i2 i3) 402 [some (.inr (7, a0)), some (.inl i1), some (.inl i2), some (.inl i3), u4, u5, u6, u7, u8] [] h) (n : Nat) (u4 u5 u6 u7 u8 : Option zv) (i2 : Int) (i3 : Int), zQP w p l e (zRm 4 123) s m args below meth c 9 qI (q_L_areBursts_L10 w h a0 i1 k n i2 i3) 10 [some (.inr (7, a0)), some (.inl i1), some (.inl i2), some (.inl i3), u4, u5, u6, u7, u8] [] h := by
    intro a0 i1 k hk n
    induction n with
    | zero =>
      intro u4 u5 u6 u7 u8 i2 i3
      exact p_none
    | succ n ih =>
      intro u4 u5 u6 u7 u8 i2 i3
      rw [q_L_areBursts_L10]
      refine p_iload_n C dL_areBursts_10 rfl ?_
      refine p_aload_n C dL_areBursts_11 rfl ?_
      refine p_pcallVI C dL_areBursts_12 mvL_144 (cq_X7_callCount w l h _) rfl ⟨by decide, by decide⟩ ⟨rfl, Nat.le_of_ble_eq_true rfl⟩ (fun x2 => ?_)
      refine p_icmp_ge C dL_areBursts_15 (tgt := 402) (by decide) ?_ ?_
      · exact hk _ _ _ _ _ i2 i3
      · refine p_aload_n C dL_areBursts_18 rfl ?_
        refine p_iload_n C dL_areBursts_19 rfl ?_
        refine p_pcallVI C dL_areBursts_20 mvL_169 (cq_X7_burstOf w l h _ _) rfl ⟨by decide, by decide⟩ ⟨rfl, Nat.le_of_ble_eq_true rfl⟩ (fun x3 => ?_)
        refine p_aload_n C dL_areBursts_23 rfl ?_
        refine p_iconst C dL_areBursts_24 rfl ?_
        refine p_pcallVI C dL_areBursts_25 mvL_166 (cq_X7_getSetting w l h _ _) rfl ⟨by decide, by decide⟩ ⟨rfl, Nat.le_of_ble_eq_true rfl⟩ (fun x4 => ?_)
        refine p_icmp_le C dL_areBursts_28 (tgt := 44) (by decide) ?_ ?_
        · refine p_iconst C dL_areBursts_44 rfl ?_
          exact p_zret C Z1 Z2 (Or.inl rfl) dL_areBursts_45
        · refine p_aload_n C dL_areBursts_31 rfl ?_
          refine p_iload_n C dL_areBursts_32 rfl ?_
          refine p_pcallVI C dL_areBursts_33 mvL_172 (cq_X7_senderOf w l h _ _) rfl ⟨by decide, by decide⟩ ⟨rfl, Nat.le_of_ble_eq_true rfl⟩ (fun x5 => ?_)
          refine p_aload_n C dL_areBursts_36 rfl ?_
          refine p_iload_n C dL_areBursts_37 rfl ?_
          refine p_pcallVI C dL_areBursts_38 mvL_175 (cq_X7_receiverOf w l h _ _) rfl ⟨by decide, by decide⟩ ⟨rfl, Nat.le_of_ble_eq_true rfl⟩ (fun x6 => ?_)
          refine p_icmp_ne C dL_areBursts_41 (tgt := 46) (by decide) ?_ ?_
          · refine p_aload_n C dL_areBursts_46 rfl ?_
            refine p_iload_n C dL_areBursts_47 rfl ?_
            refine p_pcallVI C dL_areBursts_48 mvL_178 (cq_X7_stateOf w l h _ _) rfl ⟨by decide, by decide⟩ ⟨rfl, Nat.le_of_ble_eq_true rfl⟩ (fun x7 => ?_)
            refine p_iconst C dL_areBursts_51 rfl ?_
            refine p_icmp_eq C dL_areBursts_52 (tgt := 120) (by decide) ?_ ?_
            · refine p_iload_n C dL_areBursts_120 rfl ?_
              refine p_aload_n C dL_areBursts_121 rfl ?_
              refine p_iload_n C dL_areBursts_122 rfl ?_
              refine p_pcallVI C dL_areBursts_123 mvL_169 (cq_X7_burstOf w l h _ _) rfl ⟨by decide, by decide⟩ ⟨rfl, Nat.le_of_ble_eq_true rfl⟩ (fun x8 => ?_)
              refine p_iadd C dL_areBursts_126 ?_
              refine p_istore_nL C dL_areBursts_127 (by decide) (fun x9 => ?_)
              refine p_aload_n C dL_areBursts_128 rfl ?_
              refine p_iload_n C dL_areBursts_129 rfl ?_
              refine p_pcallVI C dL_areBursts_130 mvL_184 (cq_X7_startOf w l h _ _) rfl ⟨by decide, by decide⟩ ⟨rfl, Nat.le_of_ble_eq_true rfl⟩ (fun x10 => ?_)
              refine p_istore C dL_areBursts_133 (by decide) ?_
              refine p_iload C dL_areBursts_135 rfl ?_
              refine p_aload_n C dL_areBursts_137 rfl ?_
              refine p_iconst C dL_areBursts_138 rfl ?_
              refine p_pcallVI C dL_areBursts_139 mvL_166 (cq_X7_getSetting w l h _ _) rfl ⟨by decide, by decide⟩ ⟨rfl, Nat.le_of_ble_eq_true rfl⟩ (fun x11 => ?_)
              refine p_iload_n C dL_areBursts_142 rfl ?_
              refine p_iadd C dL_areBursts_143 ?_
              refine p_icmp_lt C dL_areBursts_144 (tgt := 177) (by decide) ?_ ?_
              · refine p_iconst C dL_areBursts_177 rfl ?_
                exact p_zret C Z1 Z2 (Or.inl rfl) dL_areBursts_178
              · refine p_iload C dL_areBursts_147 rfl ?_
                refine p_aload_n C dL_areBursts_149 rfl ?_
                refine p_iload_n C dL_areBursts_150 rfl ?_
                refine p_pcallVI C dL_areBursts_151 mvL_169 (cq_X7_burstOf w l h _ _) rfl ⟨by decide, by decide⟩ ⟨rfl, Nat.le_of_ble_eq_true rfl⟩ (fun x12 => ?_)
                refine p_iadd C dL_areBursts_154 ?_
                refine p_iload_n C dL_areBursts_155 rfl ?_
                refine p_iadd C dL_areBursts_156 ?_
                refine p_aload_n C dL_areBursts_157 rfl ?_
                refine p_iconst C dL_areBursts_158 rfl ?_
                refine p_pcallVI C dL_areBursts_159 mvL_166 (cq_X7_getSetting w l h _ _) rfl ⟨by decide, by decide⟩ ⟨rfl, Nat.le_of_ble_eq_true rfl⟩ (fun x13 => ?_)
                refine p_icmp_gt C dL_areBursts_162 (tgt := 177) (by decide) ?_ ?_
                · refine p_iconst C dL_areBursts_177 rfl ?_
                  exact p_zret C Z1 Z2 (Or.inl rfl) dL_areBursts_178
                · refine p_aload_n C dL_areBursts_165 rfl ?_
                  refine p_iload_n C dL_areBursts_166 rfl ?_
                  refine p_pcallVI C dL_areBursts_167 mvL_187 (cq_X7_endOf w l h _ _) rfl ⟨by decide, by decide⟩ ⟨rfl, Nat.le_of_ble_eq_true rfl⟩ (fun x14 => ?_)
                  refine p_aload_n C dL_areBursts_170 rfl ?_
                  refine p_pcallVI C dL_areBursts_171 mvL_200 (cq_X7_now w l h _) rfl ⟨by decide, by decide⟩ ⟨rfl, Nat.le_of_ble_eq_true rfl⟩ (fun x15 => ?_)
                  refine p_icmp_gt C dL_areBursts_174 (tgt := 179) (by decide) ?_ ?_
                  · refine p_iconst C dL_areBursts_179 rfl ?_
                    refine p_istore C dL_areBursts_180 (by decide) ?_
                    refine p_iconst C dL_areBursts_182 rfl ?_
                    refine p_istore C dL_areBursts_183 (by decide) ?_
                    refine L185 a0 i1 x9 i3 x10 _ ?_ zF _ _ 0 0
                    intro u57 u58 x55 x56
                    refine p_aload_n C dL_areBursts_344 rfl ?_
                    refine p_iload_n C dL_areBursts_345 rfl ?_
                    refine p_pcallVI C dL_areBursts_346 mvL_193 (cq_X7_conflicts w l h _ _) rfl ⟨by decide, by decide⟩ ⟨rfl, Nat.le_of_ble_eq_true rfl⟩ (fun x59 => ?_)
                    refine p_iload C dL_areBursts_349 rfl ?_
                    refine p_icmp_ne C dL_areBursts_351 (tgt := 394) (by decide) ?_ ?_
                    · refine p_iconst C dL_areBursts_394 rfl ?_
                      exact p_zret C Z1 Z2 (Or.inl rfl) dL_areBursts_395
                    · refine p_aload_n C dL_areBursts_354 rfl ?_
                      refine p_aload_n C dL_areBursts_355 rfl ?_
                      refine p_iload_n C dL_areBursts_356 rfl ?_
                      refine p_pcallVI C dL_areBursts_357 mvL_181 (cq_X7_carrierOf w l h _ _) rfl ⟨by decide, by decide⟩ ⟨rfl, Nat.le_of_ble_eq_true rfl⟩ (fun x60 => ?_)
                      refine p_iload C dL_areBursts_360 rfl ?_
                      refine p_pcallVI C dL_areBursts_362 mvL_203 (cq_X7_callOver w l h _ _ _) rfl ⟨by decide, by decide⟩ ⟨rfl, Nat.le_of_ble_eq_true rfl⟩ (fun x61 => ?_)
                      refine p_iload_n C dL_areBursts_365 rfl ?_
                      refine p_icmp_ne C dL_areBursts_366 (tgt := 394) (by decide) ?_ ?_
                      · refine p_iconst C dL_areBursts_394 rfl ?_
                        exact p_zret C Z1 Z2 (Or.inl rfl) dL_areBursts_395
                      · refine p_aload_n C dL_areBursts_369 rfl ?_
                        refine p_aload_n C dL_areBursts_370 rfl ?_
                        refine p_iload_n C dL_areBursts_371 rfl ?_
                        refine p_pcallVI C dL_areBursts_372 mvL_181 (cq_X7_carrierOf w l h _ _) rfl ⟨by decide, by decide⟩ ⟨rfl, Nat.le_of_ble_eq_true rfl⟩ (fun x62 => ?_)
                        refine p_iload C dL_areBursts_375 rfl ?_
                        refine p_aload_n C dL_areBursts_377 rfl ?_
                        refine p_iload_n C dL_areBursts_378 rfl ?_
                        refine p_pcallVI C dL_areBursts_379 mvL_169 (cq_X7_burstOf w l h _ _) rfl ⟨by decide, by decide⟩ ⟨rfl, Nat.le_of_ble_eq_true rfl⟩ (fun x63 => ?_)
                        refine p_iadd C dL_areBursts_382 ?_
                        refine p_pcallVI C dL_areBursts_383 mvL_203 (cq_X7_callOver w l h _ _ _) rfl ⟨by decide, by decide⟩ ⟨rfl, Nat.le_of_ble_eq_true rfl⟩ (fun x64 => ?_)
                        refine p_iconst C dL_areBursts_386 rfl ?_
                        refine p_icmp_eq C dL_areBursts_387 (tgt := 396) (by decide) ?_ ?_
                        · refine p_iincL C dL_areBursts_396 rfl (by decide) (fun x65 => ?_)
                          refine p_goto C dL_areBursts_399 (tgt := 10) (by decide) ?_
                          exact ih _ _ _ _ _ x9 x65
                        · refine p_iload_n C dL_areBursts_390 rfl ?_
                          refine p_if_le C dL_areBursts_391 (tgt := 396) (by decide) ?_ ?_
                          · refine p_iincL C dL_areBursts_396 rfl (by decide) (fun x66 => ?_)
                            refine p_goto C dL_areBursts_399 (tgt := 10) (by decide) ?_
                            exact ih _ _ _ _ _ x9 x66
                          · refine p_iconst C dL_areBursts_394 rfl ?_
                            exact p_zret C Z1 Z2 (Or.inl rfl) dL_areBursts_395
                  · refine p_iconst C dL_areBursts_177 rfl ?_
                    exact p_zret C Z1 Z2 (Or.inl rfl) dL_areBursts_178
            · refine p_aload_n C dL_areBursts_55 rfl ?_
              refine p_iload_n C dL_areBursts_56 rfl ?_
              refine p_pcallVI C dL_areBursts_57 mvL_181 (cq_X7_carrierOf w l h _ _) rfl ⟨by decide, by decide⟩ ⟨rfl, Nat.le_of_ble_eq_true rfl⟩ (fun x67 => ?_)
              refine p_iconst C dL_areBursts_60 rfl ?_
              refine p_icmp_ne C dL_areBursts_61 (tgt := 99) (by decide) ?_ ?_
              · refine p_iconst C dL_areBursts_99 rfl ?_
                exact p_zret C Z1 Z2 (Or.inl rfl) dL_areBursts_100
              · refine p_aload_n C dL_areBursts_64 rfl ?_
                refine p_iload_n C dL_areBursts_65 rfl ?_
                refine p_pcallVI C dL_areBursts_66 mvL_184 (cq_X7_startOf w l h _ _) rfl ⟨by decide, by decide⟩ ⟨rfl, Nat.le_of_ble_eq_true rfl⟩ (fun x68 => ?_)
                refine p_iconst C dL_areBursts_69 rfl ?_
                refine p_icmp_ne C dL_areBursts_70 (tgt := 99) (by decide) ?_ ?_
                · refine p_iconst C dL_areBursts_99 rfl ?_
                  exact p_zret C Z1 Z2 (Or.inl rfl) dL_areBursts_100
                · refine p_aload_n C dL_areBursts_73 rfl ?_
                  refine p_iload_n C dL_areBursts_74 rfl ?_
                  refine p_pcallVI C dL_areBursts_75 mvL_187 (cq_X7_endOf w l h _ _) rfl ⟨by decide, by decide⟩ ⟨rfl, Nat.le_of_ble_eq_true rfl⟩ (fun x69 => ?_)
                  refine p_iconst C dL_areBursts_78 rfl ?_
                  refine p_icmp_ne C dL_areBursts_79 (tgt := 99) (by decide) ?_ ?_
                  · refine p_iconst C dL_areBursts_99 rfl ?_
                    exact p_zret C Z1 Z2 (Or.inl rfl) dL_areBursts_100
                  · refine p_aload_n C dL_areBursts_82 rfl ?_
                    refine p_iload_n C dL_areBursts_83 rfl ?_
                    refine p_pcallVI C dL_areBursts_84 mvL_190 (cq_X7_sendOffset w l h _ _) rfl ⟨by decide, by decide⟩ ⟨rfl, Nat.le_of_ble_eq_true rfl⟩ (fun x70 => ?_)
                    refine p_iconst C dL_areBursts_87 rfl ?_
                    refine p_icmp_ne C dL_areBursts_88 (tgt := 99) (by decide) ?_ ?_
                    · refine p_iconst C dL_areBursts_99 rfl ?_
                      exact p_zret C Z1 Z2 (Or.inl rfl) dL_areBursts_100
                    · refine p_aload_n C dL_areBursts_91 rfl ?_
                      refine p_iload_n C dL_areBursts_92 rfl ?_
                      refine p_pcallVI C dL_areBursts_93 mvL_193 (cq_X7_conflicts w l h _ _) rfl ⟨by decide, by decide⟩ ⟨rfl, Nat.le_of_ble_eq_true rfl⟩ (fun x71 => ?_)
                      refine p_if_eq C dL_areBursts_96 (tgt := 101) (by decide) ?_ ?_
                      · refine p_aload_n C dL_areBursts_101 rfl ?_
                        refine p_iload_n C dL_areBursts_102 rfl ?_
                        refine p_pcallVI C dL_areBursts_103 mvL_178 (cq_X7_stateOf w l h _ _) rfl ⟨by decide, by decide⟩ ⟨rfl, Nat.le_of_ble_eq_true rfl⟩ (fun x72 => ?_)
                        refine p_if_ne C dL_areBursts_106 (tgt := 396) (by decide) ?_ ?_
                        · refine p_iincL C dL_areBursts_396 rfl (by decide) (fun x73 => ?_)
                          refine p_goto C dL_areBursts_399 (tgt := 10) (by decide) ?_
                          exact ih _ _ _ _ _ i2 x73
                        · refine p_aload_n C dL_areBursts_109 rfl ?_
                          refine p_iload_n C dL_areBursts_110 rfl ?_
                          refine p_iconst C dL_areBursts_111 rfl ?_
                          refine p_pcallVI C dL_areBursts_112 mvL_196 (cq_X7_fitsWithout w l h _ _ _) rfl ⟨by decide, by decide⟩ ⟨rfl, Nat.le_of_ble_eq_true rfl⟩ (fun x74 => ?_)
                          refine p_if_eq C dL_areBursts_115 (tgt := 396) (by decide) ?_ ?_
                          · refine p_iincL C dL_areBursts_396 rfl (by decide) (fun x75 => ?_)
                            refine p_goto C dL_areBursts_399 (tgt := 10) (by decide) ?_
                            exact ih _ _ _ _ _ i2 x75
                          · refine p_iconst C dL_areBursts_118 rfl ?_
                            exact p_zret C Z1 Z2 (Or.inl rfl) dL_areBursts_119
                      · refine p_iconst C dL_areBursts_99 rfl ?_
                        exact p_zret C Z1 Z2 (Or.inl rfl) dL_areBursts_100
          · refine p_iconst C dL_areBursts_44 rfl ?_
            exact p_zret C Z1 Z2 (Or.inl rfl) dL_areBursts_45
  have L428 : ∀ (a0 : Nat) (i2 : Int) (i4 : Int) (k : Int → Int → Option Int) (hk : ∀ (u1 u6 u7 u8 : Option zv) (i3 : Int) (i5 : Int), zQP w p l e (zRm 4 123) s m args below meth c 9 qI (k i3 i5) 504 [some (.inr (7, a0)), u1, some (.inl i2), some (.inl i3), some (.inl i4), some (.inl i5), u6, u7, u8] [] h) (n : Nat) (u1 u6 u7 u8 : Option zv) (i3 : Int) (i5 : Int), zQP w p l e (zRm 4 123) s m args below meth c 9 qI (q_L_areBursts_L428 w h a0 i2 i4 k n i3 i5) 428 [some (.inr (7, a0)), u1, some (.inl i2), some (.inl i3), some (.inl i4), some (.inl i5), u6, u7, u8] [] h := by
    intro a0 i2 i4 k hk n
    induction n with
    | zero =>
      intro u1 u6 u7 u8 i3 i5
      exact p_none
    | succ n ih =>
      intro u1 u6 u7 u8 i3 i5
      rw [q_L_areBursts_L428]
      refine p_iload C dL_areBursts_428 rfl ?_
      refine p_aload_n C dL_areBursts_430 rfl ?_
      refine p_iload C dL_areBursts_431 rfl ?_
      refine p_pcallVI C dL_areBursts_433 mvL_212 (cq_X7_callsOn w l h _ _) rfl ⟨by decide, by decide⟩ ⟨rfl, Nat.le_of_ble_eq_true rfl⟩ (fun x86 => ?_)
      refine p_icmp_ge C dL_areBursts_436 (tgt := 504) (by decide) ?_ ?_
      · exact hk _ _ _ _ i3 i5
      · refine p_aload_n C dL_areBursts_439 rfl ?_
        refine p_iload C dL_areBursts_440 rfl ?_
        refine p_iload C dL_areBursts_442 rfl ?_
        refine p_pcallVI C dL_areBursts_444 mvL_215 (cq_X7_callAt w l h _ _ _) rfl ⟨by decide, by decide⟩ ⟨rfl, Nat.le_of_ble_eq_true rfl⟩ (fun x87 => ?_)
        refine p_istore C dL_areBursts_447 (by decide) ?_
        refine p_iload C dL_areBursts_449 rfl ?_
        refine p_if_lt C dL_areBursts_451 (tgt := 493) (by decide) ?_ ?_
        · refine p_iconst C dL_areBursts_493 rfl ?_
          exact p_zret C Z1 Z2 (Or.inl rfl) dL_areBursts_494
        · refine p_aload_n C dL_areBursts_454 rfl ?_
          refine p_iload C dL_areBursts_455 rfl ?_
          refine p_pcallVI C dL_areBursts_457 mvL_181 (cq_X7_carrierOf w l h _ _) rfl ⟨by decide, by decide⟩ ⟨rfl, Nat.le_of_ble_eq_true rfl⟩ (fun x88 => ?_)
          refine p_iload C dL_areBursts_460 rfl ?_
          refine p_icmp_ne C dL_areBursts_462 (tgt := 493) (by decide) ?_ ?_
          · refine p_iconst C dL_areBursts_493 rfl ?_
            exact p_zret C Z1 Z2 (Or.inl rfl) dL_areBursts_494
          · refine p_iload C dL_areBursts_465 rfl ?_
            refine p_if_le C dL_areBursts_467 (tgt := 495) (by decide) ?_ ?_
            · refine p_iincL C dL_areBursts_495 rfl (by decide) (fun x89 => ?_)
              refine p_iincL C dL_areBursts_498 rfl (by decide) (fun x90 => ?_)
              refine p_goto C dL_areBursts_501 (tgt := 428) (by decide) ?_
              exact ih _ _ _ _ x89 x90
            · refine p_aload_n C dL_areBursts_470 rfl ?_
              refine p_iload C dL_areBursts_471 rfl ?_
              refine p_pcallVI C dL_areBursts_473 mvL_184 (cq_X7_startOf w l h _ _) rfl ⟨by decide, by decide⟩ ⟨rfl, Nat.le_of_ble_eq_true rfl⟩ (fun x91 => ?_)
              refine p_aload_n C dL_areBursts_476 rfl ?_
              refine p_aload_n C dL_areBursts_477 rfl ?_
              refine p_iload C dL_areBursts_478 rfl ?_
              refine p_iload C dL_areBursts_480 rfl ?_
              refine p_iconst C dL_areBursts_482 rfl ?_
              refine p_isub C dL_areBursts_483 ?_
              refine p_pcallVI C dL_areBursts_484 mvL_215 (cq_X7_callAt w l h _ _ _) rfl ⟨by decide, by decide⟩ ⟨rfl, Nat.le_of_ble_eq_true rfl⟩ (fun x92 => ?_)
              refine p_pcallVI C dL_areBursts_487 mvL_184 (cq_X7_startOf w l h _ _) rfl ⟨by decide, by decide⟩ ⟨rfl, Nat.le_of_ble_eq_true rfl⟩ (fun x93 => ?_)
              refine p_icmp_gt C dL_areBursts_490 (tgt := 495) (by decide) ?_ ?_
              · refine p_iincL C dL_areBursts_495 rfl (by decide) (fun x94 => ?_)
                refine p_iincL C dL_areBursts_498 rfl (by decide) (fun x95 => ?_)
                refine p_goto C dL_areBursts_501 (tgt := 428) (by decide) ?_
                exact ih _ _ _ _ x94 x95
              · refine p_iconst C dL_areBursts_493 rfl ?_
                exact p_zret C Z1 Z2 (Or.inl rfl) dL_areBursts_494
  have L407 : ∀ (a0 : Nat) (k : Int → Int → Int → Option Int) (hk : ∀ (u1 u5 u6 u7 u8 : Option zv) (i2 : Int) (i3 : Int) (i4 : Int), zQP w p l e (zRm 4 123) s m args below meth c 9 qI (k i2 i3 i4) 528 [some (.inr (7, a0)), u1, some (.inl i2), some (.inl i3), some (.inl i4), u5, u6, u7, u8] [] h) (n : Nat) (u1 u5 u6 u7 u8 : Option zv) (i2 : Int) (i3 : Int) (i4 : Int), zQP w p l e (zRm 4 123) s m args below meth c 9 qI (q_L_areBursts_L407 w h a0 k n i2 i3 i4) 407 [some (.inr (7, a0)), u1, some (.inl i2), some (.inl i3), some (.inl i4), u5, u6, u7, u8] [] h := by
    intro a0 k hk n
    induction n with
    | zero =>
      intro u1 u5 u6 u7 u8 i2 i3 i4
      exact p_none
    | succ n ih =>
      intro u1 u5 u6 u7 u8 i2 i3 i4
      rw [q_L_areBursts_L407]
      refine p_iload C dL_areBursts_407 rfl ?_
      refine p_aload_n C dL_areBursts_409 rfl ?_
      refine p_pcallVI C dL_areBursts_410 mvL_206 (cq_X7_carrierCount w l h _) rfl ⟨by decide, by decide⟩ ⟨rfl, Nat.le_of_ble_eq_true rfl⟩ (fun x83 => ?_)
      refine p_icmp_ge C dL_areBursts_413 (tgt := 528) (by decide) ?_ ?_
      · exact hk _ _ _ _ _ i2 i3 i4
      · refine p_iload_n C dL_areBursts_416 rfl ?_
        refine p_aload_n C dL_areBursts_417 rfl ?_
        refine p_iload C dL_areBursts_418 rfl ?_
        refine p_pcallVI C dL_areBursts_420 mvL_209 (cq_X7_usedSymbols w l h _ _) rfl ⟨by decide, by decide⟩ ⟨rfl, Nat.le_of_ble_eq_true rfl⟩ (fun x84 => ?_)
        refine p_isub C dL_areBursts_423 ?_
        refine p_istore_nL C dL_areBursts_424 (by decide) (fun x85 => ?_)
        refine p_iconst C dL_areBursts_425 rfl ?_
        refine p_istore C dL_areBursts_426 (by decide) ?_
        refine L428 a0 x85 i4 _ ?_ zF _ _ _ _ i3 0
        intro u98 u99 u100 u101 x96 x97
        refine p_aload_n C dL_areBursts_504 rfl ?_
        refine p_iload C dL_areBursts_505 rfl ?_
        refine p_aload_n C dL_areBursts_507 rfl ?_
        refine p_iload C dL_areBursts_508 rfl ?_
        refine p_pcallVI C dL_areBursts_510 mvL_212 (cq_X7_callsOn w l h _ _) rfl ⟨by decide, by decide⟩ ⟨rfl, Nat.le_of_ble_eq_true rfl⟩ (fun x102 => ?_)
        refine p_pcallVI C dL_areBursts_513 mvL_215 (cq_X7_callAt w l h _ _ _) rfl ⟨by decide, by decide⟩ ⟨rfl, Nat.le_of_ble_eq_true rfl⟩ (fun x103 => ?_)
        refine p_iconst C dL_areBursts_516 rfl ?_
        refine p_icmp_eq C dL_areBursts_517 (tgt := 522) (by decide) ?_ ?_
        · refine p_iincL C dL_areBursts_522 rfl (by decide) (fun x104 => ?_)
          refine p_goto C dL_areBursts_525 (tgt := 407) (by decide) ?_
          exact ih _ _ _ _ _ x85 x96 x104
        · refine p_iconst C dL_areBursts_520 rfl ?_
          exact p_zret C Z1 Z2 (Or.inl rfl) dL_areBursts_521
  have L531 : ∀ (a0 : Nat) (i2 : Int) (k : Int → Int → Option Int) (hk : ∀ (u1 u5 u6 u7 u8 : Option zv) (i3 : Int) (i4 : Int), zQP w p l e (zRm 4 123) s m args below meth c 9 qI (k i3 i4) 564 [some (.inr (7, a0)), u1, some (.inl i2), some (.inl i3), some (.inl i4), u5, u6, u7, u8] [] h) (n : Nat) (u1 u5 u6 u7 u8 : Option zv) (i3 : Int) (i4 : Int), zQP w p l e (zRm 4 123) s m args below meth c 9 qI (q_L_areBursts_L531 w h a0 i2 k n i3 i4) 531 [some (.inr (7, a0)), u1, some (.inl i2), some (.inl i3), some (.inl i4), u5, u6, u7, u8] [] h := by
    intro a0 i2 k hk n
    induction n with
    | zero =>
      intro u1 u5 u6 u7 u8 i3 i4
      exact p_none
    | succ n ih =>
      intro u1 u5 u6 u7 u8 i3 i4
      rw [q_L_areBursts_L531]
      refine p_iload C dL_areBursts_531 rfl ?_
      refine p_aload_n C dL_areBursts_533 rfl ?_
      refine p_pcallVI C dL_areBursts_534 mvL_144 (cq_X7_callCount w l h _) rfl ⟨by decide, by decide⟩ ⟨rfl, Nat.le_of_ble_eq_true rfl⟩ (fun x113 => ?_)
      refine p_icmp_ge C dL_areBursts_537 (tgt := 564) (by decide) ?_ ?_
      · exact hk _ _ _ _ _ i3 i4
      · refine p_iload_n C dL_areBursts_540 rfl ?_
        refine p_aload_n C dL_areBursts_541 rfl ?_
        refine p_iload C dL_areBursts_542 rfl ?_
        refine p_pcallVI C dL_areBursts_544 mvL_178 (cq_X7_stateOf w l h _ _) rfl ⟨by decide, by decide⟩ ⟨rfl, Nat.le_of_ble_eq_true rfl⟩ (fun x114 => ?_)
        refine p_iconst C dL_areBursts_547 rfl ?_
        refine p_icmp_ne C dL_areBursts_548 (tgt := 555) (by decide) ?_ ?_
        · refine p_iconst C dL_areBursts_555 rfl ?_
          refine p_isub C dL_areBursts_556 ?_
          refine p_istore_nL C dL_areBursts_557 (by decide) (fun x115 => ?_)
          refine p_iincL C dL_areBursts_558 rfl (by decide) (fun x116 => ?_)
          refine p_goto C dL_areBursts_561 (tgt := 531) (by decide) ?_
          exact ih _ _ _ _ _ x115 x116
        · refine p_iconst C dL_areBursts_551 rfl ?_
          refine p_goto C dL_areBursts_552 (tgt := 556) (by decide) ?_
          refine p_isub C dL_areBursts_556 ?_
          refine p_istore_nL C dL_areBursts_557 (by decide) (fun x117 => ?_)
          refine p_iincL C dL_areBursts_558 rfl (by decide) (fun x118 => ?_)
          refine p_goto C dL_areBursts_561 (tgt := 531) (by decide) ?_
          exact ih _ _ _ _ _ x117 x118
  unfold q_L_areBursts
  refine p_aload_n C dL_areBursts_0 rfl ?_
  refine p_iconst C dL_areBursts_1 rfl ?_
  refine p_pcallVI C dL_areBursts_2 mvL_166 (cq_X7_getSetting w l h _ _) rfl ⟨by decide, by decide⟩ ⟨rfl, Nat.le_of_ble_eq_true rfl⟩ (fun x1 => ?_)
  refine p_istore_n C dL_areBursts_5 (by decide) ?_
  refine p_iconst C dL_areBursts_6 rfl ?_
  refine p_istore_n C dL_areBursts_7 (by decide) ?_
  refine p_iconst C dL_areBursts_8 rfl ?_
  refine p_istore_n C dL_areBursts_9 (by decide) ?_
  refine L10 a_0 x1 _ ?_ zF _ _ _ _ _ 0 0
  intro u78 u79 u80 u81 u82 x76 x77
  refine p_iconst C dL_areBursts_402 rfl ?_
  refine p_istore_n C dL_areBursts_403 (by decide) ?_
  refine p_iconst C dL_areBursts_404 rfl ?_
  refine p_istore C dL_areBursts_405 (by decide) ?_
  refine L407 a_0 _ ?_ zF _ _ _ _ _ x76 0 0
  intro u108 u109 u110 u111 u112 x105 x106 x107
  refine p_iconst C dL_areBursts_528 rfl ?_
  refine p_istore C dL_areBursts_529 (by decide) ?_
  refine L531 a_0 x105 _ ?_ zF _ _ _ _ _ x106 0
  intro u121 u122 u123 u124 u125 x119 x120
  refine p_iload_n C dL_areBursts_564 rfl ?_
  refine p_if_ne C dL_areBursts_565 (tgt := 576) (by decide) ?_ ?_
  · refine p_iconst C dL_areBursts_576 rfl ?_
    exact p_zret C Z1 Z2 (Or.inl rfl) dL_areBursts_577
  · refine p_iload_n C dL_areBursts_568 rfl ?_
    refine p_if_ne C dL_areBursts_569 (tgt := 576) (by decide) ?_ ?_
    · refine p_iconst C dL_areBursts_576 rfl ?_
      exact p_zret C Z1 Z2 (Or.inl rfl) dL_areBursts_577
    · refine p_iconst C dL_areBursts_572 rfl ?_
      refine p_goto C dL_areBursts_573 (tgt := 577) (by decide) ?_
      exact p_zret C Z1 Z2 (Or.inr rfl) dL_areBursts_577
def q_L_isQueue_L4 (w : zW) (h : zH) (a0 : Nat) (k : Int → Int → Option Int) : Nat → Int → Int → Option Int
  | 0, _, _ => none
  | n + 1, i1, i2 => zbp (q_X7_callCount h a0) (fun x1 => if x1 ≤ i2 then (k i1 i2) else (zbp (q_X7_stateOf h a0 i2) (fun x2 => if x2 = 0 then (zlet (zw (i1 + 1)) (fun x5 => zlet (zw (i2 + 1)) (fun x6 => q_L_isQueue_L4 w h a0 k n x5 x6))) else (zlet (zw (i1 + 0)) (fun x3 => zlet (zw (i2 + 1)) (fun x4 => q_L_isQueue_L4 w h a0 k n x3 x4))))))
def q_L_isQueue_L64 (w : zW) (h : zH) (a0 : Nat) (i1 : Int) (k : Int → Option Int) : Nat → Int → Option Int
  | 0, _ => none
  | n + 1, i2 => if i1 ≤ i2 then (k i2) else (zbp (q_X7_queuedAt h a0 i2) (fun x14 => zbp (q_X7_stateOf h a0 x14) (fun x15 => if x15 = 0 then (if i2 = 0 then (if ((-1) : Int) < 0 then (zlet (zw (i2 + 1)) (fun x24 => q_L_isQueue_L64 w h a0 i1 k n x24)) else (none)) else (zbp (q_X7_queuedAt h a0 (zw (i2 - 1))) (fun x16 => if x16 < 0 then (zlet (zw (i2 + 1)) (fun x17 => q_L_isQueue_L64 w h a0 i1 k n x17)) else (zbp (q_X7_priorityOf h a0 x16) (fun x18 => zbp (q_X7_priorityOf h a0 x14) (fun x19 => if x18 < x19 then (some 0) else (zbp (q_X7_priorityOf h a0 x16) (fun x20 => zbp (q_X7_priorityOf h a0 x14) (fun x21 => if x20 = x21 then (if x16 ≤ x14 then (zlet (zw (i2 + 1)) (fun x23 => q_L_isQueue_L64 w h a0 i1 k n x23)) else (some 0)) else (zlet (zw (i2 + 1)) (fun x22 => q_L_isQueue_L64 w h a0 i1 k n x22))))))))))) else (some 0))))
def q_L_isQueue (w : zW) (h : zH) (a_0 : Nat) : Option Int := q_L_isQueue_L4 w h a_0 (fun x7 x8 => zbp (q_X7_queueLength h a_0) (fun x11 => if x11 = x7 then (zbp (q_X7_queuedAt h a_0 x7) (fun x12 => if x12 = (-1) then (zbp (q_X7_queuedAt h a_0 ((-1))) (fun x13 => if x13 = (-1) then (q_L_isQueue_L64 w h a_0 x7 (fun x25 => some 1) zF 0) else (some 0))) else (some 0))) else (some 0))) zF 0 0
theorem cq_L_isQueue (w : zW) (l : Launch) (h : zH) (a_0 : Nat) : zCp w l yL_isQueue cL_isQueue 5 (some .boolean) 3 95 [.inr (7, a_0)] h qI (q_L_isQueue w h a_0) := by
  refine zCp.of (own := RL) (loc := [some (.inr (7, a_0)), none, none, none, none]) (by decide) rfl (Nat.le_of_ble_eq_true rfl) (fun k v hk => ?_) ?_
  · exact zloc_ok 4 rfl hk
  intro p e s m args below meth c C Z1 Z2
  have L4 : ∀ (a0 : Nat) (k : Int → Int → Option Int) (hk : ∀ (u3 u4 : Option zv) (i1 : Int) (i2 : Int), zQP w p l e (zRm 3 95) s m args below meth c 5 qI (k i1 i2) 34 [some (.inr (7, a0)), some (.inl i1), some (.inl i2), u3, u4] [] h) (n : Nat) (u3 u4 : Option zv) (i1 : Int) (i2 : Int), zQP w p l e (zRm 3 95) s m args below meth c 5 qI (q_L_isQueue_L4 w h a0 k n i1 i2) 4 [some (.inr (7, a0)), some (.inl i1), some (.inl i2), u3, u4] [] h := by
    intro a0 k hk n
    induction n with
    | zero =>
      intro u3 u4 i1 i2
      exact p_none
    | succ n ih =>
      intro u3 u4 i1 i2
      rw [q_L_isQueue_L4]
      refine p_iload_n C dL_isQueue_4 rfl ?_
      refine p_aload_n C dL_isQueue_5 rfl ?_
      refine p_pcallVI C dL_isQueue_6 mvL_144 (cq_X7_callCount w l h _) rfl ⟨by decide, by decide⟩ ⟨rfl, Nat.le_of_ble_eq_true rfl⟩ (fun x1 => ?_)
      refine p_icmp_ge C dL_isQueue_9 (tgt := 34) (by decide) ?_ ?_
      · exact hk _ _ i1 i2
      · refine p_iload_n C dL_isQueue_12 rfl ?_
        refine p_aload_n C dL_isQueue_13 rfl ?_
        refine p_iload_n C dL_isQueue_14 rfl ?_
        refine p_pcallVI C dL_isQueue_15 mvL_178 (cq_X7_stateOf w l h _ _) rfl ⟨by decide, by decide⟩ ⟨rfl, Nat.le_of_ble_eq_true rfl⟩ (fun x2 => ?_)
        refine p_if_ne C dL_isQueue_18 (tgt := 25) (by decide) ?_ ?_
        · refine p_iconst C dL_isQueue_25 rfl ?_
          refine p_iadd C dL_isQueue_26 ?_
          refine p_istore_nL C dL_isQueue_27 (by decide) (fun x3 => ?_)
          refine p_iincL C dL_isQueue_28 rfl (by decide) (fun x4 => ?_)
          refine p_goto C dL_isQueue_31 (tgt := 4) (by decide) ?_
          exact ih _ _ x3 x4
        · refine p_iconst C dL_isQueue_21 rfl ?_
          refine p_goto C dL_isQueue_22 (tgt := 26) (by decide) ?_
          refine p_iadd C dL_isQueue_26 ?_
          refine p_istore_nL C dL_isQueue_27 (by decide) (fun x5 => ?_)
          refine p_iincL C dL_isQueue_28 rfl (by decide) (fun x6 => ?_)
          refine p_goto C dL_isQueue_31 (tgt := 4) (by decide) ?_
          exact ih _ _ x5 x6
  have L64 : ∀ (a0 : Nat) (i1 : Int) (k : Int → Option Int) (hk : ∀ (u3 u4 : Option zv) (i2 : Int), zQP w p l e (zRm 3 95) s m args below meth c 5 qI (k i2) 149 [some (.inr (7, a0)), some (.inl i1), some (.inl i2), u3, u4] [] h) (n : Nat) (u3 u4 : Option zv) (i2 : Int), zQP w p l e (zRm 3 95) s m args below meth c 5 qI (q_L_isQueue_L64 w h a0 i1 k n i2) 64 [some (.inr (7, a0)), some (.inl i1), some (.inl i2), u3, u4] [] h := by
    intro a0 i1 k hk n
    induction n with
    | zero =>
      intro u3 u4 i2
      exact p_none
    | succ n ih =>
      intro u3 u4 i2
      rw [q_L_isQueue_L64]
      refine p_iload_n C dL_isQueue_64 rfl ?_
      refine p_iload_n C dL_isQueue_65 rfl ?_
      refine p_icmp_ge C dL_isQueue_66 (tgt := 149) (by decide) ?_ ?_
      · exact hk _ _ i2
      · refine p_aload_n C dL_isQueue_69 rfl ?_
        refine p_iload_n C dL_isQueue_70 rfl ?_
        refine p_pcallVI C dL_isQueue_71 mvL_221 (cq_X7_queuedAt w l h _ _) rfl ⟨by decide, by decide⟩ ⟨rfl, Nat.le_of_ble_eq_true rfl⟩ (fun x14 => ?_)
        refine p_istore_n C dL_isQueue_74 (by decide) ?_
        refine p_aload_n C dL_isQueue_75 rfl ?_
        refine p_iload_n C dL_isQueue_76 rfl ?_
        refine p_pcallVI C dL_isQueue_77 mvL_178 (cq_X7_stateOf w l h _ _) rfl ⟨by decide, by decide⟩ ⟨rfl, Nat.le_of_ble_eq_true rfl⟩ (fun x15 => ?_)
        refine p_if_eq C dL_isQueue_80 (tgt := 85) (by decide) ?_ ?_
        · refine p_iload_n C dL_isQueue_85 rfl ?_
          refine p_if_ne C dL_isQueue_86 (tgt := 93) (by decide) ?_ ?_
          · refine p_aload_n C dL_isQueue_93 rfl ?_
            refine p_iload_n C dL_isQueue_94 rfl ?_
            refine p_iconst C dL_isQueue_95 rfl ?_
            refine p_isub C dL_isQueue_96 ?_
            refine p_pcallVI C dL_isQueue_97 mvL_221 (cq_X7_queuedAt w l h _ _) rfl ⟨by decide, by decide⟩ ⟨rfl, Nat.le_of_ble_eq_true rfl⟩ (fun x16 => ?_)
            refine p_istore C dL_isQueue_100 (by decide) ?_
            refine p_iload C dL_isQueue_102 rfl ?_
            refine p_if_lt C dL_isQueue_104 (tgt := 143) (by decide) ?_ ?_
            · refine p_iincL C dL_isQueue_143 rfl (by decide) (fun x17 => ?_)
              refine p_goto C dL_isQueue_146 (tgt := 64) (by decide) ?_
              exact ih _ _ x17
            · refine p_aload_n C dL_isQueue_107 rfl ?_
              refine p_iload C dL_isQueue_108 rfl ?_
              refine p_pcallVI C dL_isQueue_110 mvL_224 (cq_X7_priorityOf w l h _ _) rfl ⟨by decide, by decide⟩ ⟨rfl, Nat.le_of_ble_eq_true rfl⟩ (fun x18 => ?_)
              refine p_aload_n C dL_isQueue_113 rfl ?_
              refine p_iload_n C dL_isQueue_114 rfl ?_
              refine p_pcallVI C dL_isQueue_115 mvL_224 (cq_X7_priorityOf w l h _ _) rfl ⟨by decide, by decide⟩ ⟨rfl, Nat.le_of_ble_eq_true rfl⟩ (fun x19 => ?_)
              refine p_icmp_lt C dL_isQueue_118 (tgt := 141) (by decide) ?_ ?_
              · refine p_iconst C dL_isQueue_141 rfl ?_
                exact p_zret C Z1 Z2 (Or.inl rfl) dL_isQueue_142
              · refine p_aload_n C dL_isQueue_121 rfl ?_
                refine p_iload C dL_isQueue_122 rfl ?_
                refine p_pcallVI C dL_isQueue_124 mvL_224 (cq_X7_priorityOf w l h _ _) rfl ⟨by decide, by decide⟩ ⟨rfl, Nat.le_of_ble_eq_true rfl⟩ (fun x20 => ?_)
                refine p_aload_n C dL_isQueue_127 rfl ?_
                refine p_iload_n C dL_isQueue_128 rfl ?_
                refine p_pcallVI C dL_isQueue_129 mvL_224 (cq_X7_priorityOf w l h _ _) rfl ⟨by decide, by decide⟩ ⟨rfl, Nat.le_of_ble_eq_true rfl⟩ (fun x21 => ?_)
                refine p_icmp_ne C dL_isQueue_132 (tgt := 143) (by decide) ?_ ?_
                · refine p_iincL C dL_isQueue_143 rfl (by decide) (fun x22 => ?_)
                  refine p_goto C dL_isQueue_146 (tgt := 64) (by decide) ?_
                  exact ih _ _ x22
                · refine p_iload C dL_isQueue_135 rfl ?_
                  refine p_iload_n C dL_isQueue_137 rfl ?_
                  refine p_icmp_le C dL_isQueue_138 (tgt := 143) (by decide) ?_ ?_
                  · refine p_iincL C dL_isQueue_143 rfl (by decide) (fun x23 => ?_)
                    refine p_goto C dL_isQueue_146 (tgt := 64) (by decide) ?_
                    exact ih _ _ x23
                  · refine p_iconst C dL_isQueue_141 rfl ?_
                    exact p_zret C Z1 Z2 (Or.inl rfl) dL_isQueue_142
          · refine p_iconst C dL_isQueue_89 rfl ?_
            refine p_goto C dL_isQueue_90 (tgt := 100) (by decide) ?_
            refine p_istore C dL_isQueue_100 (by decide) ?_
            refine p_iload C dL_isQueue_102 rfl ?_
            refine p_if_lt C dL_isQueue_104 (tgt := 143) (by decide) ?_ ?_
            · refine p_iincL C dL_isQueue_143 rfl (by decide) (fun x24 => ?_)
              refine p_goto C dL_isQueue_146 (tgt := 64) (by decide) ?_
              exact ih _ _ x24
            · exact p_none
        · refine p_iconst C dL_isQueue_83 rfl ?_
          exact p_zret C Z1 Z2 (Or.inl rfl) dL_isQueue_84
  unfold q_L_isQueue
  refine p_iconst C dL_isQueue_0 rfl ?_
  refine p_istore_n C dL_isQueue_1 (by decide) ?_
  refine p_iconst C dL_isQueue_2 rfl ?_
  refine p_istore_n C dL_isQueue_3 (by decide) ?_
  refine L4 a_0 _ ?_ zF _ _ 0 0
  intro u9 u10 x7 x8
  refine p_aload_n C dL_isQueue_34 rfl ?_
  refine p_pcallVI C dL_isQueue_35 mvL_218 (cq_X7_queueLength w l h _) rfl ⟨by decide, by decide⟩ ⟨rfl, Nat.le_of_ble_eq_true rfl⟩ (fun x11 => ?_)
  refine p_iload_n C dL_isQueue_38 rfl ?_
  refine p_icmp_ne C dL_isQueue_39 (tgt := 60) (by decide) ?_ ?_
  · refine p_iconst C dL_isQueue_60 rfl ?_
    exact p_zret C Z1 Z2 (Or.inl rfl) dL_isQueue_61
  · refine p_aload_n C dL_isQueue_42 rfl ?_
    refine p_iload_n C dL_isQueue_43 rfl ?_
    refine p_pcallVI C dL_isQueue_44 mvL_221 (cq_X7_queuedAt w l h _ _) rfl ⟨by decide, by decide⟩ ⟨rfl, Nat.le_of_ble_eq_true rfl⟩ (fun x12 => ?_)
    refine p_iconst C dL_isQueue_47 rfl ?_
    refine p_icmp_ne C dL_isQueue_48 (tgt := 60) (by decide) ?_ ?_
    · refine p_iconst C dL_isQueue_60 rfl ?_
      exact p_zret C Z1 Z2 (Or.inl rfl) dL_isQueue_61
    · refine p_aload_n C dL_isQueue_51 rfl ?_
      refine p_iconst C dL_isQueue_52 rfl ?_
      refine p_pcallVI C dL_isQueue_53 mvL_221 (cq_X7_queuedAt w l h _ _) rfl ⟨by decide, by decide⟩ ⟨rfl, Nat.le_of_ble_eq_true rfl⟩ (fun x13 => ?_)
      refine p_iconst C dL_isQueue_56 rfl ?_
      refine p_icmp_eq C dL_isQueue_57 (tgt := 62) (by decide) ?_ ?_
      · refine p_iconst C dL_isQueue_62 rfl ?_
        refine p_istore_n C dL_isQueue_63 (by decide) ?_
        refine L64 a_0 x7 _ ?_ zF _ _ 0
        intro u26 u27 x25
        refine p_iconst C dL_isQueue_149 rfl ?_
        exact p_zret C Z1 Z2 (Or.inr rfl) dL_isQueue_150
      · refine p_iconst C dL_isQueue_60 rfl ?_
        exact p_zret C Z1 Z2 (Or.inl rfl) dL_isQueue_61
