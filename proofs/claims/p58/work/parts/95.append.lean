/-! The JDK's StringBuilder: append of a text, of a number; its constructor. -/
theorem y_recvT {w : zW} {p : Program} {s : State} {m : MethodId} {args : Array Value} {c : Code} {nL : Nat} {cc : ByteArray} {own : String} (C : zC w p s m args c nL cc own) {H : Heap} {locs : List Loc} (hS : va_S (zA w) s.heap H locs) : ∃ cellB : Cell, H[zwS w 31]? = some cellB ∧ cellB.vm.isStatics = false ∧ s.vm.findClass "java/lang/String" = some cellB.cls := by
  obtain ⟨hx, hb, hml, hown, hts, hK⟩ := C
  have := vk_recv hK.2.2.1.2.2.2.2.2.2.2.2.2.1.2 Nat.zero_lt_one hS
  exact this
theorem y_fitT {w : zW} (hT : zTok w) : sb_Fit (fun j => (zwTl w).getD j 0) := fun j => by
  by_cases h : j < (zwTl w).length
  · refine y_fits (hT.2 _ ?_)
    show (zwTl w).getD j 0 ∈ zwTl w
    rw [List.getD_eq_getElem?_getD, List.getElem?_eq_getElem h]
    exact List.getElem_mem h
  · show fits .byte (.int ((zwTl w).getD j 0)) = true
    rw [List.getD_eq_getElem?_getD, List.getElem?_eq_none (Nat.le_of_not_lt h)]
    rfl
theorem c_J0_getBytes (w : zW) (l : Launch) (b da m n dp : Nat) (f : Nat → Int32) (hm : m ≤ 100000) (hd9 : dp + (zwTl w).length ≤ m) : yCt w l yJ0_getBytes_840e7 cJ0_getBytes_840e7 4 none 1 80 0 0 [.inr (30, zwS w 31), .inr (14, da), .inl (dp : Int), .inl 0] (yL w (yW w b da m n f)) (fun r G1 => r = none ∧ G1 = yL w (yW w b da m n (va_cpy (fun j => (zwTl w).getD j 0) f 0 dp (zwTl w).length))) := by
  refine yCt.of (own := RJ0) (loc := [some (.inr (30, zwS w 31)), some (.inr (14, da)), some (.inl (dp : Int)), some (.inl 0)]) (by decide +kernel) rfl (Nat.le_of_ble_eq_true rfl) (fun k v hk => ?_) ?_
  · exact zloc_ok 0 rfl hk
  intro p e s m9 args below meth c C hX Z1 Z2 Z3 hN
  refine y_aload_n C dJ0_getBytes_840e7_0 rfl ?_
  refine y_pureT (v := .inl 0) (k := 0) C hX dJ0_getBytes_840e7_1 ⟨rfl, (zmem 575 (by decide +kernel)), (zmem 576 (by decide +kernel)), (zmem 577 (by decide +kernel)), (zmem 32 (by decide +kernel)), (zmem 578 (by decide +kernel)), ⟨by decide, by decide⟩, by decide +kernel⟩ (c_J0_coderT _ l zH0) (fun u hu => by cases hu) rfl ⟨Nat.le_of_ble_eq_true rfl, Nat.le_of_ble_eq_true rfl⟩ ⟨Nat.le_refl _, Nat.le_refl _⟩ ⟨rfl, Nat.le_of_ble_eq_true rfl⟩ zR_0 yL_stab ?_
  refine y_iload_n C dJ0_getBytes_840e7_4 rfl ?_
  refine y_icmp_ne C dJ0_getBytes_840e7_5 (tgt := 28) (by decide) (fun c1 => absurd rfl c1) (fun _ => ?_)
  refine y_aload_n C dJ0_getBytes_840e7_8 rfl ?_
  refine y_svalT C dJ0_getBytes_840e7_9 (zmem 698 (by decide +kernel)) ?_
  refine y_iconst C dJ0_getBytes_840e7_12 rfl ?_
  refine y_aload_n C dJ0_getBytes_840e7_13 rfl ?_
  refine y_iload_n C dJ0_getBytes_840e7_14 rfl ?_
  refine y_iload_n C dJ0_getBytes_840e7_15 rfl ?_
  refine y_ishl C dJ0_getBytes_840e7_16 ?_
  refine y_num (y := (dp : Int)) (zshl_0 ⟨by omega, by omega⟩) ?_
  refine y_aload_n C dJ0_getBytes_840e7_17 rfl ?_
  refine y_svalT C dJ0_getBytes_840e7_18 (zmem 698 (by decide +kernel)) ?_
  refine y_blenT C dJ0_getBytes_840e7_21 ?_
  refine y_copyT (q1 := 1) (dp := dp) C dJ0_getBytes_840e7_22 (zmem 612 (by decide +kernel)) rfl hd9 hm ⟨Nat.le_of_ble_eq_true rfl, Nat.le_of_ble_eq_true rfl⟩ ?_
  refine y_goto C dJ0_getBytes_840e7_25 (tgt := 43) (by decide) ?_
  exact y_vret C Z1 Z2 ⟨Nat.le_refl _, Nat.le_refl _⟩ dJ0_getBytes_840e7_43 ⟨rfl, rfl⟩
theorem c_J5_inflateIf (w : zW) (l : Launch) (b da m n : Nat) (f : Nat → Int32) : yCt w l yJ5_inflateIfNeededFor_a7421 cJ5_inflateIfNeededFor_a7421 2 none 1 40 0 0 [.inr (8, b), .inr (30, zwS w 31)] (yL w (yW w b da m n f)) (fun r G1 => r = none ∧ G1 = yL w (yW w b da m n f)) := by
  refine yCt.of (own := RJ5) (loc := [some (.inr (8, b)), some (.inr (30, zwS w 31))]) (by decide +kernel) rfl (Nat.le_of_ble_eq_true rfl) (fun k v hk => ?_) ?_
  · exact zloc_ok 0 rfl hk
  intro p e s m9 args below meth c C hX Z1 Z2 Z3 hN
  refine y_gstC C dJ5_inflateIfNeededFor_a7421_0 (zmem 473 (by decide +kernel)) ?_
  refine y_if_eq C dJ5_inflateIfNeededFor_a7421_3 (tgt := 21) (by decide) (fun c1 => absurd c1 (by decide)) (fun _ => ?_)
  refine y_aload_n C dJ5_inflateIfNeededFor_a7421_6 rfl ?_
  refine y_get (ci := 8) (j := 1) (q0 := 0) (v := .inl 0) C dJ5_inflateIfNeededFor_a7421_7 ⟨RJ4, TJ4, 4, rfl, inTJ4, by decide, (zmem 483 (by decide +kernel))⟩ rfl rfl zR_0 ?_
  refine y_aload_n C dJ5_inflateIfNeededFor_a7421_10 rfl ?_
  refine y_pureT (v := .inl 0) (k := 0) C hX dJ5_inflateIfNeededFor_a7421_11 ⟨rfl, (zmem 588 (by decide +kernel)), (zmem 576 (by decide +kernel)), (zmem 577 (by decide +kernel)), (zmem 32 (by decide +kernel)), (zmem 578 (by decide +kernel)), ⟨by decide, by decide⟩, by decide +kernel⟩ (c_J0_coderT _ l zH0) (fun u hu => by cases hu) rfl ⟨Nat.le_of_ble_eq_true rfl, Nat.le_of_ble_eq_true rfl⟩ ⟨Nat.le_refl _, Nat.le_refl _⟩ ⟨rfl, Nat.le_of_ble_eq_true rfl⟩ zR_0 yL_stab ?_
  refine y_icmp_eq C dJ5_inflateIfNeededFor_a7421_14 (tgt := 21) (by decide) (fun _ => ?_) (fun c1 => absurd rfl c1)
  exact y_vret C Z1 Z2 ⟨Nat.le_refl _, Nat.le_refl _⟩ dJ5_inflateIfNeededFor_a7421_21 ⟨rfl, rfl⟩
theorem c_J5_putStringAt (w : zW) (l : Launch) (b da m n dp : Nat) (f : Nat → Int32) (hm : m ≤ 100000) (hd9 : dp + (zwTl w).length ≤ m) : yCt w l yJ5_putStringAt_47b60 cJ5_putStringAt_47b60 3 none 2 120 0 0 [.inr (8, b), .inl (dp : Int), .inr (30, zwS w 31)] (yL w (yW w b da m n f)) (fun r G1 => r = none ∧ G1 = yL w (yW w b da m n (va_cpy (fun j => (zwTl w).getD j 0) f 0 dp (zwTl w).length))) := by
  refine yCt.of (own := RJ5) (loc := [some (.inr (8, b)), some (.inl (dp : Int)), some (.inr (30, zwS w 31))]) (by decide +kernel) rfl (Nat.le_of_ble_eq_true rfl) (fun k v hk => ?_) ?_
  · exact zloc_ok 0 rfl hk
  intro p e s m9 args below meth c C hX Z1 Z2 Z3 hN
  refine y_aload_n C dJ5_putStringAt_47b60_0 rfl ?_
  refine y_aload_n C dJ5_putStringAt_47b60_1 rfl ?_
  refine y_callU (k := 1) (wc := w) C hX dJ5_putStringAt_47b60_2 ⟨(zmem 584 (by decide +kernel)), (zmem 1212 (by decide +kernel)), Or.inl (by decide), (zmem 586 (by decide +kernel)), (zmem 30 (by decide +kernel)), (zmem 587 (by decide +kernel)), ⟨by decide, by decide⟩, by decide +kernel⟩ (fun _ h => h) (c_J5_inflateIf w l b da m n f) (fun H locs hG hS => ⟨y_recv (ci := 8) (q0 := 0) C rfl hG rfl, y_pre C hX hN hG hS⟩) rfl ⟨Nat.le_of_ble_eq_true rfl, Nat.le_of_ble_eq_true rfl⟩ ⟨Nat.le_refl _, Nat.le_refl _⟩ ⟨rfl, Nat.le_of_ble_eq_true rfl⟩ (fun r G1 hp => ?_)
  obtain ⟨rfl, rfl⟩ := hp
  refine y_to (fun H h => h.1) ?_
  refine y_aload_n C dJ5_putStringAt_47b60_5 rfl ?_
  refine y_aload_n C dJ5_putStringAt_47b60_6 rfl ?_
  refine y_get (ci := 8) (j := 0) (q0 := 0) (v := .inr (14, da)) C dJ5_putStringAt_47b60_7 ⟨RJ4, TJ4, 4, rfl, inTJ4, by decide, (zmem 482 (by decide +kernel))⟩ rfl rfl trivial ?_
  refine y_iload_n C dJ5_putStringAt_47b60_10 rfl ?_
  refine y_aload_n C dJ5_putStringAt_47b60_11 rfl ?_
  refine y_get (ci := 8) (j := 1) (q0 := 0) (v := .inl 0) C dJ5_putStringAt_47b60_12 ⟨RJ4, TJ4, 4, rfl, inTJ4, by decide, (zmem 483 (by decide +kernel))⟩ rfl rfl zR_0 ?_
  refine y_callV (k := 3) (kd := 30) (wc := w) C dJ5_putStringAt_47b60_15 ⟨(zmem 608 (by decide +kernel)), (zmem 609 (by decide +kernel)), (zmem 610 (by decide +kernel)), (zmem 32 (by decide +kernel)), (zmem 611 (by decide +kernel)), ⟨by decide, by decide⟩, by decide +kernel⟩ (fun _ h => h) (c_J0_getBytes w l b da m n dp f hm hd9) (fun H locs hG hS => ⟨y_recvT C hS, y_pre C hX hN hG hS⟩) rfl ⟨Nat.le_of_ble_eq_true rfl, Nat.le_of_ble_eq_true rfl⟩ ⟨Nat.le_refl _, Nat.le_refl _⟩ ⟨rfl, Nat.le_of_ble_eq_true rfl⟩ (fun r G1 hp => ?_)
  obtain ⟨rfl, rfl⟩ := hp
  refine y_to (fun H h => h.1) ?_
  exact y_vret C Z1 Z2 ⟨Nat.le_refl _, Nat.le_refl _⟩ dJ5_putStringAt_47b60_18 ⟨rfl, rfl⟩
theorem c_J5_appendS (w : zW) (l : Launch) (b da m : Nat) (t : List Int32) (f : Nat → Int32) (hh : yHold t m f) (hl : t.length + (zwTl w).length ≤ 1500) : yCt w l yJ5_append_cf1ce cJ5_append_cf1ce 3 (some (.object "java/lang/AbstractStringBuilder")) 4 150 1 3000 [.inr (8, b), .inr (30, zwS w 31)] (yL w (yW w b da m t.length f)) (fun r G1 => r = some (.inr (8, b)) ∧ yPB w b (t ++ zwTl w) G1) := by
  refine yCt.of (own := RJ5) (loc := [some (.inr (8, b)), some (.inr (30, zwS w 31)), none]) (by decide +kernel) rfl (Nat.le_of_ble_eq_true rfl) (fun k v hk => ?_) ?_
  · exact zloc_ok 1 rfl hk
  intro p e s m9 args below meth c C hX Z1 Z2 Z3 hN
  have hm4 := hh.2.1
  have hnr : zR (t.length : Int) := ⟨by omega, by omega⟩
  have hT9 : zTok w := zTk C
  refine y_aload_n C dJ5_append_cf1ce_0 rfl ?_
  refine y_ifnonnull C dJ5_append_cf1ce_1 (tgt := 9) (by decide) ?_
  refine y_aload_n C dJ5_append_cf1ce_9 rfl ?_
  refine y_pureT (v := .inl (((zwTl w).length : Nat) : Int)) (k := 0) C hX dJ5_append_cf1ce_10 ⟨rfl, (zmem 571 (by decide +kernel)), (zmem 572 (by decide +kernel)), (zmem 573 (by decide +kernel)), (zmem 32 (by decide +kernel)), (zmem 574 (by decide +kernel)), ⟨by decide, by decide⟩, by decide +kernel⟩ (c_J0_lengthT _ l zH0 (show zTok (zPu w yF) from hT9)) (fun u hu => by cases hu) rfl ⟨Nat.le_of_ble_eq_true rfl, Nat.le_of_ble_eq_true rfl⟩ ⟨Nat.zero_le _, Nat.zero_le _⟩ ⟨rfl, Nat.le_of_ble_eq_true rfl⟩ (tl_R hT9) yL_stab ?_
  refine y_istore_n C dJ5_append_cf1ce_13 (by decide) ?_
  refine y_aload_n C dJ5_append_cf1ce_14 rfl ?_
  refine y_aload_n C dJ5_append_cf1ce_15 rfl ?_
  refine y_get (ci := 8) (j := 3) (q0 := 0) (v := .inl (t.length : Int)) C dJ5_append_cf1ce_16 ⟨RJ4, TJ4, 4, rfl, inTJ4, by decide, (zmem 485 (by decide +kernel))⟩ rfl rfl hnr ?_
  refine y_iload_n C dJ5_append_cf1ce_19 rfl ?_
  refine y_iadd C dJ5_append_cf1ce_20 ?_
  refine y_num (y := ((t.length + (zwTl w).length : Nat) : Int)) (by rw [zw_id ⟨by omega, by omega⟩]; omega) ?_
  refine y_callU (k := 1) (wc := w) C hX dJ5_append_cf1ce_21 ⟨(zmem 507 (by decide +kernel)), (zmem 1209 (by decide +kernel)), Or.inl (by decide), (zmem 509 (by decide +kernel)), (zmem 30 (by decide +kernel)), (zmem 510 (by decide +kernel)), ⟨by decide, by decide⟩, by decide +kernel⟩ (fun _ h => h) (c_J5_ensure w l b da m t.length (t.length + (zwTl w).length) f (by omega) (by omega) hh.2.2.1) (fun H locs hG hS => ⟨y_recv (ci := 8) (q0 := 0) C rfl hG rfl, y_pre C hX hN hG hS⟩) rfl ⟨Nat.le_of_ble_eq_true rfl, Nat.le_of_ble_eq_true rfl⟩ ⟨Nat.le_refl _, by show 0 + 2 * (t.length + (zwTl w).length) ≤ 3000; omega⟩ ⟨rfl, Nat.le_of_ble_eq_true rfl⟩ (fun r G1 hp => ?_)
  obtain ⟨rfl, da1, m1, f1, rfl, e1, e2, e3, e4, e5⟩ := hp
  refine y_to (fun H h => h.1) ?_
  refine y_aload_n C dJ5_append_cf1ce_24 rfl ?_
  refine y_aload_n C dJ5_append_cf1ce_25 rfl ?_
  refine y_get (ci := 8) (j := 3) (q0 := 0) (v := .inl (t.length : Int)) C dJ5_append_cf1ce_26 ⟨RJ4, TJ4, 4, rfl, inTJ4, by decide, (zmem 485 (by decide +kernel))⟩ rfl rfl hnr ?_
  refine y_aload_n C dJ5_append_cf1ce_29 rfl ?_
  refine y_callU (k := 2) (wc := w) C hX dJ5_append_cf1ce_30 ⟨(zmem 580 (by decide +kernel)), (zmem 1211 (by decide +kernel)), Or.inl (by decide), (zmem 582 (by decide +kernel)), (zmem 30 (by decide +kernel)), (zmem 583 (by decide +kernel)), ⟨by decide, by decide⟩, by decide +kernel⟩ (fun _ h => h) (c_J5_putStringAt w l b da1 m1 t.length t.length f1 (by omega) (by omega)) (fun H locs hG hS => ⟨y_recv (ci := 8) (q0 := 0) C rfl hG rfl, y_pre C hX hN hG hS⟩) rfl ⟨Nat.le_of_ble_eq_true rfl, Nat.le_of_ble_eq_true rfl⟩ ⟨Nat.le_refl _, by show 0 + 2 * (t.length + (zwTl w).length) ≤ 3000; omega⟩ ⟨rfl, Nat.le_of_ble_eq_true rfl⟩ (fun r G1 hp => ?_)
  obtain ⟨rfl, rfl⟩ := hp
  refine y_to (fun H h => h.1) ?_
  refine y_aload_n C dJ5_append_cf1ce_33 rfl ?_
  refine y_dup C dJ5_append_cf1ce_34 ?_
  refine y_get (ci := 8) (j := 3) (q0 := 0) (v := .inl (t.length : Int)) C dJ5_append_cf1ce_35 ⟨RJ4, TJ4, 4, rfl, inTJ4, by decide, (zmem 485 (by decide +kernel))⟩ rfl rfl hnr ?_
  refine y_iload_n C dJ5_append_cf1ce_38 rfl ?_
  refine y_iadd C dJ5_append_cf1ce_39 ?_
  refine y_num (y := ((t.length + (zwTl w).length : Nat) : Int)) (by rw [zw_id ⟨by omega, by omega⟩]; omega) ?_
  refine y_put (ci := 8) (j := 3) (ty := .int) (q0 := 0) (v := .inl (((t.length + (zwTl w).length : Nat) : Int))) C dJ5_append_cf1ce_40 ⟨RJ4, TJ4, 4, tyJ4, rfl, inTJ4, by decide, (zmem 485 (by decide +kernel)), tyJ4_ok, nmJ4, rfl, by decide +kernel, fun h => Bool.noConfusion h⟩ rfl rfl rfl (Nat.le_of_ble_eq_true rfl) ?_
  refine y_aload_n C dJ5_append_cf1ce_43 rfl ?_
  refine y_to (G' := yL w (yW w b da1 m1 (t ++ zwTl w).length (va_cpy (fun j => (zwTl w).getD j 0) f1 0 t.length (zwTl w).length))) (fun H h => by rw [List.length_append]; exact h) ?_
  exact y_aret C Z1 (Or.inl ⟨_, rfl⟩) Z2 ⟨Nat.le_refl _, by show 0 + 2 * (t.length + (zwTl w).length) ≤ 3000; omega⟩ dJ5_append_cf1ce_44 ⟨rfl, da1, m1, _, rfl, hh.app (f1 := f1) (by rw [List.length_append]; exact e1) (by omega) (sb_fitC (y_fitT (zTk C)) e4) e5 (fun i hi => by unfold va_cpy; rw [if_neg (by omega)]) (fun i hi => by
    unfold va_cpy
    rw [if_pos ⟨by omega, by omega⟩]
    show (zwTl w).getD (0 + (t.length + i - t.length)) 0 = _
    rw [show 0 + (t.length + i - t.length) = i by omega])⟩
theorem c_J4_appendS (w : zW) (l : Launch) (b da m : Nat) (t : List Int32) (f : Nat → Int32) (hh : yHold t m f) (hl : t.length + (zwTl w).length ≤ 1500) : yCt w l yJ4_append_15ec4 cJ4_append_15ec4 2 (some (.object "java/lang/StringBuilder")) 5 190 1 3000 [.inr (8, b), .inr (30, zwS w 31)] (yL w (yW w b da m t.length f)) (fun r G1 => r = some (.inr (8, b)) ∧ yPB w b (t ++ zwTl w) G1) := by
  refine yCt.of (own := RJ4) (loc := [some (.inr (8, b)), some (.inr (30, zwS w 31))]) (by decide +kernel) rfl (Nat.le_of_ble_eq_true rfl) (fun k v hk => ?_) ?_
  · exact zloc_ok 0 rfl hk
  intro p e s m9 args below meth c C hX Z1 Z2 Z3 hN
  have hm4 := hh.2.1
  have hnr : zR (t.length : Int) := ⟨by omega, by omega⟩
  refine y_aload_n C dJ4_append_15ec4_0 rfl ?_
  refine y_aload_n C dJ4_append_15ec4_1 rfl ?_
  refine y_callSU (k := 1) (wc := w) C dJ4_append_15ec4_2 ⟨(zmem 500 (by decide +kernel)), (zmem 1207 (by decide +kernel)), (zmem 494 (by decide +kernel)), (zmem 501 (by decide +kernel)), (zmem 30 (by decide +kernel)), (zmem 502 (by decide +kernel)), by decide, by decide +kernel⟩ (fun _ h => h) (c_J5_appendS w l b da m t f hh hl) (fun H locs hG hS => ⟨y_recv (ci := 8) (q0 := 0) C rfl hG rfl, y_pre C hX hN hG hS⟩) rfl ⟨Nat.le_of_ble_eq_true rfl, Nat.le_of_ble_eq_true rfl⟩ ⟨Nat.le_refl _, Nat.le_of_eq (Nat.zero_add _)⟩ ⟨rfl, Nat.le_of_ble_eq_true rfl⟩ (fun r G1 hp => ?_)
  obtain ⟨rfl, h1⟩ := hp
  refine y_to (fun H h => h.1) ?_
  refine y_pop C dJ4_append_15ec4_5 ?_
  refine y_aload_n C dJ4_append_15ec4_6 rfl ?_
  exact y_aret C Z1 (Or.inl ⟨_, rfl⟩) Z2 ⟨Nat.le_refl _, Nat.le_of_eq (Nat.zero_add _)⟩ dJ4_append_15ec4_7 ⟨rfl, h1⟩
theorem c_J4_appendC (w : zW) (l : Launch) (b da m : Nat) (t : List Int32) (f : Nat → Int32) (x : Int) (hx : 0 ≤ x ∧ x < 128) (hh : yHold t m f) (hl : t.length + 1 ≤ 1500) : yCt w l yJ4_append_cf468 cJ4_append_cf468 2 (some (.object "java/lang/StringBuilder")) 5 190 1 3000 [.inr (8, b), .inl x] (yL w (yW w b da m t.length f)) (fun r G1 => r = some (.inr (8, b)) ∧ yPB w b (t ++ [zi x]) G1) := by
  refine yCt.of (own := RJ4) (loc := [some (.inr (8, b)), some (.inl x)]) (by decide +kernel) rfl (Nat.le_of_ble_eq_true rfl) (fun k v hk => ?_) ?_
  · exact zloc_ok 0 rfl hk
  intro p e s m9 args below meth c C hX Z1 Z2 Z3 hN
  have hm4 := hh.2.1
  have hnr : zR (t.length : Int) := ⟨by omega, by omega⟩
  refine y_aload_n C dJ4_append_cf468_0 rfl ?_
  refine y_iload_n C dJ4_append_cf468_1 rfl ?_
  refine y_callSU (k := 1) (wc := w) C dJ4_append_cf468_2 ⟨(zmem 718 (by decide +kernel)), (zmem 1215 (by decide +kernel)), (zmem 494 (by decide +kernel)), (zmem 719 (by decide +kernel)), (zmem 30 (by decide +kernel)), (zmem 720 (by decide +kernel)), by decide, by decide +kernel⟩ (fun _ h => h) (c_J5_appendC w l b da m t f x hx hh hl) (fun H locs hG hS => ⟨y_recv (ci := 8) (q0 := 0) C rfl hG rfl, y_pre C hX hN hG hS⟩) rfl ⟨Nat.le_of_ble_eq_true rfl, Nat.le_of_ble_eq_true rfl⟩ ⟨Nat.le_refl _, Nat.le_of_eq (Nat.zero_add _)⟩ ⟨rfl, Nat.le_of_ble_eq_true rfl⟩ (fun r G1 hp => ?_)
  obtain ⟨rfl, h1⟩ := hp
  refine y_to (fun H h => h.1) ?_
  refine y_pop C dJ4_append_cf468_5 ?_
  refine y_aload_n C dJ4_append_cf468_6 rfl ?_
  exact y_aret C Z1 (Or.inl ⟨_, rfl⟩) Z2 ⟨Nat.le_refl _, Nat.le_of_eq (Nat.zero_add _)⟩ dJ4_append_cf468_7 ⟨rfl, h1⟩
/-- the digits of a number below 10000 -/
def yC (d : Nat) : Int32 := zi ((d : Int) + 48)
def yDig (n : Nat) : List Int32 := if n < 10 then [yC n] else if n < 100 then [yC (n / 10), yC (n % 10)] else if n < 1000 then [yC (n / 100), yC (n / 10 % 10), yC (n % 10)] else [yC (n / 1000), yC (n / 100 % 10), yC (n / 10 % 10), yC (n % 10)]
def yLen (n : Nat) : Nat := if n < 10 then 1 else if n < 100 then 2 else if n < 1000 then 3 else 4
theorem yDig_len (n : Nat) : (yDig n).length = yLen n := by
  unfold yDig yLen
  split
  · rfl
  split
  · rfl
  split <;> rfl
theorem yLen_b (n : Nat) : 1 ≤ yLen n ∧ yLen n ≤ 4 := by
  unfold yLen
  split
  · omega
  split
  · omega
  split <;> omega
theorem c_J6_stringSize (w : zW) (l : Launch) (G : Heap → Prop) (n : Nat) (hn : n < 10000) : yCt w l yJ6_stringSize_0f7a4 cJ6_stringSize_0f7a4 4 (some .int) 0 0 0 0 [.inl (n : Int)] G (fun r G1 => r = some (.inl ((yLen n : Nat) : Int)) ∧ G1 = G) := by
  refine yCt.of (own := RJ6) (loc := [some (.inl (n : Int)), none, none, none]) (by decide +kernel) rfl (Nat.le_of_ble_eq_true rfl) (fun k v hk => ?_) ?_
  · exact zloc_ok 3 rfl hk
  intro p e s m9 args below meth c C hX Z1 Z2 Z3 hN
  refine y_iconst C dJ6_stringSize_0f7a4_0 rfl ?_
  refine y_istore_n C dJ6_stringSize_0f7a4_1 (by decide) ?_
  refine y_iload_n C dJ6_stringSize_0f7a4_2 rfl ?_
  refine y_if_lt C dJ6_stringSize_0f7a4_3 (tgt := 11) (by decide) (fun c1 => by exfalso; omega) (fun _ => ?_)
  refine y_iconst C dJ6_stringSize_0f7a4_6 rfl ?_
  refine y_istore_n C dJ6_stringSize_0f7a4_7 (by decide) ?_
  refine y_iload_n C dJ6_stringSize_0f7a4_8 rfl ?_
  refine y_ineg C dJ6_stringSize_0f7a4_9 ?_
  refine y_num (y := -(n : Int)) (zw_id ⟨by omega, by omega⟩) ?_
  refine y_istore_n C dJ6_stringSize_0f7a4_10 (by decide) ?_
  refine y_bipush C dJ6_stringSize_0f7a4_11 (by decide) rfl ?_
  refine y_istore_n C dJ6_stringSize_0f7a4_13 (by decide) ?_
  refine y_iconst C dJ6_stringSize_0f7a4_14 rfl ?_
  refine y_istore_n C dJ6_stringSize_0f7a4_15 (by decide) ?_
  refine y_iload_n C dJ6_stringSize_0f7a4_16 rfl ?_
  refine y_bipush C dJ6_stringSize_0f7a4_17 (by decide) rfl ?_
  refine y_icmp_ge C dJ6_stringSize_0f7a4_19 (tgt := 42) (by decide) (fun c1 => by exfalso; omega) (fun _ => ?_)
  refine y_iload_n C dJ6_stringSize_0f7a4_22 rfl ?_
  refine y_iload_n C dJ6_stringSize_0f7a4_23 rfl ?_
  refine y_icmp_le C dJ6_stringSize_0f7a4_24 (tgt := 31) (by decide) (fun c2 => ?_) (fun c2 => ?_)
  rotate_left
  · refine y_iload_n C dJ6_stringSize_0f7a4_27 rfl ?_
    refine y_iload_n C dJ6_stringSize_0f7a4_28 rfl ?_
    refine y_iadd C dJ6_stringSize_0f7a4_29 ?_
    refine y_num (y := ((yLen n : Nat) : Int)) (by rw [zw_id ⟨by omega, by omega⟩]; unfold yLen; rw [if_pos (by omega)]; rfl) ?_
    exact y_nret C Z1 Z2 rfl ⟨Nat.le_refl _, Nat.le_refl _⟩ dJ6_stringSize_0f7a4_30 ⟨rfl, rfl⟩
  refine y_bipush C dJ6_stringSize_0f7a4_31 (by decide) rfl ?_
  refine y_iload_n C dJ6_stringSize_0f7a4_33 rfl ?_
  refine y_imul C dJ6_stringSize_0f7a4_34 ?_
  refine y_num (y := (-100 : Int)) (zw_id ⟨by omega, by omega⟩) ?_
  refine y_istore_n C dJ6_stringSize_0f7a4_35 (by decide) ?_
  refine y_iinc C dJ6_stringSize_0f7a4_36 rfl (by decide) ?_
  rw [show zw (1 + 1) = 2 by decide]
  refine y_goto C dJ6_stringSize_0f7a4_39 (tgt := 16) (by decide) ?_
  refine y_iload_n C dJ6_stringSize_0f7a4_16 rfl ?_
  refine y_bipush C dJ6_stringSize_0f7a4_17 (by decide) rfl ?_
  refine y_icmp_ge C dJ6_stringSize_0f7a4_19 (tgt := 42) (by decide) (fun c1 => by exfalso; omega) (fun _ => ?_)
  refine y_iload_n C dJ6_stringSize_0f7a4_22 rfl ?_
  refine y_iload_n C dJ6_stringSize_0f7a4_23 rfl ?_
  refine y_icmp_le C dJ6_stringSize_0f7a4_24 (tgt := 31) (by decide) (fun c3 => ?_) (fun c3 => ?_)
  rotate_left
  · refine y_iload_n C dJ6_stringSize_0f7a4_27 rfl ?_
    refine y_iload_n C dJ6_stringSize_0f7a4_28 rfl ?_
    refine y_iadd C dJ6_stringSize_0f7a4_29 ?_
    refine y_num (y := ((yLen n : Nat) : Int)) (by rw [zw_id ⟨by omega, by omega⟩]; unfold yLen; rw [if_neg (by omega), if_pos (by omega)]; rfl) ?_
    exact y_nret C Z1 Z2 rfl ⟨Nat.le_refl _, Nat.le_refl _⟩ dJ6_stringSize_0f7a4_30 ⟨rfl, rfl⟩
  refine y_bipush C dJ6_stringSize_0f7a4_31 (by decide) rfl ?_
  refine y_iload_n C dJ6_stringSize_0f7a4_33 rfl ?_
  refine y_imul C dJ6_stringSize_0f7a4_34 ?_
  refine y_num (y := (-1000 : Int)) (zw_id ⟨by omega, by omega⟩) ?_
  refine y_istore_n C dJ6_stringSize_0f7a4_35 (by decide) ?_
  refine y_iinc C dJ6_stringSize_0f7a4_36 rfl (by decide) ?_
  rw [show zw (2 + 1) = 3 by decide]
  refine y_goto C dJ6_stringSize_0f7a4_39 (tgt := 16) (by decide) ?_
  refine y_iload_n C dJ6_stringSize_0f7a4_16 rfl ?_
  refine y_bipush C dJ6_stringSize_0f7a4_17 (by decide) rfl ?_
  refine y_icmp_ge C dJ6_stringSize_0f7a4_19 (tgt := 42) (by decide) (fun c1 => by exfalso; omega) (fun _ => ?_)
  refine y_iload_n C dJ6_stringSize_0f7a4_22 rfl ?_
  refine y_iload_n C dJ6_stringSize_0f7a4_23 rfl ?_
  refine y_icmp_le C dJ6_stringSize_0f7a4_24 (tgt := 31) (by decide) (fun c4 => ?_) (fun c4 => ?_)
  rotate_left
  · refine y_iload_n C dJ6_stringSize_0f7a4_27 rfl ?_
    refine y_iload_n C dJ6_stringSize_0f7a4_28 rfl ?_
    refine y_iadd C dJ6_stringSize_0f7a4_29 ?_
    refine y_num (y := ((yLen n : Nat) : Int)) (by rw [zw_id ⟨by omega, by omega⟩]; unfold yLen; rw [if_neg (by omega), if_neg (by omega), if_pos (by omega)]; rfl) ?_
    exact y_nret C Z1 Z2 rfl ⟨Nat.le_refl _, Nat.le_refl _⟩ dJ6_stringSize_0f7a4_30 ⟨rfl, rfl⟩
  refine y_bipush C dJ6_stringSize_0f7a4_31 (by decide) rfl ?_
  refine y_iload_n C dJ6_stringSize_0f7a4_33 rfl ?_
  refine y_imul C dJ6_stringSize_0f7a4_34 ?_
  refine y_num (y := (-10000 : Int)) (zw_id ⟨by omega, by omega⟩) ?_
  refine y_istore_n C dJ6_stringSize_0f7a4_35 (by decide) ?_
  refine y_iinc C dJ6_stringSize_0f7a4_36 rfl (by decide) ?_
  rw [show zw (3 + 1) = 4 by decide]
  refine y_goto C dJ6_stringSize_0f7a4_39 (tgt := 16) (by decide) ?_
  refine y_iload_n C dJ6_stringSize_0f7a4_16 rfl ?_
  refine y_bipush C dJ6_stringSize_0f7a4_17 (by decide) rfl ?_
  refine y_icmp_ge C dJ6_stringSize_0f7a4_19 (tgt := 42) (by decide) (fun c1 => by exfalso; omega) (fun _ => ?_)
  refine y_iload_n C dJ6_stringSize_0f7a4_22 rfl ?_
  refine y_iload_n C dJ6_stringSize_0f7a4_23 rfl ?_
  refine y_icmp_le C dJ6_stringSize_0f7a4_24 (tgt := 31) (by decide) (fun c1 => by exfalso; omega) (fun _ => ?_)
  refine y_iload_n C dJ6_stringSize_0f7a4_27 rfl ?_
  refine y_iload_n C dJ6_stringSize_0f7a4_28 rfl ?_
  refine y_iadd C dJ6_stringSize_0f7a4_29 ?_
  refine y_num (y := ((yLen n : Nat) : Int)) (by rw [zw_id ⟨by omega, by omega⟩]; unfold yLen; rw [if_neg (by omega), if_neg (by omega), if_neg (by omega)]; rfl) ?_
  exact y_nret C Z1 Z2 rfl ⟨Nat.le_refl _, Nat.le_refl _⟩ dJ6_stringSize_0f7a4_30 ⟨rfl, rfl⟩
