/-! The JDK's StringBuilder, on Latin-1 texts. -/
/-- a builder at b: its row at da, of m bytes f; n letters -/
def yW (w : zW) (b da m n : Nat) (f : Nat → Int32) : va_W := [(b, .inr (8, [zval (.inr (14, da)), zval (.inl 0), zval (.inl 0), zval (.inl (n : Int))])), (da, .inl (zwA w 14, m, .inl f))]
def yCap (m q : Nat) : Nat := if q < 2 * m + 2 then 2 * m + 2 else q
theorem yCap_b {m q : Nat} (h : m < q) : q ≤ yCap m q ∧ m < yCap m q ∧ yCap m q ≤ 2 * q ∧ 0 < yCap m q := by
  unfold yCap
  split <;> omega
theorem c_J8_newLength (w : zW) (l : Launch) (G : Heap → Prop) (m q : Nat) (hm : m < q) (hq : q ≤ 100000) : yCt w l yJ8_newLength_cabcc cJ8_newLength_cabcc 4 (some .int) 1 20 0 0 [.inl (m : Int), .inl ((q : Int) - m), .inl ((m : Int) + 2)] G (fun r G1 => r = some (.inl ((yCap m q : Nat) : Int)) ∧ G1 = G) := by
  refine yCt.of (own := RJ8) (loc := [some (.inl (m : Int)), some (.inl ((q : Int) - m)), some (.inl ((m : Int) + 2)), none]) (by decide +kernel) rfl (Nat.le_of_ble_eq_true rfl) (fun k v hk => ?_) ?_
  · exact zloc_ok 1 rfl hk
  intro p e s m9 args below meth c C hX Z1 Z2 Z3 hN
  have hc := yCap_b hm
  refine y_iload_n C dJ8_newLength_cabcc_0 rfl ?_
  refine y_iload_n C dJ8_newLength_cabcc_1 rfl ?_
  refine y_iload_n C dJ8_newLength_cabcc_2 rfl ?_
  refine y_mmax C dJ8_newLength_cabcc_3 (zmem 518 (by decide +kernel)) ⟨Nat.le_of_ble_eq_true rfl, Nat.le_of_ble_eq_true rfl⟩ ⟨Nat.zero_le _, Nat.zero_le _⟩ ?_
  refine y_iadd C dJ8_newLength_cabcc_6 ?_
  refine y_num (y := ((yCap m q : Nat) : Int)) (by unfold zmax yCap; split <;> split <;> (rw [zw_id ⟨by omega, by omega⟩]; omega)) ?_
  refine y_istore_n C dJ8_newLength_cabcc_7 (by decide) ?_
  refine y_iconst C dJ8_newLength_cabcc_8 rfl ?_
  refine y_iload_n C dJ8_newLength_cabcc_9 rfl ?_
  refine y_icmp_ge C dJ8_newLength_cabcc_10 (tgt := 21) (by decide) (fun c1 => by exfalso; omega) (fun _ => ?_)
  refine y_iload_n C dJ8_newLength_cabcc_13 rfl ?_
  refine y_ldc (n := 2147483639) C dJ8_newLength_cabcc_14 (zmem 521 (by decide +kernel)) rfl ?_
  refine y_icmp_gt C dJ8_newLength_cabcc_16 (tgt := 21) (by decide) (fun c1 => by exfalso; omega) (fun _ => ?_)
  refine y_iload_n C dJ8_newLength_cabcc_19 rfl ?_
  exact y_nret C Z1 Z2 rfl ⟨Nat.le_refl _, Nat.le_refl _⟩ dJ8_newLength_cabcc_20 ⟨rfl, rfl⟩
theorem c_J5_newCapacity (w : zW) (l : Launch) (b da m n q : Nat) (f : Nat → Int32) (hm : m < q) (hq : q ≤ 100000) : yCt w l yJ5_newCapacity_0f7a4 cJ5_newCapacity_0f7a4 6 (some .int) 2 50 0 0 [.inr (8, b), .inl (q : Int)] (yL w (yW w b da m n f)) (fun r G1 => r = some (.inl ((yCap m q : Nat) : Int)) ∧ G1 = yL w (yW w b da m n f)) := by
  refine yCt.of (own := RJ5) (loc := [some (.inr (8, b)), some (.inl (q : Int)), none, none, none, none]) (by decide +kernel) rfl (Nat.le_of_ble_eq_true rfl) (fun k v hk => ?_) ?_
  · exact zloc_ok 4 rfl hk
  intro p e s m9 args below meth c C hX Z1 Z2 Z3 hN
  have hc := yCap_b hm
  refine y_aload_n C dJ5_newCapacity_0f7a4_0 rfl ?_
  refine y_get (ci := 8) (j := 0) (q0 := 0) (v := .inr (14, da)) C dJ5_newCapacity_0f7a4_1 ⟨RJ4, TJ4, 4, rfl, inTJ4, by decide, (zmem 482 (by decide +kernel))⟩ rfl rfl trivial ?_
  refine y_alen (q0 := 1) C dJ5_newCapacity_0f7a4_4 rfl (by omega) ?_
  refine y_istore_n C dJ5_newCapacity_0f7a4_5 (by decide) ?_
  refine y_iload_n C dJ5_newCapacity_0f7a4_6 rfl ?_
  refine y_aload_n C dJ5_newCapacity_0f7a4_7 rfl ?_
  refine y_get (ci := 8) (j := 1) (q0 := 0) (v := .inl 0) C dJ5_newCapacity_0f7a4_8 ⟨RJ4, TJ4, 4, rfl, inTJ4, by decide, (zmem 483 (by decide +kernel))⟩ rfl rfl zR_0 ?_
  refine y_ishl C dJ5_newCapacity_0f7a4_11 ?_
  refine y_num (y := (q : Int)) (zshl_0 ⟨by omega, by omega⟩) ?_
  refine y_istore_n C dJ5_newCapacity_0f7a4_12 (by decide) ?_
  refine y_iload_n C dJ5_newCapacity_0f7a4_13 rfl ?_
  refine y_iload_n C dJ5_newCapacity_0f7a4_14 rfl ?_
  refine y_isub C dJ5_newCapacity_0f7a4_15 ?_
  refine y_num (y := (q : Int) - m) (zw_id ⟨by omega, by omega⟩) ?_
  refine y_istore C dJ5_newCapacity_0f7a4_16 (by decide) ?_
  refine y_iload_n C dJ5_newCapacity_0f7a4_18 rfl ?_
  refine y_iload C dJ5_newCapacity_0f7a4_19 rfl ?_
  refine y_iload_n C dJ5_newCapacity_0f7a4_21 rfl ?_
  refine y_iconst C dJ5_newCapacity_0f7a4_22 rfl ?_
  refine y_aload_n C dJ5_newCapacity_0f7a4_23 rfl ?_
  refine y_get (ci := 8) (j := 1) (q0 := 0) (v := .inl 0) C dJ5_newCapacity_0f7a4_24 ⟨RJ4, TJ4, 4, rfl, inTJ4, by decide, (zmem 483 (by decide +kernel))⟩ rfl rfl zR_0 ?_
  refine y_ishl C dJ5_newCapacity_0f7a4_27 ?_
  refine y_num (y := 2) (by decide +kernel) ?_
  refine y_iadd C dJ5_newCapacity_0f7a4_28 ?_
  refine y_num (y := (m : Int) + 2) (zw_id ⟨by omega, by omega⟩) ?_
  refine y_callS (k := 3) (wc := w) C dJ5_newCapacity_0f7a4_29 ⟨(zmem 515 (by decide +kernel)), (zmem 516 (by decide +kernel)), (zmem 34 (by decide +kernel)), (zmem 517 (by decide +kernel)), ⟨by decide, by decide⟩, by decide +kernel⟩ (fun _ h => h) (c_J8_newLength w l _ m q hm hq) (fun H locs hG hS => y_pre C hX hN hG hS) rfl ⟨Nat.le_of_ble_eq_true rfl, Nat.le_of_ble_eq_true rfl⟩ ⟨Nat.le_refl _, Nat.le_refl _⟩ ⟨rfl, Nat.le_of_ble_eq_true rfl⟩ (fun r G1 hp => ?_)
  obtain ⟨rfl, rfl⟩ := hp
  refine y_to (fun H h => h.1) ?_
  refine y_istore C dJ5_newCapacity_0f7a4_32 (by decide) ?_
  refine y_iload C dJ5_newCapacity_0f7a4_34 rfl ?_
  refine y_ldc (n := 2147483647) C dJ5_newCapacity_0f7a4_36 (zmem 525 (by decide +kernel)) rfl ?_
  refine y_icmp_ne C dJ5_newCapacity_0f7a4_38 (tgt := 51) (by decide) (fun _ => ?_) (fun c1 => by exfalso; omega)
  refine y_iload C dJ5_newCapacity_0f7a4_51 rfl ?_
  refine y_aload_n C dJ5_newCapacity_0f7a4_53 rfl ?_
  refine y_get (ci := 8) (j := 1) (q0 := 0) (v := .inl 0) C dJ5_newCapacity_0f7a4_54 ⟨RJ4, TJ4, 4, rfl, inTJ4, by decide, (zmem 483 (by decide +kernel))⟩ rfl rfl zR_0 ?_
  refine y_ishr C dJ5_newCapacity_0f7a4_57 ?_
  refine y_num (y := ((yCap m q : Nat) : Int)) (zshr_0 ⟨by omega, by omega⟩) ?_
  exact y_nret C Z1 Z2 rfl ⟨Nat.le_refl _, Nat.le_refl _⟩ dJ5_newCapacity_0f7a4_58 ⟨rfl, rfl⟩
theorem c_J7_copyOf (w : zW) (l : Launch) (b da m n cap : Nat) (f : Nat → Int32) (hm : m < cap) (hq : cap ≤ 100000) (hf : sb_Fit f) : yCt w l yJ7_copyOf_9075b cJ7_copyOf_9075b 3 (some (.array .byte)) 1 80 1 cap [.inr (14, da), .inl (cap : Int)] (yL w (yW w b da m n f)) (fun r G1 => ∃ q : Nat, r = some (.inr (14, q)) ∧ G1 = yL w (yW w b da m n f ++ [(q, .inl (zwA w 14, cap, .inl (va_cpy f (fun _ => 0) 0 0 m)))])) := by
  refine yCt.of (own := RJ7) (loc := [some (.inr (14, da)), some (.inl (cap : Int)), none]) (by decide +kernel) rfl (Nat.le_of_ble_eq_true rfl) (fun k v hk => ?_) ?_
  · exact zloc_ok 1 rfl hk
  intro p e s m9 args below meth c C hX Z1 Z2 Z3 hN
  refine y_iload_n C dJ7_copyOf_9075b_0 rfl ?_
  refine y_aload_n C dJ7_copyOf_9075b_1 rfl ?_
  refine y_alen (q0 := 1) C dJ7_copyOf_9075b_2 rfl (by omega) ?_
  refine y_icmp_ne C dJ7_copyOf_9075b_3 (tgt := 14) (by decide) (fun _ => ?_) (fun c1 => by exfalso; omega)
  refine y_iload_n C dJ7_copyOf_9075b_14 rfl ?_
  refine y_newB C hq hN ⟨Nat.le_refl _, Nat.le_of_eq (Nat.zero_add _)⟩ (zmem 131 (by decide +kernel)) dJ7_copyOf_9075b_15 (fun q hq0 => ?_)
  refine y_astore_n C dJ7_copyOf_9075b_17 (by decide) ?_
  refine y_aload_n C dJ7_copyOf_9075b_18 rfl ?_
  refine y_iconst C dJ7_copyOf_9075b_19 rfl ?_
  refine y_aload_n C dJ7_copyOf_9075b_20 rfl ?_
  refine y_iconst C dJ7_copyOf_9075b_21 rfl ?_
  refine y_aload_n C dJ7_copyOf_9075b_22 rfl ?_
  refine y_alen (q0 := 1) C dJ7_copyOf_9075b_23 rfl (by omega) ?_
  refine y_iload_n C dJ7_copyOf_9075b_24 rfl ?_
  refine y_mmin C dJ7_copyOf_9075b_25 (zmem 536 (by decide +kernel)) ⟨Nat.le_of_ble_eq_true rfl, Nat.le_of_ble_eq_true rfl⟩ ⟨Nat.le_refl _, Nat.le_of_eq (Nat.zero_add _)⟩ ?_
  refine y_num (y := (m : Int)) (by unfold zmin; rw [if_neg (by omega)]) ?_
  refine y_copy (q0 := 1) (q1 := 2) (sp := 0) (dp := 0) (n := m) C dJ7_copyOf_9075b_28 (zmem 539 (by decide +kernel)) rfl rfl (by omega) (by omega) ⟨by omega, hq⟩ hf ⟨Nat.le_of_ble_eq_true rfl, Nat.le_of_ble_eq_true rfl⟩ ?_
  refine y_aload_n C dJ7_copyOf_9075b_31 rfl ?_
  exact y_aret C Z1 (Or.inr ⟨_, rfl⟩) Z2 ⟨Nat.le_refl _, Nat.le_of_eq (Nat.zero_add _)⟩ dJ7_copyOf_9075b_32 ⟨q, rfl, rfl⟩
theorem c_J5_ensure (w : zW) (l : Launch) (b da m n q : Nat) (f : Nat → Int32) (hm : m ≤ 40000) (hq : q ≤ 40000) (hf : sb_Fit f) : yCt w l yJ5_ensureCapacityInternal_d00df cJ5_ensureCapacityInternal_d00df 3 none 3 110 1 (2 * q) [.inr (8, b), .inl (q : Int)] (yL w (yW w b da m n f)) (fun r G1 => r = none ∧ ∃ (da1 m1 : Nat) (f1 : Nat → Int32), G1 = yL w (yW w b da1 m1 n f1) ∧ q ≤ m1 ∧ m ≤ m1 ∧ (m1 ≤ m ∨ m1 ≤ 2 * q) ∧ sb_Fit f1 ∧ ∀ i, i < m → f1 i = f i) := by
  refine yCt.of (own := RJ5) (loc := [some (.inr (8, b)), some (.inl (q : Int)), none]) (by decide +kernel) rfl (Nat.le_of_ble_eq_true rfl) (fun k v hk => ?_) ?_
  · exact zloc_ok 1 rfl hk
  intro p e s m9 args below meth c C hX Z1 Z2 Z3 hN
  refine y_aload_n C dJ5_ensureCapacityInternal_d00df_0 rfl ?_
  refine y_get (ci := 8) (j := 0) (q0 := 0) (v := .inr (14, da)) C dJ5_ensureCapacityInternal_d00df_1 ⟨RJ4, TJ4, 4, rfl, inTJ4, by decide, (zmem 482 (by decide +kernel))⟩ rfl rfl trivial ?_
  refine y_alen (q0 := 1) C dJ5_ensureCapacityInternal_d00df_4 rfl (by omega) ?_
  refine y_aload_n C dJ5_ensureCapacityInternal_d00df_5 rfl ?_
  refine y_get (ci := 8) (j := 1) (q0 := 0) (v := .inl 0) C dJ5_ensureCapacityInternal_d00df_6 ⟨RJ4, TJ4, 4, rfl, inTJ4, by decide, (zmem 483 (by decide +kernel))⟩ rfl rfl zR_0 ?_
  refine y_ishr C dJ5_ensureCapacityInternal_d00df_9 ?_
  refine y_num (y := (m : Int)) (zshr_0 ⟨by omega, by omega⟩) ?_
  refine y_istore_n C dJ5_ensureCapacityInternal_d00df_10 (by decide) ?_
  refine y_iload_n C dJ5_ensureCapacityInternal_d00df_11 rfl ?_
  refine y_iload_n C dJ5_ensureCapacityInternal_d00df_12 rfl ?_
  refine y_isub C dJ5_ensureCapacityInternal_d00df_13 ?_
  refine y_num (y := (q : Int) - m) (zw_id ⟨by omega, by omega⟩) ?_
  refine y_if_le C dJ5_ensureCapacityInternal_d00df_14 (tgt := 38) (by decide) (fun c1 => ?_) (fun c1 => ?_)
  · exact y_vret C Z1 Z2 ⟨Nat.zero_le _, Nat.zero_le _⟩ dJ5_ensureCapacityInternal_d00df_38 ⟨rfl, da, m, f, rfl, by omega, Nat.le_refl _, Or.inl (Nat.le_refl _), hf, fun _ _ => rfl⟩
  have hmq : m < q := by omega
  have hc := yCap_b hmq
  refine y_aload_n C dJ5_ensureCapacityInternal_d00df_17 rfl ?_
  refine y_aload_n C dJ5_ensureCapacityInternal_d00df_18 rfl ?_
  refine y_get (ci := 8) (j := 0) (q0 := 0) (v := .inr (14, da)) C dJ5_ensureCapacityInternal_d00df_19 ⟨RJ4, TJ4, 4, rfl, inTJ4, by decide, (zmem 482 (by decide +kernel))⟩ rfl rfl trivial ?_
  refine y_aload_n C dJ5_ensureCapacityInternal_d00df_22 rfl ?_
  refine y_iload_n C dJ5_ensureCapacityInternal_d00df_23 rfl ?_
  refine y_callU (k := 1) (wc := w) C hX dJ5_ensureCapacityInternal_d00df_24 ⟨(zmem 511 (by decide +kernel)), (zmem 1210 (by decide +kernel)), Or.inl (by decide), (zmem 513 (by decide +kernel)), (zmem 30 (by decide +kernel)), (zmem 514 (by decide +kernel)), ⟨by decide, by decide⟩, by decide +kernel⟩ (fun _ h => h) (c_J5_newCapacity w l b da m n q f hmq (by omega)) (fun H locs hG hS => ⟨y_recv (ci := 8) (q0 := 0) C rfl hG rfl, y_pre C hX hN hG hS⟩) rfl ⟨Nat.le_of_ble_eq_true rfl, Nat.le_of_ble_eq_true rfl⟩ ⟨Nat.zero_le _, Nat.zero_le _⟩ ⟨rfl, Nat.le_of_ble_eq_true rfl⟩ (fun r G1 hp => ?_)
  obtain ⟨rfl, rfl⟩ := hp
  refine y_to (fun H h => h.1) ?_
  refine y_aload_n C dJ5_ensureCapacityInternal_d00df_27 rfl ?_
  refine y_get (ci := 8) (j := 1) (q0 := 0) (v := .inl 0) C dJ5_ensureCapacityInternal_d00df_28 ⟨RJ4, TJ4, 4, rfl, inTJ4, by decide, (zmem 483 (by decide +kernel))⟩ rfl rfl zR_0 ?_
  refine y_ishl C dJ5_ensureCapacityInternal_d00df_31 ?_
  refine y_num (y := ((yCap m q : Nat) : Int)) (zshl_0 ⟨by omega, by omega⟩) ?_
  refine y_callS (k := 2) (wc := w) C dJ5_ensureCapacityInternal_d00df_32 ⟨(zmem 526 (by decide +kernel)), (zmem 527 (by decide +kernel)), (zmem 36 (by decide +kernel)), (zmem 528 (by decide +kernel)), ⟨by decide, by decide⟩, by decide +kernel⟩ (fun _ h => h) (c_J7_copyOf w l b da m n (yCap m q) f hc.2.1 (by omega) hf) (fun H locs hG hS => y_pre C hX hN hG hS) rfl ⟨Nat.le_of_ble_eq_true rfl, Nat.le_of_ble_eq_true rfl⟩ ⟨Nat.le_refl _, by show 0 + 0 + yCap m q ≤ 2 * q; omega⟩ ⟨rfl, Nat.le_of_ble_eq_true rfl⟩ (fun r G1 hp => ?_)
  obtain ⟨q1, rfl, rfl⟩ := hp
  refine y_to (fun H h => h.1) ?_
  refine y_put (ci := 8) (j := 0) (ty := .array .byte) (q0 := 0) (v := .inr (14, q1)) C dJ5_ensureCapacityInternal_d00df_35 ⟨RJ4, TJ4, 4, tyJ4, rfl, inTJ4, by decide, (zmem 482 (by decide +kernel)), tyJ4_ok, nmJ4, rfl, by decide +kernel, fun h => Bool.noConfusion h⟩ rfl rfl rfl (Nat.le_of_ble_eq_true rfl) ?_
  refine y_to (G' := yL w (yW w b q1 (yCap m q) n (va_cpy f (fun _ => 0) 0 0 m))) (fun H h => ⟨h.1.sub [0, 2] rfl, h.2.sub [0, 2] rfl rfl⟩) ?_
  exact y_vret C Z1 Z2 ⟨Nat.le_refl _, by show 0 + 0 + yCap m q ≤ 2 * q; omega⟩ dJ5_ensureCapacityInternal_d00df_38 ⟨rfl, q1, yCap m q, _, rfl, hc.1, by omega, Or.inr hc.2.2.1, sb_fitC hf sb_fit0, fun i hi => by unfold va_cpy; rw [if_pos ⟨Nat.zero_le _, by omega⟩, Nat.zero_add, Nat.sub_zero]⟩
theorem c_J5_isLatin1 (w : zW) (l : Launch) (b da m n : Nat) (f : Nat → Int32) : yCt w l yJ5_isLatin1_aae02 cJ5_isLatin1_aae02 1 (some .boolean) 0 0 0 0 [.inr (8, b)] (yL w (yW w b da m n f)) (fun r G1 => r = some (.inl 1) ∧ G1 = yL w (yW w b da m n f)) := by
  refine yCt.of (own := RJ5) (loc := [some (.inr (8, b))]) (by decide +kernel) rfl (Nat.le_of_ble_eq_true rfl) (fun k v hk => ?_) ?_
  · exact zloc_ok 0 rfl hk
  intro p e s m9 args below meth c C hX Z1 Z2 Z3 hN
  refine y_gstC C dJ5_isLatin1_aae02_0 (zmem 473 (by decide +kernel)) ?_
  refine y_if_eq C dJ5_isLatin1_aae02_3 (tgt := 17) (by decide) (fun c1 => absurd c1 (by decide)) (fun _ => ?_)
  refine y_aload_n C dJ5_isLatin1_aae02_6 rfl ?_
  refine y_get (ci := 8) (j := 1) (q0 := 0) (v := .inl 0) C dJ5_isLatin1_aae02_7 ⟨RJ4, TJ4, 4, rfl, inTJ4, by decide, (zmem 483 (by decide +kernel))⟩ rfl rfl zR_0 ?_
  refine y_if_ne C dJ5_isLatin1_aae02_10 (tgt := 17) (by decide) (fun c1 => absurd rfl c1) (fun _ => ?_)
  refine y_iconst C dJ5_isLatin1_aae02_13 rfl ?_
  refine y_goto C dJ5_isLatin1_aae02_14 (tgt := 18) (by decide) ?_
  exact y_nret C Z1 Z2 (by decide) ⟨Nat.le_refl _, Nat.le_refl _⟩ dJ5_isLatin1_aae02_18 ⟨rfl, rfl⟩
theorem c_J1_canEncode (w : zW) (l : Launch) (G : Heap → Prop) (x : Int) (h0 : 0 ≤ x ∧ x < 128) : yCt w l yJ1_canEncode_fc78d cJ1_canEncode_fc78d 1 (some .boolean) 0 0 0 0 [.inl x] G (fun r G1 => r = some (.inl 1) ∧ G1 = G) := by
  refine yCt.of (own := RJ1) (loc := [some (.inl x)]) (by decide +kernel) rfl (Nat.le_of_ble_eq_true rfl) (fun k v hk => ?_) ?_
  · exact zloc_ok 0 rfl hk
  intro p e s m9 args below meth c C hX Z1 Z2 Z3 hN
  refine y_iload_n C dJ1_canEncode_fc78d_0 rfl ?_
  refine y_sipush C dJ1_canEncode_fc78d_1 (by decide) rfl ?_
  refine y_icmp_gt C dJ1_canEncode_fc78d_4 (tgt := 11) (by decide) (fun c1 => by exfalso; omega) (fun _ => ?_)
  refine y_iconst C dJ1_canEncode_fc78d_7 rfl ?_
  refine y_goto C dJ1_canEncode_fc78d_8 (tgt := 12) (by decide) ?_
  exact y_nret C Z1 Z2 (by decide) ⟨Nat.le_refl _, Nat.le_refl _⟩ dJ1_canEncode_fc78d_12 ⟨rfl, rfl⟩
/-- the row f of m bytes begins with the letters t -/
def yHold (t : List Int32) (m : Nat) (f : Nat → Int32) : Prop := t.length ≤ m ∧ m ≤ 4000 ∧ sb_Fit f ∧ ∀ i, i < t.length → f i = t.getD i 0
/-- behind a method of the builder's: it holds t -/
def yPB (w : zW) (b : Nat) (t : List Int32) (G1 : Heap → Prop) : Prop := ∃ (da m : Nat) (f : Nat → Int32), G1 = yL w (yW w b da m t.length f) ∧ yHold t m f
theorem yHold.app {t u : List Int32} {m1 : Nat} {f f1 f2 : Nat → Int32} {m : Nat} (h : yHold t m f) (h1 : (t ++ u).length ≤ m1) (h2 : m1 ≤ 4000) (h3 : sb_Fit f2) (h4 : ∀ i, i < m → f1 i = f i) (h5 : ∀ i, i < t.length → f2 i = f1 i) (h6 : ∀ i, i < u.length → f2 (t.length + i) = u.getD i 0) : yHold (t ++ u) m1 f2 := by
  refine ⟨h1, h2, h3, fun i hi => ?_⟩
  rw [List.length_append] at hi
  by_cases hlt : i < t.length
  · rw [h5 i hlt, h4 i (Nat.lt_of_lt_of_le hlt h.1), h.2.2.2 i hlt, List.getD_eq_getElem?_getD, List.getD_eq_getElem?_getD, List.getElem?_append_left hlt]
  · have e : i = t.length + (i - t.length) := by omega
    rw [e, h6 _ (by omega), List.getD_eq_getElem?_getD, List.getD_eq_getElem?_getD, List.getElem?_append_right (by omega), Nat.add_sub_cancel_left]
theorem c_J5_appendC (w : zW) (l : Launch) (b da m : Nat) (t : List Int32) (f : Nat → Int32) (x : Int) (hx : 0 ≤ x ∧ x < 128) (hh : yHold t m f) (hl : t.length + 1 ≤ 1500) : yCt w l yJ5_append_3fe6f cJ5_append_3fe6f 2 (some (.object "java/lang/AbstractStringBuilder")) 4 140 1 3000 [.inr (8, b), .inl x] (yL w (yW w b da m t.length f)) (fun r G1 => r = some (.inr (8, b)) ∧ yPB w b (t ++ [zi x]) G1) := by
  refine yCt.of (own := RJ5) (loc := [some (.inr (8, b)), some (.inl x)]) (by decide +kernel) rfl (Nat.le_of_ble_eq_true rfl) (fun k v hk => ?_) ?_
  · exact zloc_ok 0 rfl hk
  intro p e s m9 args below meth c C hX Z1 Z2 Z3 hN
  have hm4 := hh.2.1
  have hnr : zR (t.length : Int) := ⟨by omega, by omega⟩
  refine y_aload_n C dJ5_append_3fe6f_0 rfl ?_
  refine y_aload_n C dJ5_append_3fe6f_1 rfl ?_
  refine y_get (ci := 8) (j := 3) (q0 := 0) (v := .inl (t.length : Int)) C dJ5_append_3fe6f_2 ⟨RJ4, TJ4, 4, rfl, inTJ4, by decide, (zmem 485 (by decide +kernel))⟩ rfl rfl hnr ?_
  refine y_iconst C dJ5_append_3fe6f_5 rfl ?_
  refine y_iadd C dJ5_append_3fe6f_6 ?_
  refine y_num (y := ((t.length + 1 : Nat) : Int)) (by rw [zw_id ⟨by omega, by omega⟩]; omega) ?_
  refine y_callU (k := 1) (wc := w) C hX dJ5_append_3fe6f_7 ⟨(zmem 507 (by decide +kernel)), (zmem 1209 (by decide +kernel)), Or.inl (by decide), (zmem 509 (by decide +kernel)), (zmem 30 (by decide +kernel)), (zmem 510 (by decide +kernel)), ⟨by decide, by decide⟩, by decide +kernel⟩ (fun _ h => h) (c_J5_ensure w l b da m t.length (t.length + 1) f (by omega) (by omega) hh.2.2.1) (fun H locs hG hS => ⟨y_recv (ci := 8) (q0 := 0) C rfl hG rfl, y_pre C hX hN hG hS⟩) rfl ⟨Nat.le_of_ble_eq_true rfl, Nat.le_of_ble_eq_true rfl⟩ ⟨Nat.le_refl _, by show 0 + 2 * (t.length + 1) ≤ 3000; omega⟩ ⟨rfl, Nat.le_of_ble_eq_true rfl⟩ (fun r G1 hp => ?_)
  obtain ⟨rfl, da1, m1, f1, rfl, e1, e2, e3, e4, e5⟩ := hp
  refine y_to (fun H h => h.1) ?_
  refine y_aload_n C dJ5_append_3fe6f_10 rfl ?_
  refine y_callU (k := 0) (wc := w) C hX dJ5_append_3fe6f_11 ⟨(zmem 540 (by decide +kernel)), (zmem 542 (by decide +kernel)), Or.inr (zmem 543 (by decide +kernel)), (zmem 541 (by decide +kernel)), (zmem 30 (by decide +kernel)), (zmem 544 (by decide +kernel)), ⟨by decide, by decide⟩, by decide +kernel⟩ (fun _ h => h) (c_J5_isLatin1 w l b da1 m1 t.length f1) (fun H locs hG hS => ⟨y_recv (ci := 8) (q0 := 0) C rfl hG rfl, y_pre C hX hN hG hS⟩) rfl ⟨Nat.le_of_ble_eq_true rfl, Nat.le_of_ble_eq_true rfl⟩ ⟨Nat.le_refl _, by show 0 + 2 * (t.length + 1) ≤ 3000; omega⟩ ⟨rfl, Nat.le_of_ble_eq_true rfl⟩ (fun r G1 hp => ?_)
  obtain ⟨rfl, rfl⟩ := hp
  refine y_to (fun H h => h.1) ?_
  refine y_if_eq C dJ5_append_3fe6f_14 (tgt := 45) (by decide) (fun c1 => absurd c1 (by decide)) (fun _ => ?_)
  refine y_iload_n C dJ5_append_3fe6f_17 rfl ?_
  refine y_callS (k := 1) (wc := w) C dJ5_append_3fe6f_18 ⟨(zmem 721 (by decide +kernel)), (zmem 722 (by decide +kernel)), (zmem 38 (by decide +kernel)), (zmem 723 (by decide +kernel)), ⟨by decide, by decide⟩, by decide +kernel⟩ (fun _ h => h) (c_J1_canEncode w l _ x hx) (fun H locs hG hS => y_pre C hX hN hG hS) rfl ⟨Nat.le_of_ble_eq_true rfl, Nat.le_of_ble_eq_true rfl⟩ ⟨Nat.le_refl _, by show 0 + 2 * (t.length + 1) ≤ 3000; omega⟩ ⟨rfl, Nat.le_of_ble_eq_true rfl⟩ (fun r G1 hp => ?_)
  obtain ⟨rfl, rfl⟩ := hp
  refine y_to (fun H h => h.1) ?_
  refine y_if_eq C dJ5_append_3fe6f_21 (tgt := 45) (by decide) (fun c1 => absurd c1 (by decide)) (fun _ => ?_)
  refine y_aload_n C dJ5_append_3fe6f_24 rfl ?_
  refine y_get (ci := 8) (j := 0) (q0 := 0) (v := .inr (14, da1)) C dJ5_append_3fe6f_25 ⟨RJ4, TJ4, 4, rfl, inTJ4, by decide, (zmem 482 (by decide +kernel))⟩ rfl rfl trivial ?_
  refine y_aload_n C dJ5_append_3fe6f_28 rfl ?_
  refine y_dup C dJ5_append_3fe6f_29 ?_
  refine y_get (ci := 8) (j := 3) (q0 := 0) (v := .inl (t.length : Int)) C dJ5_append_3fe6f_30 ⟨RJ4, TJ4, 4, rfl, inTJ4, by decide, (zmem 485 (by decide +kernel))⟩ rfl rfl hnr ?_
  refine y_dup_x1 C dJ5_append_3fe6f_33 ?_
  refine y_iconst C dJ5_append_3fe6f_34 rfl ?_
  refine y_iadd C dJ5_append_3fe6f_35 ?_
  refine y_num (y := ((t.length + 1 : Nat) : Int)) (by rw [zw_id ⟨by omega, by omega⟩]; omega) ?_
  refine y_put (ci := 8) (j := 3) (ty := .int) (q0 := 0) (v := .inl (((t.length + 1 : Nat) : Int))) C dJ5_append_3fe6f_36 ⟨RJ4, TJ4, 4, tyJ4, rfl, inTJ4, by decide, (zmem 485 (by decide +kernel)), tyJ4_ok, nmJ4, rfl, by decide +kernel, fun h => Bool.noConfusion h⟩ rfl rfl rfl (Nat.le_of_ble_eq_true rfl) ?_
  refine y_iload_n C dJ5_append_3fe6f_39 rfl ?_
  refine y_i2b C dJ5_append_3fe6f_40 ?_
  refine y_num (y := x) (zi2b_s hx) ?_
  refine y_bast (q0 := 1) (i := t.length) (n := m1) C dJ5_append_3fe6f_41 rfl rfl (by omega) hx ?_
  refine y_goto C dJ5_append_3fe6f_42 (tgt := 75) (by decide) ?_
  refine y_aload_n C dJ5_append_3fe6f_75 rfl ?_
  refine y_to (G' := yL w (yW w b da1 m1 (t ++ [zi x]).length (upd f1 t.length (zi x)))) (fun H h => by rw [show (t ++ [zi x]).length = t.length + 1 by simp]; exact h) ?_
  exact y_aret C Z1 (Or.inl ⟨_, rfl⟩) Z2 ⟨Nat.le_refl _, by show 0 + 2 * (t.length + 1) ≤ 3000; omega⟩ dJ5_append_3fe6f_76 ⟨rfl, da1, m1, _, rfl, hh.app (f1 := f1) (by simpa using e1) (by omega) (sb_fitU e4 (y_fits (by rw [zi_toInt ⟨by omega, by omega⟩]; exact hx))) e5 (fun i hi => by unfold upd; rw [if_neg (by omega)]) (fun i hi => by
    obtain rfl : i = 0 := by simpa using hi
    unfold upd
    rw [if_pos (by omega)]
    rfl)⟩
