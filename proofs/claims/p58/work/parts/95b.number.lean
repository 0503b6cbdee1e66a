/-! The JDK's StringBuilder: append of a number; its constructor. -/
/-- two digits, or one, laid before p -/
def yPut2 (f : Nat → Int32) (p k : Nat) : Nat → Int32 := if k < 10 then upd f (p - 1) (yC (k % 10)) else upd (upd f (p - 1) (yC (k % 10))) (p - 2) (yC (k / 10))
theorem y_gcTail {w : zW} {p : Program} {l : Launch} {e : Env} {R : Room} {s : State} {m9 : MethodId} {args : Array Value} {below : List Frame} {meth : Method} {c : Code} {cells slots : Nat} {Q : State → Prop} {b da m cnt k pp : Nat} {f : Nat → Int32} {l1 l3 l4 : Option zv} (C : zC w p s m9 args c 7 cJ6_getChars_ba4f3 RJ6) (hX : yX w s s.heap) (hk : k < 100) (hp : (if k < 10 then 1 else 2) ≤ pp) (hm : pp ≤ m) (hm2 : m ≤ 100000)
    (kk : ∀ x : Int, zR x → yS w p l e R s m9 args below meth c 7 cells slots Q 120 [some (.inl (-(k : Int))), l1, some (.inr (14, da)), l3, l4, some (.inl x), some (.inl 0)] [.inl x] (yL w (yW w b da m cnt (yPut2 f pp k)))) :
    yS w p l e R s m9 args below meth c 7 cells slots Q 72 [some (.inl (-(k : Int))), l1, some (.inr (14, da)), l3, l4, some (.inl (pp : Int)), some (.inl 0)] [] (yL w (yW w b da m cnt f)) := by
  have hp1 : 1 ≤ pp := by split at hp <;> omega
  refine y_aload_n C dJ6_getChars_ba4f3_72 rfl ?_
  refine y_iinc C dJ6_getChars_ba4f3_73 rfl (by decide) ?_
  rw [show zw ((pp : Int) + -1) = ((pp - 1 : Nat) : Int) by rw [zw_id ⟨by omega, by omega⟩]; omega]
  refine y_iload C dJ6_getChars_ba4f3_76 rfl ?_
  refine y_gstD (k := 0) C hX (by decide) dJ6_getChars_ba4f3_78 (zmem 627 (by decide +kernel)) ?_
  refine y_iload_n C dJ6_getChars_ba4f3_81 rfl ?_
  refine y_ineg C dJ6_getChars_ba4f3_82 ?_
  refine y_num (y := (k : Int)) (by rw [zw_id ⟨by omega, by omega⟩]; omega) ?_
  refine y_baldD (k := 0) (j := k) C hX (by decide) (by omega) (rfl) dJ6_getChars_ba4f3_83 ?_
  refine y_num (y := ((k % 10 : Nat) : Int) + 48) rfl ?_
  refine y_bast (q0 := 1) (i := (pp - 1)) (n := m) C dJ6_getChars_ba4f3_84 rfl (rfl) (by omega) ⟨by omega, by omega⟩ ?_
  refine y_iload_n C dJ6_getChars_ba4f3_85 rfl ?_
  refine y_bipush C dJ6_getChars_ba4f3_86 (by decide) rfl ?_
  refine y_icmp_ge C dJ6_getChars_ba4f3_88 (tgt := 104) (by decide) (fun c1 => ?_) (fun c1 => ?_)
  · have h10 : k < 10 := by omega
    refine y_iload C dJ6_getChars_ba4f3_104 rfl ?_
    refine y_if_eq C dJ6_getChars_ba4f3_106 (tgt := 118) (by decide) (fun _ => ?_) (fun c2 => absurd rfl c2)
    refine y_iload C dJ6_getChars_ba4f3_118 rfl ?_
    refine y_to (G' := yL w (yW w b da m cnt (yPut2 f pp k))) (fun H h => by unfold yPut2; rw [if_pos h10]; exact h) ?_
    exact kk _ ⟨by omega, by omega⟩
  · have h10 : ¬ k < 10 := by omega
    rw [if_neg h10] at hp
    refine y_aload_n C dJ6_getChars_ba4f3_91 rfl ?_
    refine y_iinc C dJ6_getChars_ba4f3_92 rfl (by decide) ?_
    rw [show zw (((pp - 1 : Nat) : Int) + -1) = ((pp - 2 : Nat) : Int) by rw [zw_id ⟨by omega, by omega⟩]; omega]
    refine y_iload C dJ6_getChars_ba4f3_95 rfl ?_
    refine y_gstD (k := 1) C hX (by decide) dJ6_getChars_ba4f3_97 (zmem 629 (by decide +kernel)) ?_
    refine y_iload_n C dJ6_getChars_ba4f3_100 rfl ?_
    refine y_ineg C dJ6_getChars_ba4f3_101 ?_
    refine y_num (y := (k : Int)) (by rw [zw_id ⟨by omega, by omega⟩]; omega) ?_
    refine y_baldD (k := 1) (j := k) C hX (by decide) (by omega) (rfl) dJ6_getChars_ba4f3_102 ?_
    refine y_num (y := ((k / 10 : Nat) : Int) + 48) rfl ?_
    refine y_bast (q0 := 1) (i := (pp - 2)) (n := m) C dJ6_getChars_ba4f3_103 rfl (rfl) (by omega) ⟨by omega, by omega⟩ ?_
    refine y_iload C dJ6_getChars_ba4f3_104 rfl ?_
    refine y_if_eq C dJ6_getChars_ba4f3_106 (tgt := 118) (by decide) (fun _ => ?_) (fun c2 => absurd rfl c2)
    refine y_iload C dJ6_getChars_ba4f3_118 rfl ?_
    refine y_to (G' := yL w (yW w b da m cnt (yPut2 f pp k))) (fun H h => by unfold yPut2; rw [if_neg h10]; exact h) ?_
    exact kk _ ⟨by omega, by omega⟩
theorem yFit_C {d : Nat} (h : d < 10) : fits .byte (.int (yC d)) = true := by
  refine y_fits ?_
  unfold yC
  rw [zi_toInt ⟨by omega, by omega⟩]
  omega
theorem yPut2_fit {f : Nat → Int32} {p k : Nat} (h : sb_Fit f) (hk : k < 100) : sb_Fit (yPut2 f p k) := by
  unfold yPut2
  split
  · exact sb_fitU h (yFit_C (by omega))
  · exact sb_fitU (sb_fitU h (yFit_C (by omega))) (yFit_C (by omega))
/-- all digits of n, laid before p -/
def yPut4 (f : Nat → Int32) (p n : Nat) : Nat → Int32 := if n < 100 then yPut2 f p n else yPut2 (upd (upd f (p - 1) (yC (n % 100 % 10))) (p - 2) (yC (n % 100 / 10))) (p - 2) (n / 100)
theorem yPut4_fit {f : Nat → Int32} {p n : Nat} (h : sb_Fit f) (hn : n < 10000) : sb_Fit (yPut4 f p n) := by
  unfold yPut4
  split
  · exact yPut2_fit h (by omega)
  · exact yPut2_fit (sb_fitU (sb_fitU h (yFit_C (by omega))) (yFit_C (by omega))) (by omega)
theorem yPut4_lo {f : Nat → Int32} {p n i : Nat} (hp : yLen n ≤ p) (hi : i < p - yLen n) : yPut4 f p n i = f i := by
  have e2 : ∀ {g : Nat → Int32} {q k : Nat}, i < q - (if k < 10 then 1 else 2) → yPut2 g q k i = g i := fun {g q k} h => by
    unfold yPut2 upd
    by_cases h1 : k < 10
    · rw [if_pos h1] at h ⊢
      show (if i = q - 1 then _ else g i) = g i
      rw [if_neg (by omega)]
    · rw [if_neg h1] at h ⊢
      show (if i = q - 2 then _ else if i = q - 1 then _ else g i) = g i
      rw [if_neg (by omega), if_neg (by omega)]
  unfold yLen at hp hi
  unfold yPut4
  by_cases h2 : n < 100
  · rw [if_pos h2]
    refine e2 ?_
    (repeat' split at hp) <;> (repeat' split) <;> (repeat' split at hi) <;> omega
  · rw [if_neg h2, e2 (by (repeat' split at hp) <;> (repeat' split) <;> (repeat' split at hi) <;> omega)]
    have h3 : i < p - 2 := by (repeat' split at hp) <;> (repeat' split at hi) <;> omega
    unfold upd
    show (if i = p - 2 then _ else if i = p - 1 then _ else f i) = f i
    rw [if_neg (by omega), if_neg (by omega)]
theorem yPut4_at {f : Nat → Int32} {p n i : Nat} (hn : n < 10000) (hp : yLen n ≤ p) (hi : i < yLen n) : yPut4 f p n (p - yLen n + i) = (yDig n).getD i 0 := by
  have e1 : n % 100 % 10 = n % 10 := by omega
  have e2 : n % 100 / 10 = n / 10 % 10 := by omega
  by_cases h1 : n < 10
  · unfold yLen at hp hi ⊢
    rw [if_pos h1] at hp hi ⊢
    obtain rfl : i = 0 := by omega
    unfold yPut4 yPut2 yDig upd
    rw [if_pos (by omega), if_pos h1, if_pos (by omega), if_pos h1, Nat.mod_eq_of_lt h1]
    rfl
  by_cases h2 : n < 100
  · unfold yLen at hp hi ⊢
    rw [if_neg h1, if_pos h2] at hp hi ⊢
    unfold yPut4 yPut2 yDig upd
    rw [if_pos h2, if_neg h1, if_neg h1, if_pos h2]
    show (if p - 2 + i = p - 2 then yC (n / 10) else if p - 2 + i = p - 1 then yC (n % 10) else f (p - 2 + i)) = _
    match i, hi with
    | 0, _ => rw [if_pos (by omega)]; rfl
    | 1, _ => rw [if_neg (by omega), if_pos (by omega)]; rfl
  by_cases h3 : n < 1000
  · unfold yLen at hp hi ⊢
    rw [if_neg h1, if_neg h2, if_pos h3] at hp hi ⊢
    unfold yPut4 yPut2 yDig upd
    rw [if_neg h2, if_pos (show n / 100 < 10 by omega), if_neg h1, if_neg h2, if_pos h3, e1, e2]
    show (if p - 3 + i = p - 2 - 1 then yC (n / 100 % 10) else if p - 3 + i = p - 2 then yC (n / 10 % 10) else if p - 3 + i = p - 1 then yC (n % 10) else f (p - 3 + i)) = _
    match i, hi with
    | 0, _ => rw [if_pos (by omega), Nat.mod_eq_of_lt (show n / 100 < 10 by omega)]; rfl
    | 1, _ => rw [if_neg (by omega), if_pos (by omega)]; rfl
    | 2, _ => rw [if_neg (by omega), if_neg (by omega), if_pos (by omega)]; rfl
  · unfold yLen at hp hi ⊢
    rw [if_neg h1, if_neg h2, if_neg h3] at hp hi ⊢
    unfold yPut4 yPut2 yDig upd
    rw [if_neg h2, if_neg (show ¬ n / 100 < 10 by omega), if_neg h1, if_neg h2, if_neg h3, e1, e2, Nat.div_div_eq_div_mul]
    show (if p - 4 + i = p - 2 - 2 then yC (n / (100 * 10)) else if p - 4 + i = p - 2 - 1 then yC (n / 100 % 10) else if p - 4 + i = p - 2 then yC (n / 10 % 10) else if p - 4 + i = p - 1 then yC (n % 10) else f (p - 4 + i)) = _
    match i, hi with
    | 0, _ => rw [if_pos (by omega)]; rfl
    | 1, _ => rw [if_neg (by omega), if_pos (by omega)]; rfl
    | 2, _ => rw [if_neg (by omega), if_neg (by omega), if_pos (by omega)]; rfl
    | 3, _ => rw [if_neg (by omega), if_neg (by omega), if_neg (by omega), if_pos (by omega)]; rfl
theorem c_J6_getChars (w : zW) (l : Launch) (b da m cnt n pp : Nat) (f : Nat → Int32) (hn : n < 10000) (hp : yLen n ≤ pp) (hm : pp ≤ m) (hm2 : m ≤ 100000) : yCt w l yJ6_getChars_ba4f3 cJ6_getChars_ba4f3 7 (some .int) 0 0 0 0 [.inl (n : Int), .inl (pp : Int), .inr (14, da)] (yL w (yW w b da m cnt f)) (fun r G1 => ∃ x : Int, r = some (.inl x) ∧ G1 = yL w (yW w b da m cnt (yPut4 f pp n))) := by
  refine yCt.of (own := RJ6) (loc := [some (.inl (n : Int)), some (.inl (pp : Int)), some (.inr (14, da)), none, none, none, none]) (by decide +kernel) rfl (Nat.le_of_ble_eq_true rfl) (fun k v hk => ?_) ?_
  · exact zloc_ok 4 rfl hk
  intro p e s m9 args below meth c C hX Z1 Z2 Z3 hN
  refine y_iload_n C dJ6_getChars_ba4f3_0 rfl ?_
  refine y_istore C dJ6_getChars_ba4f3_1 (by decide) ?_
  refine y_iload_n C dJ6_getChars_ba4f3_3 rfl ?_
  refine y_if_ge C dJ6_getChars_ba4f3_4 (tgt := 11) (by decide) (fun _ => ?_) (fun c1 => by exfalso; omega)
  refine y_iconst C dJ6_getChars_ba4f3_11 rfl ?_
  refine y_istore C dJ6_getChars_ba4f3_12 (by decide) ?_
  refine y_iload C dJ6_getChars_ba4f3_14 rfl ?_
  refine y_if_ne C dJ6_getChars_ba4f3_16 (tgt := 22) (by decide) (fun c1 => absurd rfl c1) (fun _ => ?_)
  refine y_iload_n C dJ6_getChars_ba4f3_19 rfl ?_
  refine y_ineg C dJ6_getChars_ba4f3_20 ?_
  refine y_num (y := -(n : Int)) (zw_id ⟨by omega, by omega⟩) ?_
  refine y_istore_n C dJ6_getChars_ba4f3_21 (by decide) ?_
  refine y_iload_n C dJ6_getChars_ba4f3_22 rfl ?_
  refine y_bipush C dJ6_getChars_ba4f3_23 (by decide) rfl ?_
  refine y_icmp_gt C dJ6_getChars_ba4f3_25 (tgt := 72) (by decide) (fun c1 => ?_) (fun c1 => ?_)
  · have h100 : n < 100 := by omega
    refine y_gcTail (k := n) (pp := pp) C hX h100 (by unfold yLen at hp; (repeat' split at hp) <;> (repeat' split) <;> omega) hm hm2 (fun x hx => ?_)
    refine y_to (G' := yL w (yW w b da m cnt (yPut4 f pp n))) (fun H h => by unfold yPut4; rw [if_pos h100]; exact h) ?_
    exact y_nret C Z1 Z2 rfl ⟨Nat.le_refl _, Nat.le_refl _⟩ dJ6_getChars_ba4f3_120 ⟨x, rfl, rfl⟩
  · have h100 : ¬ n < 100 := by omega
    have hp3 : (if n / 100 < 10 then 1 else 2) ≤ pp - 2 ∧ 3 ≤ pp := by unfold yLen at hp; (repeat' split at hp) <;> (repeat' split) <;> omega
    refine y_iload_n C dJ6_getChars_ba4f3_28 rfl ?_
    refine y_bipush C dJ6_getChars_ba4f3_29 (by decide) rfl ?_
    refine y_idiv C dJ6_getChars_ba4f3_31 (by decide) ?_
    refine y_num (y := -((n / 100 : Nat) : Int)) (by rw [Int.neg_tdiv, Int.tdiv_eq_ediv_of_nonneg (by omega), zw_id ⟨by omega, by omega⟩]; omega) ?_
    refine y_istore_n C dJ6_getChars_ba4f3_32 (by decide) ?_
    refine y_iload_n C dJ6_getChars_ba4f3_33 rfl ?_
    refine y_bipush C dJ6_getChars_ba4f3_34 (by decide) rfl ?_
    refine y_imul C dJ6_getChars_ba4f3_36 ?_
    refine y_num (y := -((n / 100 * 100 : Nat) : Int)) (by rw [zw_id ⟨by omega, by omega⟩]; omega) ?_
    refine y_iload_n C dJ6_getChars_ba4f3_37 rfl ?_
    refine y_isub C dJ6_getChars_ba4f3_38 ?_
    refine y_num (y := ((n % 100 : Nat) : Int)) (by rw [zw_id ⟨by omega, by omega⟩]; omega) ?_
    refine y_istore C dJ6_getChars_ba4f3_39 (by decide) ?_
    refine y_iload_n C dJ6_getChars_ba4f3_41 rfl ?_
    refine y_istore_n C dJ6_getChars_ba4f3_42 (by decide) ?_
    refine y_aload_n C dJ6_getChars_ba4f3_43 rfl ?_
    refine y_iinc C dJ6_getChars_ba4f3_44 rfl (by decide) ?_
    rw [show zw ((pp : Int) + -1) = ((pp - 1 : Nat) : Int) by rw [zw_id ⟨by omega, by omega⟩]; omega]
    refine y_iload C dJ6_getChars_ba4f3_47 rfl ?_
    refine y_gstD (k := 0) C hX (by decide) dJ6_getChars_ba4f3_49 (zmem 627 (by decide +kernel)) ?_
    refine y_iload C dJ6_getChars_ba4f3_52 rfl ?_
    refine y_baldD (k := 0) (j := (n % 100)) C hX (by decide) (by omega) (rfl) dJ6_getChars_ba4f3_54 ?_
    refine y_num (y := (((n % 100) % 10 : Nat) : Int) + 48) rfl ?_
    refine y_bast (q0 := 1) (i := (pp - 1)) (n := m) C dJ6_getChars_ba4f3_55 rfl (rfl) (by omega) ⟨by omega, by omega⟩ ?_
    refine y_aload_n C dJ6_getChars_ba4f3_56 rfl ?_
    refine y_iinc C dJ6_getChars_ba4f3_57 rfl (by decide) ?_
    rw [show zw (((pp - 1 : Nat) : Int) + -1) = ((pp - 2 : Nat) : Int) by rw [zw_id ⟨by omega, by omega⟩]; omega]
    refine y_iload C dJ6_getChars_ba4f3_60 rfl ?_
    refine y_gstD (k := 1) C hX (by decide) dJ6_getChars_ba4f3_62 (zmem 629 (by decide +kernel)) ?_
    refine y_iload C dJ6_getChars_ba4f3_65 rfl ?_
    refine y_baldD (k := 1) (j := (n % 100)) C hX (by decide) (by omega) (rfl) dJ6_getChars_ba4f3_67 ?_
    refine y_num (y := (((n % 100) / 10 : Nat) : Int) + 48) rfl ?_
    refine y_bast (q0 := 1) (i := (pp - 2)) (n := m) C dJ6_getChars_ba4f3_68 rfl (rfl) (by omega) ⟨by omega, by omega⟩ ?_
    refine y_goto C dJ6_getChars_ba4f3_69 (tgt := 22) (by decide) ?_
    refine y_iload_n C dJ6_getChars_ba4f3_22 rfl ?_
    refine y_bipush C dJ6_getChars_ba4f3_23 (by decide) rfl ?_
    refine y_icmp_gt C dJ6_getChars_ba4f3_25 (tgt := 72) (by decide) (fun c2 => ?_) (fun c2 => by exfalso; omega)
    refine y_gcTail (k := n / 100) (pp := pp - 2) C hX (by omega) hp3.1 (by omega) hm2 (fun x hx => ?_)
    refine y_to (G' := yL w (yW w b da m cnt (yPut4 f pp n))) (fun H h => by unfold yPut4; rw [if_neg h100]; exact h) ?_
    exact y_nret C Z1 Z2 rfl ⟨Nat.le_refl _, Nat.le_refl _⟩ dJ6_getChars_ba4f3_120 ⟨x, rfl, rfl⟩
theorem c_J5_appendI (w : zW) (l : Launch) (b da m : Nat) (t : List Int32) (f : Nat → Int32) (n : Nat) (hn : n < 10000) (hh : yHold t m f) (hl : t.length + 4 ≤ 1500) : yCt w l yJ5_append_c97b9 cJ5_append_c97b9 4 (some (.object "java/lang/AbstractStringBuilder")) 4 150 1 3000 [.inr (8, b), .inl (n : Int)] (yL w (yW w b da m t.length f)) (fun r G1 => r = some (.inr (8, b)) ∧ yPB w b (t ++ yDig n) G1) := by
  refine yCt.of (own := RJ5) (loc := [some (.inr (8, b)), some (.inl (n : Int)), none, none]) (by decide +kernel) rfl (Nat.le_of_ble_eq_true rfl) (fun k v hk => ?_) ?_
  · exact zloc_ok 2 rfl hk
  intro p e s m9 args below meth c C hX Z1 Z2 Z3 hN
  have hm4 := hh.2.1
  have hnr : zR (t.length : Int) := ⟨by omega, by omega⟩
  have hlb := yLen_b n
  refine y_aload_n C dJ5_append_c97b9_0 rfl ?_
  refine y_get (ci := 8) (j := 3) (q0 := 0) (v := .inl (t.length : Int)) C dJ5_append_c97b9_1 ⟨RJ4, TJ4, 4, rfl, inTJ4, by decide, (zmem 485 (by decide +kernel))⟩ rfl rfl hnr ?_
  refine y_istore_n C dJ5_append_c97b9_4 (by decide) ?_
  refine y_iload_n C dJ5_append_c97b9_5 rfl ?_
  refine y_iload_n C dJ5_append_c97b9_6 rfl ?_
  refine y_callS (k := 1) (wc := w) C dJ5_append_c97b9_7 ⟨(zmem 621 (by decide +kernel)), (zmem 622 (by decide +kernel)), (zmem 39 (by decide +kernel)), (zmem 623 (by decide +kernel)), ⟨by decide, by decide⟩, by decide +kernel⟩ (fun _ h => h) (c_J6_stringSize w l _ n hn) (fun H locs hG hS => y_pre C hX hN hG hS) rfl ⟨Nat.le_of_ble_eq_true rfl, Nat.le_of_ble_eq_true rfl⟩ ⟨Nat.zero_le _, Nat.zero_le _⟩ ⟨rfl, Nat.le_of_ble_eq_true rfl⟩ (fun r G1 hp => ?_)
  obtain ⟨rfl, rfl⟩ := hp
  refine y_to (fun H h => h.1) ?_
  refine y_iadd C dJ5_append_c97b9_10 ?_
  refine y_num (y := ((t.length + yLen n : Nat) : Int)) (by rw [zw_id ⟨by omega, by omega⟩]; omega) ?_
  refine y_istore_n C dJ5_append_c97b9_11 (by decide) ?_
  refine y_aload_n C dJ5_append_c97b9_12 rfl ?_
  refine y_iload_n C dJ5_append_c97b9_13 rfl ?_
  refine y_callU (k := 1) (wc := w) C hX dJ5_append_c97b9_14 ⟨(zmem 507 (by decide +kernel)), (zmem 1209 (by decide +kernel)), Or.inl (by decide), (zmem 509 (by decide +kernel)), (zmem 30 (by decide +kernel)), (zmem 510 (by decide +kernel)), ⟨by decide, by decide⟩, by decide +kernel⟩ (fun _ h => h) (c_J5_ensure w l b da m t.length (t.length + yLen n) f (by omega) (by omega) hh.2.2.1) (fun H locs hG hS => ⟨y_recv (ci := 8) (q0 := 0) C rfl hG rfl, y_pre C hX hN hG hS⟩) rfl ⟨Nat.le_of_ble_eq_true rfl, Nat.le_of_ble_eq_true rfl⟩ ⟨Nat.le_refl _, by show 0 + 2 * (t.length + yLen n) ≤ 3000; omega⟩ ⟨rfl, Nat.le_of_ble_eq_true rfl⟩ (fun r G1 hp => ?_)
  obtain ⟨rfl, da1, m1, f1, rfl, e1, e2, e3, e4, e5⟩ := hp
  refine y_to (fun H h => h.1) ?_
  refine y_aload_n C dJ5_append_c97b9_17 rfl ?_
  refine y_callU (k := 0) (wc := w) C hX dJ5_append_c97b9_18 ⟨(zmem 540 (by decide +kernel)), (zmem 542 (by decide +kernel)), Or.inr (zmem 543 (by decide +kernel)), (zmem 541 (by decide +kernel)), (zmem 30 (by decide +kernel)), (zmem 544 (by decide +kernel)), ⟨by decide, by decide⟩, by decide +kernel⟩ (fun _ h => h) (c_J5_isLatin1 w l b da1 m1 t.length f1) (fun H locs hG hS => ⟨y_recv (ci := 8) (q0 := 0) C rfl hG rfl, y_pre C hX hN hG hS⟩) rfl ⟨Nat.le_of_ble_eq_true rfl, Nat.le_of_ble_eq_true rfl⟩ ⟨Nat.le_refl _, by show 0 + 2 * (t.length + yLen n) ≤ 3000; omega⟩ ⟨rfl, Nat.le_of_ble_eq_true rfl⟩ (fun r G1 hp => ?_)
  obtain ⟨rfl, rfl⟩ := hp
  refine y_to (fun H h => h.1) ?_
  refine y_if_eq C dJ5_append_c97b9_21 (tgt := 37) (by decide) (fun c1 => absurd c1 (by decide)) (fun _ => ?_)
  refine y_iload_n C dJ5_append_c97b9_24 rfl ?_
  refine y_iload_n C dJ5_append_c97b9_25 rfl ?_
  refine y_aload_n C dJ5_append_c97b9_26 rfl ?_
  refine y_get (ci := 8) (j := 0) (q0 := 0) (v := .inr (14, da1)) C dJ5_append_c97b9_27 ⟨RJ4, TJ4, 4, rfl, inTJ4, by decide, (zmem 482 (by decide +kernel))⟩ rfl rfl trivial ?_
  refine y_callS (k := 3) (wc := w) C dJ5_append_c97b9_30 ⟨(zmem 624 (by decide +kernel)), (zmem 625 (by decide +kernel)), (zmem 39 (by decide +kernel)), (zmem 626 (by decide +kernel)), ⟨by decide, by decide⟩, by decide +kernel⟩ (fun _ h => h) (c_J6_getChars w l b da1 m1 t.length n (t.length + yLen n) f1 hn (by omega) e1 (by omega)) (fun H locs hG hS => y_pre C hX hN hG hS) rfl ⟨Nat.le_of_ble_eq_true rfl, Nat.le_of_ble_eq_true rfl⟩ ⟨Nat.le_refl _, by show 0 + 2 * (t.length + yLen n) ≤ 3000; omega⟩ ⟨rfl, Nat.le_of_ble_eq_true rfl⟩ (fun r G1 hp => ?_)
  obtain ⟨x9, rfl, rfl⟩ := hp
  refine y_to (fun H h => h.1) ?_
  refine y_pop C dJ5_append_c97b9_33 ?_
  refine y_goto C dJ5_append_c97b9_34 (tgt := 48) (by decide) ?_
  refine y_aload_n C dJ5_append_c97b9_48 rfl ?_
  refine y_iload_n C dJ5_append_c97b9_49 rfl ?_
  refine y_put (ci := 8) (j := 3) (ty := .int) (q0 := 0) (v := .inl (((t.length + yLen n : Nat) : Int))) C dJ5_append_c97b9_50 ⟨RJ4, TJ4, 4, tyJ4, rfl, inTJ4, by decide, (zmem 485 (by decide +kernel)), tyJ4_ok, nmJ4, rfl, by decide +kernel, fun h => Bool.noConfusion h⟩ rfl rfl rfl (Nat.le_of_ble_eq_true rfl) ?_
  refine y_aload_n C dJ5_append_c97b9_53 rfl ?_
  refine y_to (G' := yL w (yW w b da1 m1 (t ++ yDig n).length (yPut4 f1 (t.length + yLen n) n))) (fun H h => by rw [List.length_append, yDig_len]; exact h) ?_
  exact y_aret C Z1 (Or.inl ⟨_, rfl⟩) Z2 ⟨Nat.le_refl _, by show 0 + 2 * (t.length + yLen n) ≤ 3000; omega⟩ dJ5_append_c97b9_54 ⟨rfl, da1, m1, _, rfl, hh.app (f1 := f1) (by rw [List.length_append, yDig_len]; exact e1) (by omega) (yPut4_fit e4 hn) e5 (fun i hi => yPut4_lo (by omega) (by omega)) (fun i hi => by
    rw [yDig_len] at hi
    have := yPut4_at (f := f1) (p := t.length + yLen n) hn (by omega) hi
    rwa [Nat.add_sub_cancel] at this)⟩
theorem c_J4_appendI (w : zW) (l : Launch) (b da m : Nat) (t : List Int32) (f : Nat → Int32) (n : Nat) (hn : n < 10000) (hh : yHold t m f) (hl : t.length + 4 ≤ 1500) : yCt w l yJ4_append_bf812 cJ4_append_bf812 2 (some (.object "java/lang/StringBuilder")) 5 190 1 3000 [.inr (8, b), .inl (n : Int)] (yL w (yW w b da m t.length f)) (fun r G1 => r = some (.inr (8, b)) ∧ yPB w b (t ++ yDig n) G1) := by
  refine yCt.of (own := RJ4) (loc := [some (.inr (8, b)), some (.inl (n : Int))]) (by decide +kernel) rfl (Nat.le_of_ble_eq_true rfl) (fun k v hk => ?_) ?_
  · exact zloc_ok 0 rfl hk
  intro p e s m9 args below meth c C hX Z1 Z2 Z3 hN
  have hm4 := hh.2.1
  have hnr : zR (t.length : Int) := ⟨by omega, by omega⟩
  refine y_aload_n C dJ4_append_bf812_0 rfl ?_
  refine y_iload_n C dJ4_append_bf812_1 rfl ?_
  refine y_callSU (k := 1) (wc := w) C dJ4_append_bf812_2 ⟨(zmem 618 (by decide +kernel)), (zmem 1214 (by decide +kernel)), (zmem 494 (by decide +kernel)), (zmem 619 (by decide +kernel)), (zmem 30 (by decide +kernel)), (zmem 620 (by decide +kernel)), by decide, by decide +kernel⟩ (fun _ h => h) (c_J5_appendI w l b da m t f n hn hh hl) (fun H locs hG hS => ⟨y_recv (ci := 8) (q0 := 0) C rfl hG rfl, y_pre C hX hN hG hS⟩) rfl ⟨Nat.le_of_ble_eq_true rfl, Nat.le_of_ble_eq_true rfl⟩ ⟨Nat.le_refl _, Nat.le_of_eq (Nat.zero_add _)⟩ ⟨rfl, Nat.le_of_ble_eq_true rfl⟩ (fun r G1 hp => ?_)
  obtain ⟨rfl, h1⟩ := hp
  refine y_to (fun H h => h.1) ?_
  refine y_pop C dJ4_append_bf812_5 ?_
  refine y_aload_n C dJ4_append_bf812_6 rfl ?_
  exact y_aret C Z1 (Or.inl ⟨_, rfl⟩) Z2 ⟨Nat.le_refl _, Nat.le_of_eq (Nat.zero_add _)⟩ dJ4_append_bf812_7 ⟨rfl, h1⟩
/-- a new builder's fields -/
def yF0 : List Value := [.null, zval (.inl 0), zval (.inl 0), zval (.inl 0)]
theorem c_J5_init (w : zW) (l : Launch) (b : Nat) : yCt w l yJ5_init_d00df cJ5_init_d00df 2 none 1 20 1 16 [.inr (8, b), .inl ((16 : Nat) : Int)] (yL w [(b, .inr (8, yF0))]) (fun r G1 => r = none ∧ ∃ da : Nat, G1 = yL w (yW w b da 16 0 (fun _ => 0))) := by
  refine yCt.of (own := RJ5) (loc := [some (.inr (8, b)), some (.inl ((16 : Nat) : Int))]) (by decide +kernel) rfl (Nat.le_of_ble_eq_true rfl) (fun k v hk => ?_) ?_
  · exact zloc_ok 0 rfl hk
  intro p e s m9 args below meth c C hX Z1 Z2 Z3 hN
  refine y_aload_n C dJ5_init_d00df_0 rfl ?_
  refine y_objInit C (zmem 472 (by decide +kernel)) dJ5_init_d00df_1 ⟨Nat.le_of_ble_eq_true rfl, Nat.le_of_ble_eq_true rfl⟩ ?_
  refine y_gstC C dJ5_init_d00df_4 (zmem 473 (by decide +kernel)) ?_
  refine y_if_eq C dJ5_init_d00df_7 (tgt := 25) (by decide) (fun c1 => absurd c1 (by decide)) (fun _ => ?_)
  refine y_aload_n C dJ5_init_d00df_10 rfl ?_
  refine y_iload_n C dJ5_init_d00df_11 rfl ?_
  refine y_newB (N := 16) C (by decide) hN ⟨Nat.le_refl _, Nat.le_refl _⟩ (zmem 131 (by decide +kernel)) dJ5_init_d00df_12 (fun q hq0 => ?_)
  refine y_put (ci := 8) (j := 0) (ty := .array .byte) (q0 := 0) (v := .inr (14, q)) C dJ5_init_d00df_14 ⟨RJ4, TJ4, 4, tyJ4, rfl, inTJ4, by decide, (zmem 482 (by decide +kernel)), tyJ4_ok, nmJ4, rfl, by decide +kernel, fun h => Bool.noConfusion h⟩ rfl rfl rfl (Nat.le_of_ble_eq_true rfl) ?_
  refine y_aload_n C dJ5_init_d00df_17 rfl ?_
  refine y_iconst C dJ5_init_d00df_18 rfl ?_
  refine y_put (ci := 8) (j := 1) (ty := .byte) (q0 := 0) (v := .inl 0) C dJ5_init_d00df_19 ⟨RJ4, TJ4, 4, tyJ4, rfl, inTJ4, by decide, (zmem 483 (by decide +kernel)), tyJ4_ok, nmJ4, rfl, by decide +kernel, fun h => Bool.noConfusion h⟩ rfl (by decide) (by decide) (Nat.le_of_ble_eq_true rfl) ?_
  refine y_goto C dJ5_init_d00df_22 (tgt := 38) (by decide) ?_
  exact y_vret C Z1 Z2 ⟨Nat.le_refl _, Nat.le_refl _⟩ dJ5_init_d00df_38 ⟨rfl, q, rfl⟩
theorem c_J4_init (w : zW) (l : Launch) (b : Nat) : yCt w l yJ4_init_da8c8 cJ4_init_da8c8 1 none 2 60 1 16 [.inr (8, b)] (yL w [(b, .inr (8, yF0))]) (fun r G1 => r = none ∧ yPB w b [] G1) := by
  refine yCt.of (own := RJ4) (loc := [some (.inr (8, b))]) (by decide +kernel) rfl (Nat.le_of_ble_eq_true rfl) (fun k v hk => ?_) ?_
  · exact zloc_ok 0 rfl hk
  intro p e s m9 args below meth c C hX Z1 Z2 Z3 hN
  refine y_aload_n C dJ4_init_da8c8_0 rfl ?_
  refine y_bipush C dJ4_init_da8c8_1 (by decide) rfl ?_
  refine y_callI (k := 1) (wc := w) C dJ4_init_da8c8_3 ⟨rfl, (zmem 469 (by decide +kernel)), (zmem 470 (by decide +kernel)), (zmem 30 (by decide +kernel)), (zmem 471 (by decide +kernel)), ⟨by decide, by decide⟩, by decide +kernel⟩ (fun _ h => h) (c_J5_init w l b) (fun H locs hG hS => y_pre C hX hN hG hS) rfl ⟨Nat.le_of_ble_eq_true rfl, Nat.le_of_ble_eq_true rfl⟩ ⟨Nat.le_refl _, Nat.le_refl _⟩ ⟨rfl, Nat.le_of_ble_eq_true rfl⟩ (fun r G1 hp => ?_)
  obtain ⟨rfl, da, rfl⟩ := hp
  refine y_to (fun H h => h.1) ?_
  exact y_vret C Z1 Z2 ⟨Nat.le_refl _, Nat.le_refl _⟩ dJ4_init_da8c8_6 ⟨rfl, da, 16, _, rfl, Nat.zero_le _, by decide, sb_fit0, fun i hi => absurd hi (Nat.not_lt_zero _)⟩
